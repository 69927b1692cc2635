section
def RX0 : String := "ChainLetters$Askings"
def TX0 : u_T := fun k => match k with
  | 0 => ("ChainLetters$Askings", "doing", "[I", true)
  | _ => ("ChainLetters$Askings", "asked", "[I", true)
def tyX0 : Nat → FieldType := fun k => match k with
  | 0 => .array .int
  | _ => .array .int
abbrev wsX00 : List Cond := u_ws RX0 TX0 2
theorem nmX0 : ∀ a, a < 2 → ∀ b, b < 2 → a ≠ b → (TX0 a).2.1 ≠ (TX0 b).2.1 := by decide +kernel
theorem tyX0_ok : ∀ k, k < 2 → parseFieldDescriptor (TX0 k).2.2.1 = some (tyX0 k) := by decide +kernel
abbrev cX0_init : ByteArray := prog_2_method_1_code
def yX0_init : MethodName := ⟨RX0, "<init>", "()V"⟩
abbrev cX0_tell : ByteArray := prog_2_method_2_code
def yX0_tell : MethodName := ⟨RX0, "tell", "(III)V"⟩
abbrev cX0_doing : ByteArray := prog_2_method_3_code
def yX0_doing : MethodName := ⟨RX0, "doing", "(I)I"⟩
abbrev cX0_asked : ByteArray := prog_2_method_4_code
def yX0_asked : MethodName := ⟨RX0, "asked", "(I)I"⟩
abbrev cX0_bestCopies : ByteArray := prog_2_method_5_code
def yX0_bestCopies : MethodName := ⟨RX0, "bestCopies", "()I"⟩
abbrev cX0_foldInto : ByteArray := prog_2_method_6_code
def yX0_foldInto : MethodName := ⟨RX0, "foldInto", "(J)J"⟩
def RX1 : String := "ChainLetters$Box"
def TX1 : u_T := fun k => match k with
  | 0 => ("ChainLetters$Box", "count", "I", false)
  | 1 => ("ChainLetters$Box", "keptAtAll", "I", false)
  | 2 => ("ChainLetters$Box", "keptOnce", "I", false)
  | 3 => ("ChainLetters$Box", "keptTwice", "I", false)
  | 4 => ("ChainLetters$Box", "kinds", "[I", true)
  | _ => ("ChainLetters$Box", "times", "[I", true)
def tyX1 : Nat → FieldType := fun k => match k with
  | 0 => .int
  | 1 => .int
  | 2 => .int
  | 3 => .int
  | 4 => .array .int
  | _ => .array .int
abbrev wsX10 : List Cond := u_ws RX1 TX1 6
theorem nmX1 : ∀ a, a < 6 → ∀ b, b < 6 → a ≠ b → (TX1 a).2.1 ≠ (TX1 b).2.1 := by decide +kernel
theorem tyX1_ok : ∀ k, k < 6 → parseFieldDescriptor (TX1 k).2.2.1 = some (tyX1 k) := by decide +kernel
abbrev cX1_init : ByteArray := prog_3_method_1_code
def yX1_init : MethodName := ⟨RX1, "<init>", "()V"⟩
abbrev cX1_add : ByteArray := prog_3_method_2_code
def yX1_add : MethodName := ⟨RX1, "add", "(I)I"⟩
abbrev cX1_empty : ByteArray := prog_3_method_3_code
def yX1_empty : MethodName := ⟨RX1, "empty", "()I"⟩
abbrev cX1_tally : ByteArray := prog_3_method_4_code
def yX1_tally : MethodName := ⟨RX1, "tally", "()V"⟩
abbrev cX1_foldInto : ByteArray := prog_3_method_5_code
def yX1_foldInto : MethodName := ⟨RX1, "foldInto", "(J)J"⟩
def RX2 : String := "ChainLetters$Fraction"
def TX2 : u_T := fun k => match k with
  | 0 => ("ChainLetters$Fraction", "above", "LChainLetters$Natural;", true)
  | _ => ("ChainLetters$Fraction", "below", "LChainLetters$Natural;", true)
def tyX2 : Nat → FieldType := fun k => match k with
  | 0 => .object "ChainLetters$Natural"
  | _ => .object "ChainLetters$Natural"
abbrev wsX20 : List Cond := u_ws RX2 TX2 2
theorem nmX2 : ∀ a, a < 2 → ∀ b, b < 2 → a ≠ b → (TX2 a).2.1 ≠ (TX2 b).2.1 := by decide +kernel
theorem tyX2_ok : ∀ k, k < 2 → parseFieldDescriptor (TX2 k).2.2.1 = some (tyX2 k) := by decide +kernel
abbrev cX2_init : ByteArray := prog_4_method_1_code
def yX2_init : MethodName := ⟨RX2, "<init>", "()V"⟩
abbrev cX2_become : ByteArray := prog_4_method_2_code
def yX2_become : MethodName := ⟨RX2, "become", "(JJ)V"⟩
abbrev cX2_take : ByteArray := prog_4_method_3_code
def yX2_take : MethodName := ⟨RX2, "take", "(LChainLetters$Natural;LChainLetters$Natural;)V"⟩
abbrev cX2_shared : ByteArray := prog_4_method_4_code
def yX2_shared : MethodName := ⟨RX2, "shared", "(JJ)J"⟩
def RX3 : String := "ChainLetters$Habits"
def TX3 : u_T := fun k => match k with
  | 0 => ("ChainLetters$Habits", "weights", "[I", true)
  | 1 => ("ChainLetters$Habits", "above", "LChainLetters$Natural;", true)
  | 2 => ("ChainLetters$Habits", "below", "LChainLetters$Natural;", true)
  | 3 => ("ChainLetters$Habits", "sum", "LChainLetters$Natural;", true)
  | 4 => ("ChainLetters$Habits", "power", "LChainLetters$Natural;", true)
  | _ => ("ChainLetters$Habits", "product", "LChainLetters$Natural;", true)
def tyX3 : Nat → FieldType := fun k => match k with
  | 0 => .array .int
  | 1 => .object "ChainLetters$Natural"
  | 2 => .object "ChainLetters$Natural"
  | 3 => .object "ChainLetters$Natural"
  | 4 => .object "ChainLetters$Natural"
  | _ => .object "ChainLetters$Natural"
abbrev wsX30 : List Cond := u_ws RX3 TX3 6
theorem nmX3 : ∀ a, a < 6 → ∀ b, b < 6 → a ≠ b → (TX3 a).2.1 ≠ (TX3 b).2.1 := by decide +kernel
theorem tyX3_ok : ∀ k, k < 6 → parseFieldDescriptor (TX3 k).2.2.1 = some (tyX3 k) := by decide +kernel
abbrev cX3_init : ByteArray := prog_5_method_1_code
def yX3_init : MethodName := ⟨RX3, "<init>", "()V"⟩
abbrev cX3_tell : ByteArray := prog_5_method_2_code
def yX3_tell : MethodName := ⟨RX3, "tell", "(II)I"⟩
abbrev cX3_sumOfWeights : ByteArray := prog_5_method_3_code
def yX3_sumOfWeights : MethodName := ⟨RX3, "sumOfWeights", "()I"⟩
abbrev cX3_sumOfCopies : ByteArray := prog_5_method_4_code
def yX3_sumOfCopies : MethodName := ⟨RX3, "sumOfCopies", "()I"⟩
abbrev cX3_chanceGone : ByteArray := prog_5_method_5_code
def yX3_chanceGone : MethodName := ⟨RX3, "chanceGone", "(ILChainLetters$Fraction;)V"⟩
abbrev cX3_goRound : ByteArray := prog_5_method_6_code
def yX3_goRound : MethodName := ⟨RX3, "goRound", "(I)V"⟩
abbrev cX3_reduce : ByteArray := prog_5_method_7_code
def yX3_reduce : MethodName := ⟨RX3, "reduce", "(I)V"⟩
abbrev cX3_foldInto : ByteArray := prog_5_method_8_code
def yX3_foldInto : MethodName := ⟨RX3, "foldInto", "(J)J"⟩
def RX4 : String := "ChainLetters$Letters"
def TX4 : u_T := fun k => match k with
  | 0 => ("ChainLetters$Letters", "count", "I", false)
  | 1 => ("ChainLetters$Letters", "from", "[I", true)
  | 2 => ("ChainLetters$Letters", "to", "[I", true)
  | 3 => ("ChainLetters$Letters", "forms", "[I", true)
  | 4 => ("ChainLetters$Letters", "costs", "[I", true)
  | 5 => ("ChainLetters$Letters", "copied", "[I", true)
  | _ => ("ChainLetters$Letters", "copiedStands", "Z", false)
def tyX4 : Nat → FieldType := fun k => match k with
  | 0 => .int
  | 1 => .array .int
  | 2 => .array .int
  | 3 => .array .int
  | 4 => .array .int
  | 5 => .array .int
  | _ => .boolean
abbrev wsX40 : List Cond := u_ws RX4 TX4 7
theorem nmX4 : ∀ a, a < 7 → ∀ b, b < 7 → a ≠ b → (TX4 a).2.1 ≠ (TX4 b).2.1 := by decide +kernel
theorem tyX4_ok : ∀ k, k < 7 → parseFieldDescriptor (TX4 k).2.2.1 = some (tyX4 k) := by decide +kernel
abbrev cX4_init : ByteArray := prog_6_method_1_code
def yX4_init : MethodName := ⟨RX4, "<init>", "()V"⟩
abbrev cX4_has : ByteArray := prog_6_method_2_code
def yX4_has : MethodName := ⟨RX4, "has", "(I)Z"⟩
abbrev cX4_add : ByteArray := prog_6_method_3_code
def yX4_add : MethodName := ⟨RX4, "add", "(II)I"⟩
abbrev cX4_firstYear : ByteArray := prog_6_method_4_code
def yX4_firstYear : MethodName := ⟨RX4, "firstYear", "(I)I"⟩
abbrev cX4_lastYear : ByteArray := prog_6_method_5_code
def yX4_lastYear : MethodName := ⟨RX4, "lastYear", "(I)I"⟩
abbrev cX4_tellForm : ByteArray := prog_6_method_6_code
def yX4_tellForm : MethodName := ⟨RX4, "tellForm", "(III)I"⟩
abbrev cX4_tellCost : ByteArray := prog_6_method_7_code
def yX4_tellCost : MethodName := ⟨RX4, "tellCost", "(II)I"⟩
abbrev cX4_sources : ByteArray := prog_6_method_8_code
def yX4_sources : MethodName := ⟨RX4, "sources", "(II)I"⟩
abbrev cX4_isOther : ByteArray := prog_6_method_9_code
def yX4_isOther : MethodName := ⟨RX4, "isOther", "(II)Z"⟩
abbrev cX4_priceOf : ByteArray := prog_6_method_10_code
def yX4_priceOf : MethodName := ⟨RX4, "priceOf", "(II)I"⟩
abbrev cX4_priceFirst : ByteArray := prog_6_method_11_code
def yX4_priceFirst : MethodName := ⟨RX4, "priceFirst", "(I)I"⟩
abbrev cX4_priceCopied : ByteArray := prog_6_method_12_code
def yX4_priceCopied : MethodName := ⟨RX4, "priceCopied", "(II)I"⟩
abbrev cX4_priceJoined : ByteArray := prog_6_method_13_code
def yX4_priceJoined : MethodName := ⟨RX4, "priceJoined", "(IIII)I"⟩
abbrev cX4_refresh : ByteArray := prog_6_method_14_code
def yX4_refresh : MethodName := ⟨RX4, "refresh", "()V"⟩
abbrev cX4_sumUp : ByteArray := prog_6_method_15_code
def yX4_sumUp : MethodName := ⟨RX4, "sumUp", "(II)V"⟩
abbrev cX4_costOfSentence : ByteArray := prog_6_method_16_code
def yX4_costOfSentence : MethodName := ⟨RX4, "costOfSentence", "(II)I"⟩
abbrev cX4_sentencesOfAll : ByteArray := prog_6_method_17_code
def yX4_sentencesOfAll : MethodName := ⟨RX4, "sentencesOfAll", "()I"⟩
abbrev cX4_foldInto : ByteArray := prog_6_method_18_code
def yX4_foldInto : MethodName := ⟨RX4, "foldInto", "(J)J"⟩
def RX5 : String := "ChainLetters$Names"
def TX5 : u_T := fun k => match k with
  | 0 => ("ChainLetters$Names", "count", "I", false)
  | 1 => ("ChainLetters$Names", "lengths", "[I", true)
  | 2 => ("ChainLetters$Names", "told", "[I", true)
  | 3 => ("ChainLetters$Names", "digits", "[I", true)
  | 4 => ("ChainLetters$Names", "slipped", "[I", true)
  | 5 => ("ChainLetters$Names", "weights", "[I", true)
  | 6 => ("ChainLetters$Names", "ahead", "[I", true)
  | _ => ("ChainLetters$Names", "row", "[I", true)
def tyX5 : Nat → FieldType := fun k => match k with
  | 0 => .int
  | 1 => .array .int
  | 2 => .array .int
  | 3 => .array .int
  | 4 => .array .int
  | 5 => .array .int
  | 6 => .array .int
  | _ => .array .int
abbrev wsX50 : List Cond := u_ws RX5 TX5 8
theorem nmX5 : ∀ a, a < 8 → ∀ b, b < 8 → a ≠ b → (TX5 a).2.1 ≠ (TX5 b).2.1 := by decide +kernel
theorem tyX5_ok : ∀ k, k < 8 → parseFieldDescriptor (TX5 k).2.2.1 = some (tyX5 k) := by decide +kernel
abbrev cX5_init : ByteArray := prog_7_method_1_code
def yX5_init : MethodName := ⟨RX5, "<init>", "()V"⟩
abbrev cX5_isName : ByteArray := prog_7_method_2_code
def yX5_isName : MethodName := ⟨RX5, "isName", "(II)Z"⟩
abbrev cX5_has : ByteArray := prog_7_method_3_code
def yX5_has : MethodName := ⟨RX5, "has", "(I)Z"⟩
abbrev cX5_add : ByteArray := prog_7_method_4_code
def yX5_add : MethodName := ⟨RX5, "add", "(II)I"⟩
abbrev cX5_slipsBetween : ByteArray := prog_7_method_5_code
def yX5_slipsBetween : MethodName := ⟨RX5, "slipsBetween", "(II)I"⟩
abbrev cX5_compare : ByteArray := prog_7_method_6_code
def yX5_compare : MethodName := ⟨RX5, "compare", "(II)I"⟩
abbrev cX5_weightOfStep : ByteArray := prog_7_method_7_code
def yX5_weightOfStep : MethodName := ⟨RX5, "weightOfStep", "(II)I"⟩
abbrev cX5_wornCost : ByteArray := prog_7_method_8_code
def yX5_wornCost : MethodName := ⟨RX5, "wornCost", "(II)I"⟩
abbrev cX5_wornName : ByteArray := prog_7_method_9_code
def yX5_wornName : MethodName := ⟨RX5, "wornName", "(III)I"⟩
abbrev cX5_weighTo : ByteArray := prog_7_method_10_code
def yX5_weighTo : MethodName := ⟨RX5, "weighTo", "(I)V"⟩
abbrev cX5_nextFrom : ByteArray := prog_7_method_11_code
def yX5_nextFrom : MethodName := ⟨RX5, "nextFrom", "(I)I"⟩
abbrev cX5_foldInto : ByteArray := prog_7_method_12_code
def yX5_foldInto : MethodName := ⟨RX5, "foldInto", "(J)J"⟩
def RX6 : String := "ChainLetters$Natural"
def TX6 : u_T := fun k => match k with
  | 0 => ("ChainLetters$Natural", "size", "I", false)
  | _ => ("ChainLetters$Natural", "digits", "[I", true)
def tyX6 : Nat → FieldType := fun k => match k with
  | 0 => .int
  | _ => .array .int
abbrev wsX60 : List Cond := u_ws RX6 TX6 2
theorem nmX6 : ∀ a, a < 2 → ∀ b, b < 2 → a ≠ b → (TX6 a).2.1 ≠ (TX6 b).2.1 := by decide +kernel
theorem tyX6_ok : ∀ k, k < 2 → parseFieldDescriptor (TX6 k).2.2.1 = some (tyX6 k) := by decide +kernel
abbrev cX6_init : ByteArray := prog_8_method_1_code
def yX6_init : MethodName := ⟨RX6, "<init>", "()V"⟩
abbrev cX6_digit : ByteArray := prog_8_method_2_code
def yX6_digit : MethodName := ⟨RX6, "digit", "(I)I"⟩
abbrev cX6_become : ByteArray := prog_8_method_3_code
def yX6_become : MethodName := ⟨RX6, "become", "(J)V"⟩
abbrev cX6_take : ByteArray := prog_8_method_4_code
def yX6_take : MethodName := ⟨RX6, "take", "(LChainLetters$Natural;)V"⟩
abbrev cX6_multiply : ByteArray := prog_8_method_5_code
def yX6_multiply : MethodName := ⟨RX6, "multiply", "(LChainLetters$Natural;LChainLetters$Natural;)V"⟩
abbrev cX6_addTimes : ByteArray := prog_8_method_6_code
def yX6_addTimes : MethodName := ⟨RX6, "addTimes", "(LChainLetters$Natural;I)V"⟩
abbrev cX6_leftOver : ByteArray := prog_8_method_7_code
def yX6_leftOver : MethodName := ⟨RX6, "leftOver", "(I)I"⟩
abbrev cX6_divide : ByteArray := prog_8_method_8_code
def yX6_divide : MethodName := ⟨RX6, "divide", "(I)V"⟩
abbrev cX6_trim : ByteArray := prog_8_method_9_code
def yX6_trim : MethodName := ⟨RX6, "trim", "()V"⟩
abbrev cX6_foldInto : ByteArray := prog_8_method_10_code
def yX6_foldInto : MethodName := ⟨RX6, "foldInto", "(J)J"⟩
def RX7 : String := "ChainLetters$Net"
def TX7 : u_T := fun k => match k with
  | 0 => ("ChainLetters$Net", "others", "[I", true)
  | 1 => ("ChainLetters$Net", "copies", "[I", true)
  | 2 => ("ChainLetters$Net", "odds", "[I", true)
  | 3 => ("ChainLetters$Net", "often", "[I", true)
  | 4 => ("ChainLetters$Net", "days", "[I", true)
  | 5 => ("ChainLetters$Net", "times", "[I", true)
  | _ => ("ChainLetters$Net", "next", "[I", true)
def tyX7 : Nat → FieldType := fun k => match k with
  | 0 => .array .int
  | 1 => .array .int
  | 2 => .array .int
  | 3 => .array .int
  | 4 => .array .int
  | 5 => .array .int
  | _ => .array .int
abbrev wsX70 : List Cond := u_ws RX7 TX7 7
theorem nmX7 : ∀ a, a < 7 → ∀ b, b < 7 → a ≠ b → (TX7 a).2.1 ≠ (TX7 b).2.1 := by decide +kernel
theorem tyX7_ok : ∀ k, k < 7 → parseFieldDescriptor (TX7 k).2.2.1 = some (tyX7 k) := by decide +kernel
abbrev cX7_init : ByteArray := prog_9_method_1_code
def yX7_init : MethodName := ⟨RX7, "<init>", "()V"⟩
abbrev cX7_has : ByteArray := prog_9_method_2_code
def yX7_has : MethodName := ⟨RX7, "has", "(I)Z"⟩
abbrev cX7_tellSends : ByteArray := prog_9_method_3_code
def yX7_tellSends : MethodName := ⟨RX7, "tellSends", "(II)I"⟩
abbrev cX7_tellCopies : ByteArray := prog_9_method_4_code
def yX7_tellCopies : MethodName := ⟨RX7, "tellCopies", "(IIII)V"⟩
abbrev cX7_daysOf : ByteArray := prog_9_method_5_code
def yX7_daysOf : MethodName := ⟨RX7, "daysOf", "(I)I"⟩
abbrev cX7_getters : ByteArray := prog_9_method_6_code
def yX7_getters : MethodName := ⟨RX7, "getters", "(I)I"⟩
abbrev cX7_goThrough : ByteArray := prog_9_method_7_code
def yX7_goThrough : MethodName := ⟨RX7, "goThrough", "(II)I"⟩
abbrev cX7_countDay : ByteArray := prog_9_method_8_code
def yX7_countDay : MethodName := ⟨RX7, "countDay", "(I)V"⟩
abbrev cX7_lookAhead : ByteArray := prog_9_method_9_code
def yX7_lookAhead : MethodName := ⟨RX7, "lookAhead", "()V"⟩
abbrev cX7_reached : ByteArray := prog_9_method_10_code
def yX7_reached : MethodName := ⟨RX7, "reached", "(II)I"⟩
abbrev cX7_fewestTold : ByteArray := prog_9_method_11_code
def yX7_fewestTold : MethodName := ⟨RX7, "fewestTold", "(II)I"⟩
abbrev cX7_foldInto : ByteArray := prog_9_method_12_code
def yX7_foldInto : MethodName := ⟨RX7, "foldInto", "(J)J"⟩
def RX8 : String := "ChainLetters$Trees"
def TX8 : u_T := fun k => match k with
  | 0 => ("ChainLetters$Trees", "letters", "LChainLetters$Letters;", true)
  | 1 => ("ChainLetters$Trees", "steps", "[I", true)
  | 2 => ("ChainLetters$Trees", "pairs", "[I", true)
  | 3 => ("ChainLetters$Trees", "built", "[I", true)
  | 4 => ("ChainLetters$Trees", "rest", "[I", true)
  | 5 => ("ChainLetters$Trees", "beside", "[I", true)
  | 6 => ("ChainLetters$Trees", "held", "[I", true)
  | 7 => ("ChainLetters$Trees", "heldPrice", "[I", true)
  | 8 => ("ChainLetters$Trees", "ways", "[I", true)
  | 9 => ("ChainLetters$Trees", "early", "[I", true)
  | 10 => ("ChainLetters$Trees", "late", "[I", true)
  | 11 => ("ChainLetters$Trees", "cost", "I", false)
  | 12 => ("ChainLetters$Trees", "priced", "Z", false)
  | 13 => ("ChainLetters$Trees", "settled", "Z", false)
  | _ => ("ChainLetters$Trees", "quarrel", "Z", false)
def tyX8 : Nat → FieldType := fun k => match k with
  | 0 => .object "ChainLetters$Letters"
  | 1 => .array .int
  | 2 => .array .int
  | 3 => .array .int
  | 4 => .array .int
  | 5 => .array .int
  | 6 => .array .int
  | 7 => .array .int
  | 8 => .array .int
  | 9 => .array .int
  | 10 => .array .int
  | 11 => .int
  | 12 => .boolean
  | 13 => .boolean
  | _ => .boolean
abbrev wsX80 : List Cond := u_ws RX8 TX8 15
theorem nmX8 : ∀ a, a < 15 → ∀ b, b < 15 → a ≠ b → (TX8 a).2.1 ≠ (TX8 b).2.1 := by decide +kernel
theorem tyX8_ok : ∀ k, k < 15 → parseFieldDescriptor (TX8 k).2.2.1 = some (tyX8 k) := by decide +kernel
abbrev cX8_init : ByteArray := prog_10_method_1_code
def yX8_init : MethodName := ⟨RX8, "<init>", "(LChainLetters$Letters;)V"⟩
abbrev cX8_forget : ByteArray := prog_10_method_2_code
def yX8_forget : MethodName := ⟨RX8, "forget", "()V"⟩
abbrev cX8_leastCost : ByteArray := prog_10_method_3_code
def yX8_leastCost : MethodName := ⟨RX8, "leastCost", "()I"⟩
abbrev cX8_wayOf : ByteArray := prog_10_method_4_code
def yX8_wayOf : MethodName := ⟨RX8, "wayOf", "(I)I"⟩
abbrev cX8_mayHave : ByteArray := prog_10_method_5_code
def yX8_mayHave : MethodName := ⟨RX8, "mayHave", "(II)Z"⟩
abbrev cX8_waysThatMayBe : ByteArray := prog_10_method_6_code
def yX8_waysThatMayBe : MethodName := ⟨RX8, "waysThatMayBe", "(I)I"⟩
abbrev cX8_yearOf : ByteArray := prog_10_method_7_code
def yX8_yearOf : MethodName := ⟨RX8, "yearOf", "(IZ)I"⟩
abbrev cX8_everyone : ByteArray := prog_10_method_8_code
def yX8_everyone : MethodName := ⟨RX8, "everyone", "()I"⟩
abbrev cX8_freeAll : ByteArray := prog_10_method_9_code
def yX8_freeAll : MethodName := ⟨RX8, "freeAll", "()V"⟩
abbrev cX8_fillSteps : ByteArray := prog_10_method_10_code
def yX8_fillSteps : MethodName := ⟨RX8, "fillSteps", "(I)V"⟩
abbrev cX8_lowestOf : ByteArray := prog_10_method_11_code
def yX8_lowestOf : MethodName := ⟨RX8, "lowestOf", "(I)I"⟩
abbrev cX8_fillPairs : ByteArray := prog_10_method_12_code
def yX8_fillPairs : MethodName := ⟨RX8, "fillPairs", "(I)V"⟩
abbrev cX8_stepBehind : ByteArray := prog_10_method_13_code
def yX8_stepBehind : MethodName := ⟨RX8, "stepBehind", "(II)I"⟩
abbrev cX8_fillBuilt : ByteArray := prog_10_method_14_code
def yX8_fillBuilt : MethodName := ⟨RX8, "fillBuilt", "()V"⟩
abbrev cX8_fillRest : ByteArray := prog_10_method_15_code
def yX8_fillRest : MethodName := ⟨RX8, "fillRest", "()V"⟩
abbrev cX8_weigh : ByteArray := prog_10_method_16_code
def yX8_weigh : MethodName := ⟨RX8, "weigh", "(I)V"⟩
abbrev cX8_fits : ByteArray := prog_10_method_17_code
def yX8_fits : MethodName := ⟨RX8, "fits", "(II)Z"⟩
abbrev cX8_settle : ByteArray := prog_10_method_18_code
def yX8_settle : MethodName := ⟨RX8, "settle", "()V"⟩
abbrev cX8_leastWayThatFits : ByteArray := prog_10_method_19_code
def yX8_leastWayThatFits : MethodName := ⟨RX8, "leastWayThatFits", "(I)I"⟩
abbrev cX8_datesOfTheHeld : ByteArray := prog_10_method_20_code
def yX8_datesOfTheHeld : MethodName := ⟨RX8, "datesOfTheHeld", "()V"⟩
abbrev cX8_pushYears : ByteArray := prog_10_method_21_code
def yX8_pushYears : MethodName := ⟨RX8, "pushYears", "(I)V"⟩
def RX9 : String := "ChainLetters"
def TX9 : u_T := fun k => match k with
  | 0 => ("ChainLetters", "letters", "LChainLetters$Letters;", true)
  | 1 => ("ChainLetters", "trees", "LChainLetters$Trees;", true)
  | 2 => ("ChainLetters", "names", "LChainLetters$Names;", true)
  | 3 => ("ChainLetters", "habits", "LChainLetters$Habits;", true)
  | 4 => ("ChainLetters", "askings", "LChainLetters$Askings;", true)
  | 5 => ("ChainLetters", "net", "LChainLetters$Net;", true)
  | 6 => ("ChainLetters", "box", "LChainLetters$Box;", true)
  | _ => ("ChainLetters", "fraction", "LChainLetters$Fraction;", true)
def tyX9 : Nat → FieldType := fun k => match k with
  | 0 => .object "ChainLetters$Letters"
  | 1 => .object "ChainLetters$Trees"
  | 2 => .object "ChainLetters$Names"
  | 3 => .object "ChainLetters$Habits"
  | 4 => .object "ChainLetters$Askings"
  | 5 => .object "ChainLetters$Net"
  | 6 => .object "ChainLetters$Box"
  | _ => .object "ChainLetters$Fraction"
abbrev wsX90 : List Cond := u_ws RX9 TX9 8
theorem nmX9 : ∀ a, a < 8 → ∀ b, b < 8 → a ≠ b → (TX9 a).2.1 ≠ (TX9 b).2.1 := by decide +kernel
theorem tyX9_ok : ∀ k, k < 8 → parseFieldDescriptor (TX9 k).2.2.1 = some (tyX9 k) := by decide +kernel
abbrev cX9_init : ByteArray := prog_1_method_1_code
def yX9_init : MethodName := ⟨RX9, "<init>", "()V"⟩
abbrev cX9_letter : ByteArray := prog_1_method_2_code
def yX9_letter : MethodName := ⟨RX9, "letter", "(II)I"⟩
abbrev cX9_form : ByteArray := prog_1_method_3_code
def yX9_form : MethodName := ⟨RX9, "form", "(III)I"⟩
abbrev cX9_cost : ByteArray := prog_1_method_4_code
def yX9_cost : MethodName := ⟨RX9, "cost", "(II)I"⟩
abbrev cX9_price : ByteArray := prog_1_method_5_code
def yX9_price : MethodName := ⟨RX9, "price", "(II)I"⟩
abbrev cX9_least : ByteArray := prog_1_method_6_code
def yX9_least : MethodName := ⟨RX9, "least", "()I"⟩
abbrev cX9_way : ByteArray := prog_1_method_7_code
def yX9_way : MethodName := ⟨RX9, "way", "(I)I"⟩
abbrev cX9_may : ByteArray := prog_1_method_8_code
def yX9_may : MethodName := ⟨RX9, "may", "(II)I"⟩
abbrev cX9_sure : ByteArray := prog_1_method_9_code
def yX9_sure : MethodName := ⟨RX9, "sure", "(I)I"⟩
abbrev cX9_date : ByteArray := prog_1_method_10_code
def yX9_date : MethodName := ⟨RX9, "date", "(II)I"⟩
abbrev cX9_name : ByteArray := prog_1_method_11_code
def yX9_name : MethodName := ⟨RX9, "name", "(II)I"⟩
abbrev cX9_slips : ByteArray := prog_1_method_12_code
def yX9_slips : MethodName := ⟨RX9, "slips", "(II)I"⟩
abbrev cX9_worn : ByteArray := prog_1_method_13_code
def yX9_worn : MethodName := ⟨RX9, "worn", "(III)I"⟩
abbrev cX9_habit : ByteArray := prog_1_method_14_code
def yX9_habit : MethodName := ⟨RX9, "habit", "(II)I"⟩
abbrev cX9_lives : ByteArray := prog_1_method_15_code
def yX9_lives : MethodName := ⟨RX9, "lives", "()I"⟩
abbrev cX9_mean : ByteArray := prog_1_method_16_code
def yX9_mean : MethodName := ⟨RX9, "mean", "()I"⟩
abbrev cX9_gone : ByteArray := prog_1_method_17_code
def yX9_gone : MethodName := ⟨RX9, "gone", "(I)I"⟩
abbrev cX9_asking : ByteArray := prog_1_method_18_code
def yX9_asking : MethodName := ⟨RX9, "asking", "(III)I"⟩
abbrev cX9_best : ByteArray := prog_1_method_19_code
def yX9_best : MethodName := ⟨RX9, "best", "(I)I"⟩
abbrev cX9_round : ByteArray := prog_1_method_20_code
def yX9_round : MethodName := ⟨RX9, "round", "(II)J"⟩
abbrev cX9_outrun : ByteArray := prog_1_method_21_code
def yX9_outrun : MethodName := ⟨RX9, "outrun", "(IJ)I"⟩
abbrev cX9_sends : ByteArray := prog_1_method_22_code
def yX9_sends : MethodName := ⟨RX9, "sends", "(II)I"⟩
abbrev cX9_copies : ByteArray := prog_1_method_23_code
def yX9_copies : MethodName := ⟨RX9, "copies", "(IIII)I"⟩
abbrev cX9_run : ByteArray := prog_1_method_24_code
def yX9_run : MethodName := ⟨RX9, "run", "(III)I"⟩
abbrev cX9_reach : ByteArray := prog_1_method_25_code
def yX9_reach : MethodName := ⟨RX9, "reach", "(II)I"⟩
abbrev cX9_stop : ByteArray := prog_1_method_26_code
def yX9_stop : MethodName := ⟨RX9, "stop", "(II)I"⟩
abbrev cX9_keep : ByteArray := prog_1_method_27_code
def yX9_keep : MethodName := ⟨RX9, "keep", "(I)I"⟩
abbrev cX9_burn : ByteArray := prog_1_method_28_code
def yX9_burn : MethodName := ⟨RX9, "burn", "()I"⟩
abbrev cX9_hidden : ByteArray := prog_1_method_29_code
def yX9_hidden : MethodName := ⟨RX9, "hidden", "()I"⟩
abbrev cX9_sign : ByteArray := prog_1_method_30_code
def yX9_sign : MethodName := ⟨RX9, "sign", "(I)I"⟩
abbrev cX9_limb : ByteArray := prog_1_method_31_code
def yX9_limb : MethodName := ⟨RX9, "limb", "(II)I"⟩
abbrev cX9_count : ByteArray := prog_1_method_32_code
def yX9_count : MethodName := ⟨RX9, "count", "(I)I"⟩
abbrev cX9_digest : ByteArray := prog_1_method_33_code
def yX9_digest : MethodName := ⟨RX9, "digest", "()J"⟩
abbrev cX9_within : ByteArray := prog_1_method_34_code
def yX9_within : MethodName := ⟨RX9, "within", "(III)Z"⟩
def RX10 : String := "ChainLettersModel"
def TX10 : u_T := fun k => match k with
  | 0 => ("ChainLettersModel", "limbs", "[I", true)
  | 1 => ("ChainLettersModel", "wide", "[I", true)
  | 2 => ("ChainLettersModel", "letters", "I", false)
  | 3 => ("ChainLettersModel", "from", "[I", true)
  | 4 => ("ChainLettersModel", "to", "[I", true)
  | 5 => ("ChainLettersModel", "forms", "[I", true)
  | 6 => ("ChainLettersModel", "costs", "[I", true)
  | 7 => ("ChainLettersModel", "cheapest", "[I", true)
  | 8 => ("ChainLettersModel", "fixed", "[I", true)
  | 9 => ("ChainLettersModel", "sumOf", "[I", true)
  | 10 => ("ChainLettersModel", "early", "[I", true)
  | 11 => ("ChainLettersModel", "late", "[I", true)
  | 12 => ("ChainLettersModel", "names", "I", false)
  | 13 => ("ChainLettersModel", "lengths", "[I", true)
  | 14 => ("ChainLettersModel", "spelt", "[I", true)
  | 15 => ("ChainLettersModel", "signs", "[I", true)
  | 16 => ("ChainLettersModel", "table", "[I", true)
  | 17 => ("ChainLettersModel", "far", "[I", true)
  | 18 => ("ChainLettersModel", "habits", "[I", true)
  | 19 => ("ChainLettersModel", "doIt", "[I", true)
  | 20 => ("ChainLettersModel", "askOf", "[I", true)
  | 21 => ("ChainLettersModel", "others", "[I", true)
  | 22 => ("ChainLettersModel", "copies", "[I", true)
  | 23 => ("ChainLettersModel", "odds", "[I", true)
  | 24 => ("ChainLettersModel", "often", "[I", true)
  | 25 => ("ChainLettersModel", "got", "[I", true)
  | 26 => ("ChainLettersModel", "did", "[I", true)
  | 27 => ("ChainLettersModel", "box", "[I", true)
  | _ => ("ChainLettersModel", "kept", "I", false)
def tyX10 : Nat → FieldType := fun k => match k with
  | 0 => .array .int
  | 1 => .array .int
  | 2 => .int
  | 3 => .array .int
  | 4 => .array .int
  | 5 => .array .int
  | 6 => .array .int
  | 7 => .array .int
  | 8 => .array .int
  | 9 => .array .int
  | 10 => .array .int
  | 11 => .array .int
  | 12 => .int
  | 13 => .array .int
  | 14 => .array .int
  | 15 => .array .int
  | 16 => .array .int
  | 17 => .array .int
  | 18 => .array .int
  | 19 => .array .int
  | 20 => .array .int
  | 21 => .array .int
  | 22 => .array .int
  | 23 => .array .int
  | 24 => .array .int
  | 25 => .array .int
  | 26 => .array .int
  | 27 => .array .int
  | _ => .int
abbrev wsX100 : List Cond := u_ws RX10 TX10 29
theorem nmX10 : ∀ a, a < 29 → ∀ b, b < 29 → a ≠ b → (TX10 a).2.1 ≠ (TX10 b).2.1 := by decide +kernel
theorem tyX10_ok : ∀ k, k < 29 → parseFieldDescriptor (TX10 k).2.2.1 = some (tyX10 k) := by decide +kernel
abbrev cX10_in : ByteArray := prog_12_method_2_code
def yX10_in : MethodName := ⟨RX10, "in", "(JJJ)Z"⟩
abbrev cX10_init : ByteArray := prog_12_method_3_code
def yX10_init : MethodName := ⟨RX10, "<init>", "()V"⟩
abbrev cX10_trims : ByteArray := prog_12_method_4_code
def yX10_trims : MethodName := ⟨RX10, "trims", "(I)V"⟩
abbrev cX10_sets : ByteArray := prog_12_method_5_code
def yX10_sets : MethodName := ⟨RX10, "sets", "(IJ)V"⟩
abbrev cX10_takes : ByteArray := prog_12_method_6_code
def yX10_takes : MethodName := ⟨RX10, "takes", "(II)V"⟩
abbrev cX10_multiplies : ByteArray := prog_12_method_8_code
def yX10_multiplies : MethodName := ⟨RX10, "multiplies", "(II)V"⟩
abbrev cX10_adds : ByteArray := prog_12_method_9_code
def yX10_adds : MethodName := ⟨RX10, "adds", "(II)V"⟩
abbrev cX10_lessens : ByteArray := prog_12_method_10_code
def yX10_lessens : MethodName := ⟨RX10, "lessens", "(II)V"⟩
abbrev cX10_against : ByteArray := prog_12_method_11_code
def yX10_against : MethodName := ⟨RX10, "against", "(II)I"⟩
abbrev cX10_isEven : ByteArray := prog_12_method_12_code
def yX10_isEven : MethodName := ⟨RX10, "isEven", "(I)Z"⟩
abbrev cX10_halves : ByteArray := prog_12_method_13_code
def yX10_halves : MethodName := ⟨RX10, "halves", "(I)V"⟩
abbrev cX10_lowers : ByteArray := prog_12_method_14_code
def yX10_lowers : MethodName := ⟨RX10, "lowers", "()V"⟩
abbrev cX10_parts : ByteArray := prog_12_method_15_code
def yX10_parts : MethodName := ⟨RX10, "parts", "(I)V"⟩
abbrev cX10_tells : ByteArray := prog_12_method_16_code
def yX10_tells : MethodName := ⟨RX10, "tells", "(JJ)I"⟩
abbrev cX10_sign : ByteArray := prog_12_method_17_code
def yX10_sign : MethodName := ⟨RX10, "sign", "(I)I"⟩
abbrev cX10_limb : ByteArray := prog_12_method_18_code
def yX10_limb : MethodName := ⟨RX10, "limb", "(II)I"⟩
abbrev cX10_isLetter : ByteArray := prog_12_method_19_code
def yX10_isLetter : MethodName := ⟨RX10, "isLetter", "(I)Z"⟩
abbrev cX10_letter : ByteArray := prog_12_method_20_code
def yX10_letter : MethodName := ⟨RX10, "letter", "(II)I"⟩
abbrev cX10_form : ByteArray := prog_12_method_21_code
def yX10_form : MethodName := ⟨RX10, "form", "(III)I"⟩
abbrev cX10_cost : ByteArray := prog_12_method_22_code
def yX10_cost : MethodName := ⟨RX10, "cost", "(II)I"⟩
abbrev cX10_copied : ByteArray := prog_12_method_23_code
def yX10_copied : MethodName := ⟨RX10, "copied", "(IIII)I"⟩
abbrev cX10_firstOf : ByteArray := prog_12_method_24_code
def yX10_firstOf : MethodName := ⟨RX10, "firstOf", "(I)I"⟩
abbrev cX10_secondOf : ByteArray := prog_12_method_25_code
def yX10_secondOf : MethodName := ⟨RX10, "secondOf", "(I)I"⟩
abbrev cX10_cutOf : ByteArray := prog_12_method_26_code
def yX10_cutOf : MethodName := ⟨RX10, "cutOf", "(I)I"⟩
abbrev cX10_isWay : ByteArray := prog_12_method_27_code
def yX10_isWay : MethodName := ⟨RX10, "isWay", "(II)Z"⟩
abbrev cX10_priceOf : ByteArray := prog_12_method_28_code
def yX10_priceOf : MethodName := ⟨RX10, "priceOf", "(II)I"⟩
abbrev cX10_price : ByteArray := prog_12_method_29_code
def yX10_price : MethodName := ⟨RX10, "price", "(II)I"⟩
abbrev cX10_sources : ByteArray := prog_12_method_30_code
def yX10_sources : MethodName := ⟨RX10, "sources", "(I)I"⟩
abbrev cX10_prices : ByteArray := prog_12_method_31_code
def yX10_prices : MethodName := ⟨RX10, "prices", "()V"⟩
abbrev cX10_leastOf : ByteArray := prog_12_method_32_code
def yX10_leastOf : MethodName := ⟨RX10, "leastOf", "()I"⟩
abbrev cX10_leastAll : ByteArray := prog_12_method_33_code
def yX10_leastAll : MethodName := ⟨RX10, "leastAll", "()I"⟩
abbrev cX10_least : ByteArray := prog_12_method_34_code
def yX10_least : MethodName := ⟨RX10, "least", "()I"⟩
abbrev cX10_plants : ByteArray := prog_12_method_35_code
def yX10_plants : MethodName := ⟨RX10, "plants", "()V"⟩
abbrev cX10_way : ByteArray := prog_12_method_36_code
def yX10_way : MethodName := ⟨RX10, "way", "(I)I"⟩
abbrev cX10_may : ByteArray := prog_12_method_37_code
def yX10_may : MethodName := ⟨RX10, "may", "(II)I"⟩
abbrev cX10_sure : ByteArray := prog_12_method_38_code
def yX10_sure : MethodName := ⟨RX10, "sure", "(I)I"⟩
abbrev cX10_date : ByteArray := prog_12_method_39_code
def yX10_date : MethodName := ⟨RX10, "date", "(II)I"⟩
abbrev cX10_name : ByteArray := prog_12_method_40_code
def yX10_name : MethodName := ⟨RX10, "name", "(II)I"⟩
abbrev cX10_isName : ByteArray := prog_12_method_41_code
def yX10_isName : MethodName := ⟨RX10, "isName", "(I)Z"⟩
abbrev cX10_lesser : ByteArray := prog_12_method_42_code
def yX10_lesser : MethodName := ⟨RX10, "lesser", "(II)I"⟩
abbrev cX10_slipsOf : ByteArray := prog_12_method_43_code
def yX10_slipsOf : MethodName := ⟨RX10, "slipsOf", "(II)I"⟩
abbrev cX10_slips : ByteArray := prog_12_method_44_code
def yX10_slips : MethodName := ⟨RX10, "slips", "(II)I"⟩
abbrev cX10_step : ByteArray := prog_12_method_45_code
def yX10_step : MethodName := ⟨RX10, "step", "(II)I"⟩
abbrev cX10_worn : ByteArray := prog_12_method_46_code
def yX10_worn : MethodName := ⟨RX10, "worn", "(III)I"⟩
abbrev cX10_habit : ByteArray := prog_12_method_47_code
def yX10_habit : MethodName := ⟨RX10, "habit", "(II)I"⟩
abbrev cX10_weights : ByteArray := prog_12_method_48_code
def yX10_weights : MethodName := ⟨RX10, "weights", "()I"⟩
abbrev cX10_copiesOfAll : ByteArray := prog_12_method_49_code
def yX10_copiesOfAll : MethodName := ⟨RX10, "copiesOfAll", "()I"⟩
abbrev cX10_lives : ByteArray := prog_12_method_50_code
def yX10_lives : MethodName := ⟨RX10, "lives", "()I"⟩
abbrev cX10_mean : ByteArray := prog_12_method_51_code
def yX10_mean : MethodName := ⟨RX10, "mean", "()I"⟩
abbrev cX10_gone : ByteArray := prog_12_method_52_code
def yX10_gone : MethodName := ⟨RX10, "gone", "(I)I"⟩
abbrev cX10_rounds : ByteArray := prog_12_method_53_code
def yX10_rounds : MethodName := ⟨RX10, "rounds", "()V"⟩
abbrev cX10_asking : ByteArray := prog_12_method_54_code
def yX10_asking : MethodName := ⟨RX10, "asking", "(III)I"⟩
abbrev cX10_best : ByteArray := prog_12_method_55_code
def yX10_best : MethodName := ⟨RX10, "best", "(I)I"⟩
abbrev cX10_power : ByteArray := prog_12_method_56_code
def yX10_power : MethodName := ⟨RX10, "power", "(II)J"⟩
abbrev cX10_round : ByteArray := prog_12_method_57_code
def yX10_round : MethodName := ⟨RX10, "round", "(II)J"⟩
abbrev cX10_outrun : ByteArray := prog_12_method_58_code
def yX10_outrun : MethodName := ⟨RX10, "outrun", "(IJ)I"⟩
abbrev cX10_isPerson : ByteArray := prog_12_method_59_code
def yX10_isPerson : MethodName := ⟨RX10, "isPerson", "(I)Z"⟩
abbrev cX10_sends : ByteArray := prog_12_method_60_code
def yX10_sends : MethodName := ⟨RX10, "sends", "(II)I"⟩
abbrev cX10_copies : ByteArray := prog_12_method_61_code
def yX10_copies : MethodName := ⟨RX10, "copies", "(IIII)I"⟩
abbrev cX10_goesTo : ByteArray := prog_12_method_62_code
def yX10_goesTo : MethodName := ⟨RX10, "goesTo", "(I)I"⟩
abbrev cX10_run : ByteArray := prog_12_method_63_code
def yX10_run : MethodName := ⟨RX10, "run", "(III)I"⟩
abbrev cX10_reachOf : ByteArray := prog_12_method_64_code
def yX10_reachOf : MethodName := ⟨RX10, "reachOf", "(II)I"⟩
abbrev cX10_reach : ByteArray := prog_12_method_65_code
def yX10_reach : MethodName := ⟨RX10, "reach", "(II)I"⟩
abbrev cX10_sizeOf : ByteArray := prog_12_method_66_code
def yX10_sizeOf : MethodName := ⟨RX10, "sizeOf", "(I)I"⟩
abbrev cX10_stop : ByteArray := prog_12_method_67_code
def yX10_stop : MethodName := ⟨RX10, "stop", "(II)I"⟩
abbrev cX10_keep : ByteArray := prog_12_method_68_code
def yX10_keep : MethodName := ⟨RX10, "keep", "(I)I"⟩
abbrev cX10_burn : ByteArray := prog_12_method_69_code
def yX10_burn : MethodName := ⟨RX10, "burn", "()I"⟩
abbrev cX10_hidden : ByteArray := prog_12_method_70_code
def yX10_hidden : MethodName := ⟨RX10, "hidden", "()I"⟩
abbrev cX10_countOf : ByteArray := prog_12_method_71_code
def yX10_countOf : MethodName := ⟨RX10, "countOf", "(I)I"⟩
abbrev cX10_count : ByteArray := prog_12_method_72_code
def yX10_count : MethodName := ⟨RX10, "count", "(I)I"⟩
abbrev cX10_mixed : ByteArray := prog_12_method_73_code
def yX10_mixed : MethodName := ⟨RX10, "mixed", "(J[III)J"⟩
abbrev cX10_digest : ByteArray := prog_12_method_74_code
def yX10_digest : MethodName := ⟨RX10, "digest", "()J"⟩
def RJ6 : String := "java/lang/Integer"
def TJ6 : u_T := fun k => match k with
  | _ => ("", "", "", false)
def tyJ6 : Nat → FieldType := fun k => match k with
  | _ => .int
abbrev wsJ60 : List Cond := u_ws RJ6 TJ6 0
theorem nmJ6 : ∀ a, a < 0 → ∀ b, b < 0 → a ≠ b → (TJ6 a).2.1 ≠ (TJ6 b).2.1 := by decide +kernel
theorem tyJ6_ok : ∀ k, k < 0 → parseFieldDescriptor (TJ6 k).2.2.1 = some (tyJ6 k) := by decide +kernel
abbrev cJ6_bitCount_0f7a4 : ByteArray := prog_13_method_49_code
def yJ6_bitCount_0f7a4 : MethodName := ⟨RJ6, "bitCount", "(I)I"⟩
def RJ9 : String := "java/lang/Math"
def TJ9 : u_T := fun k => match k with
  | _ => ("", "", "", false)
def tyJ9 : Nat → FieldType := fun k => match k with
  | _ => .int
abbrev wsJ90 : List Cond := u_ws RJ9 TJ9 0
theorem nmJ9 : ∀ a, a < 0 → ∀ b, b < 0 → a ≠ b → (TJ9 a).2.1 ≠ (TJ9 b).2.1 := by decide +kernel
theorem tyJ9_ok : ∀ k, k < 0 → parseFieldDescriptor (TJ9 k).2.2.1 = some (tyJ9 k) := by decide +kernel
abbrev cJ9_max_7cf53 : ByteArray := prog_14_method_65_code
def yJ9_max_7cf53 : MethodName := ⟨RJ9, "max", "(II)I"⟩
abbrev cJ9_min_7cf53 : ByteArray := prog_14_method_69_code
def yJ9_min_7cf53 : MethodName := ⟨RJ9, "min", "(II)I"⟩
def RL : String := "ChainLettersLaw"
abbrev cL_law : ByteArray := code
def yL_law : MethodName := ⟨RL, "law", "([I)Z"⟩
abbrev vwCl : List vw_C := [(RX0, TX0, 2), (RX1, TX1, 6), (RX2, TX2, 2), (RX3, TX3, 6), (RX4, TX4, 7), (RX5, TX5, 8), (RX6, TX6, 2), (RX7, TX7, 7), (RX8, TX8, 15), (RX9, TX9, 8), (RX10, TX10, 29)]
def uC_1 : List Cond := [Cond.classLink RL 7 RX9, Cond.instantiable RX9 8, Cond.initialized RX9, Cond.classLink RL 10 RX10, Cond.instantiable RX10 29, Cond.initialized RX10, Cond.constantLong RL 94 (4294967295), Cond.methodLink RL 9 yX9_init, Cond.instanceMethod yX9_init, Cond.code yX9_init cX9_init 1 none, Cond.methodLink RX9 1 objectInit, Cond.instanceMethod objectInit, Cond.code objectInit ⟨#[0xb1]⟩ 1 none, Cond.classLink RX9 7 RX4, Cond.instantiable RX4 7, Cond.initialized RX4, Cond.fieldLink RX9 10 "ChainLetters" "letters" "LChainLetters$Letters;", Cond.classLink RX9 16 RX8, Cond.instantiable RX8 15, Cond.initialized RX8, Cond.fieldLink RX9 21 "ChainLetters" "trees" "LChainLetters$Trees;", Cond.classLink RX9 25 RX5, Cond.instantiable RX5 8, Cond.initialized RX5]
def uC_2 : List Cond := [Cond.fieldLink RX9 28 "ChainLetters" "names" "LChainLetters$Names;", Cond.classLink RX9 32 RX3, Cond.instantiable RX3 6, Cond.initialized RX3, Cond.fieldLink RX9 35 "ChainLetters" "habits" "LChainLetters$Habits;", Cond.classLink RX9 39 RX0, Cond.instantiable RX0 2, Cond.initialized RX0, Cond.fieldLink RX9 42 "ChainLetters" "askings" "LChainLetters$Askings;", Cond.classLink RX9 46 RX7, Cond.instantiable RX7 7, Cond.initialized RX7, Cond.fieldLink RX9 49 "ChainLetters" "net" "LChainLetters$Net;", Cond.classLink RX9 53 RX1, Cond.instantiable RX1 6, Cond.initialized RX1, Cond.fieldLink RX9 56 "ChainLetters" "box" "LChainLetters$Box;", Cond.classLink RX9 60 RX2, Cond.instantiable RX2 2, Cond.initialized RX2, Cond.fieldLink RX9 63 "ChainLetters" "fraction" "LChainLetters$Fraction;", Cond.methodLink RX9 9 yX4_init, Cond.instanceMethod yX4_init, Cond.code yX4_init cX4_init 2 none]
def uC_3 : List Cond := [Cond.methodLink RX4 3 objectInit, Cond.arrayClass .int, Cond.fieldLink RX4 11 "ChainLetters$Letters" "from" "[I", Cond.fieldLink RX4 15 "ChainLetters$Letters" "to" "[I", Cond.fieldLink RX4 18 "ChainLetters$Letters" "forms" "[I", Cond.fieldLink RX4 21 "ChainLetters$Letters" "costs" "[I", Cond.fieldLink RX4 24 "ChainLetters$Letters" "copied" "[I", Cond.methodLink RX9 18 yX8_init, Cond.instanceMethod yX8_init, Cond.code yX8_init cX8_init 2 none, Cond.methodLink RX8 5 objectInit, Cond.fieldLink RX8 11 "ChainLetters$Trees" "letters" "LChainLetters$Letters;", Cond.fieldLink RX8 17 "ChainLetters$Trees" "steps" "[I", Cond.fieldLink RX8 21 "ChainLetters$Trees" "pairs" "[I", Cond.fieldLink RX8 24 "ChainLetters$Trees" "built" "[I", Cond.fieldLink RX8 27 "ChainLetters$Trees" "rest" "[I", Cond.fieldLink RX8 30 "ChainLetters$Trees" "beside" "[I", Cond.fieldLink RX8 33 "ChainLetters$Trees" "held" "[I", Cond.fieldLink RX8 36 "ChainLetters$Trees" "heldPrice" "[I", Cond.fieldLink RX8 39 "ChainLetters$Trees" "ways" "[I", Cond.fieldLink RX8 42 "ChainLetters$Trees" "early" "[I", Cond.fieldLink RX8 45 "ChainLetters$Trees" "late" "[I", Cond.methodLink RX9 27 yX5_init, Cond.instanceMethod yX5_init]
def uC_4 : List Cond := [Cond.code yX5_init cX5_init 1 none, Cond.methodLink RX5 3 objectInit, Cond.fieldLink RX5 11 "ChainLetters$Names" "lengths" "[I", Cond.fieldLink RX5 15 "ChainLetters$Names" "told" "[I", Cond.fieldLink RX5 18 "ChainLetters$Names" "digits" "[I", Cond.fieldLink RX5 21 "ChainLetters$Names" "slipped" "[I", Cond.fieldLink RX5 24 "ChainLetters$Names" "weights" "[I", Cond.fieldLink RX5 27 "ChainLetters$Names" "ahead" "[I", Cond.fieldLink RX5 30 "ChainLetters$Names" "row" "[I", Cond.methodLink RX9 34 yX3_init, Cond.instanceMethod yX3_init, Cond.code yX3_init cX3_init 1 none, Cond.methodLink RX3 1 objectInit, Cond.fieldLink RX3 9 "ChainLetters$Habits" "weights" "[I", Cond.classLink RX3 13 RX6, Cond.instantiable RX6 2, Cond.initialized RX6, Cond.fieldLink RX3 16 "ChainLetters$Habits" "above" "LChainLetters$Natural;", Cond.fieldLink RX3 20 "ChainLetters$Habits" "below" "LChainLetters$Natural;", Cond.fieldLink RX3 23 "ChainLetters$Habits" "sum" "LChainLetters$Natural;", Cond.fieldLink RX3 26 "ChainLetters$Habits" "power" "LChainLetters$Natural;", Cond.fieldLink RX3 29 "ChainLetters$Habits" "product" "LChainLetters$Natural;", Cond.methodLink RX3 15 yX6_init, Cond.instanceMethod yX6_init]
def uC_5 : List Cond := [Cond.code yX6_init cX6_init 1 none, Cond.methodLink RX6 5 objectInit, Cond.fieldLink RX6 11 "ChainLetters$Natural" "digits" "[I", Cond.methodLink RX9 41 yX0_init, Cond.instanceMethod yX0_init, Cond.code yX0_init cX0_init 2 none, Cond.methodLink RX0 1 objectInit, Cond.fieldLink RX0 9 "ChainLetters$Askings" "doing" "[I", Cond.fieldLink RX0 13 "ChainLetters$Askings" "asked" "[I", Cond.methodLink RX9 48 yX7_init, Cond.instanceMethod yX7_init, Cond.code yX7_init cX7_init 2 none, Cond.methodLink RX7 3 objectInit, Cond.fieldLink RX7 9 "ChainLetters$Net" "others" "[I", Cond.fieldLink RX7 13 "ChainLetters$Net" "copies" "[I", Cond.fieldLink RX7 16 "ChainLetters$Net" "odds" "[I", Cond.fieldLink RX7 19 "ChainLetters$Net" "often" "[I", Cond.fieldLink RX7 22 "ChainLetters$Net" "days" "[I", Cond.fieldLink RX7 25 "ChainLetters$Net" "times" "[I", Cond.fieldLink RX7 28 "ChainLetters$Net" "next" "[I", Cond.methodLink RX9 55 yX1_init, Cond.instanceMethod yX1_init, Cond.code yX1_init cX1_init 1 none, Cond.methodLink RX1 3 objectInit]
def uC_6 : List Cond := [Cond.fieldLink RX1 11 "ChainLetters$Box" "kinds" "[I", Cond.fieldLink RX1 15 "ChainLetters$Box" "times" "[I", Cond.methodLink RX9 62 yX2_init, Cond.instanceMethod yX2_init, Cond.code yX2_init cX2_init 1 none, Cond.methodLink RX2 1 objectInit, Cond.classLink RX2 7 RX6, Cond.fieldLink RX2 10 "ChainLetters$Fraction" "above" "LChainLetters$Natural;", Cond.fieldLink RX2 16 "ChainLetters$Fraction" "below" "LChainLetters$Natural;", Cond.methodLink RX2 9 yX6_init, Cond.methodLink RX2 19 yX6_become, Cond.instanceMethod yX6_become, Cond.selects RX6 yX6_become yX6_become, Cond.code yX6_become cX6_become 6 none, Cond.constantLong RX6 19 (1073741823), Cond.methodLink RX6 21 yX6_trim, Cond.instanceMethod yX6_trim, Cond.selects RX6 yX6_trim yX6_trim, Cond.code yX6_trim cX6_trim 2 none, Cond.fieldLink RX6 15 "ChainLetters$Natural" "size" "I", Cond.methodLink RL 12 yX10_init, Cond.instanceMethod yX10_init, Cond.code yX10_init cX10_init 2 none, Cond.methodLink RX10 1 objectInit]
def uC_7 : List Cond := [Cond.fieldLink RX10 7 "ChainLettersModel" "limbs" "[I", Cond.fieldLink RX10 13 "ChainLettersModel" "wide" "[I", Cond.fieldLink RX10 16 "ChainLettersModel" "from" "[I", Cond.fieldLink RX10 19 "ChainLettersModel" "to" "[I", Cond.fieldLink RX10 22 "ChainLettersModel" "forms" "[I", Cond.fieldLink RX10 25 "ChainLettersModel" "costs" "[I", Cond.fieldLink RX10 28 "ChainLettersModel" "cheapest" "[I", Cond.fieldLink RX10 31 "ChainLettersModel" "fixed" "[I", Cond.fieldLink RX10 34 "ChainLettersModel" "sumOf" "[I", Cond.fieldLink RX10 37 "ChainLettersModel" "early" "[I", Cond.fieldLink RX10 40 "ChainLettersModel" "late" "[I", Cond.fieldLink RX10 43 "ChainLettersModel" "lengths" "[I", Cond.fieldLink RX10 46 "ChainLettersModel" "spelt" "[I", Cond.fieldLink RX10 49 "ChainLettersModel" "signs" "[I", Cond.fieldLink RX10 52 "ChainLettersModel" "table" "[I", Cond.fieldLink RX10 55 "ChainLettersModel" "far" "[I", Cond.fieldLink RX10 58 "ChainLettersModel" "habits" "[I", Cond.fieldLink RX10 61 "ChainLettersModel" "doIt" "[I", Cond.fieldLink RX10 64 "ChainLettersModel" "askOf" "[I", Cond.fieldLink RX10 67 "ChainLettersModel" "others" "[I", Cond.fieldLink RX10 70 "ChainLettersModel" "copies" "[I", Cond.fieldLink RX10 73 "ChainLettersModel" "odds" "[I", Cond.fieldLink RX10 76 "ChainLettersModel" "often" "[I", Cond.fieldLink RX10 79 "ChainLettersModel" "got" "[I"]
def uC_8 : List Cond := [Cond.fieldLink RX10 82 "ChainLettersModel" "did" "[I", Cond.fieldLink RX10 85 "ChainLettersModel" "box" "[I", Cond.methodLink RX10 88 yX10_sets, Cond.instanceMethod yX10_sets, Cond.selects RX10 yX10_sets yX10_sets, Cond.code yX10_sets cX10_sets 5 none, Cond.constantLong RX10 92 (1073741823), Cond.methodLink RX10 94 yX10_trims, Cond.instanceMethod yX10_trims, Cond.selects RX10 yX10_trims yX10_trims, Cond.code yX10_trims cX10_trims 2 none, Cond.methodLink RL 13 yX9_letter, Cond.instanceMethod yX9_letter, Cond.selects RX9 yX9_letter yX9_letter, Cond.code yX9_letter cX9_letter 3 (some .int), Cond.fieldLink RX9 71 "ChainLetters$Letters" "count" "I", Cond.methodLink RX9 67 yX9_within, Cond.static yX9_within, Cond.code yX9_within cX9_within 3 (some .boolean), Cond.methodLink RX9 75 yX8_forget, Cond.instanceMethod yX8_forget, Cond.selects RX8 yX8_forget yX8_forget, Cond.code yX8_forget cX8_forget 1 none, Cond.fieldLink RX8 48 "ChainLetters$Trees" "priced" "Z"]
def uC_9 : List Cond := [Cond.fieldLink RX8 52 "ChainLetters$Trees" "settled" "Z", Cond.methodLink RX9 78 yX4_add, Cond.instanceMethod yX4_add, Cond.selects RX4 yX4_add yX4_add, Cond.code yX4_add cX4_add 4 (some .int), Cond.fieldLink RX4 27 "ChainLetters$Letters" "count" "I", Cond.fieldLink RX4 31 "ChainLetters$Letters" "copiedStands" "Z", Cond.methodLink RL 17 yX10_letter, Cond.instanceMethod yX10_letter, Cond.selects RX10 yX10_letter yX10_letter, Cond.code yX10_letter cX10_letter 4 (some .int), Cond.constantLong RX10 131 (99), Cond.fieldLink RX10 127 "ChainLettersModel" "letters" "I", Cond.methodLink RX10 123 yX10_in, Cond.static yX10_in, Cond.code yX10_in cX10_in 6 (some .boolean), Cond.methodLink RL 18 yX9_form, Cond.instanceMethod yX9_form, Cond.selects RX9 yX9_form yX9_form, Cond.code yX9_form cX9_form 4 (some .int), Cond.methodLink RX9 82 yX4_has, Cond.instanceMethod yX4_has, Cond.selects RX4 yX4_has yX4_has, Cond.code yX4_has cX4_has 2 (some .boolean)]
def uC_10 : List Cond := [Cond.methodLink RX9 86 yX4_tellForm, Cond.instanceMethod yX4_tellForm, Cond.selects RX4 yX4_tellForm yX4_tellForm, Cond.code yX4_tellForm cX4_tellForm 5 (some .int), Cond.methodLink RL 22 yX10_form, Cond.instanceMethod yX10_form, Cond.selects RX10 yX10_form yX10_form, Cond.code yX10_form cX10_form 5 (some .int), Cond.constantLong RX10 136 (7), Cond.constantLong RX10 138 (-1), Cond.constantLong RX10 140 (9), Cond.methodLink RX10 133 yX10_isLetter, Cond.instanceMethod yX10_isLetter, Cond.selects RX10 yX10_isLetter yX10_isLetter, Cond.code yX10_isLetter cX10_isLetter 2 (some .boolean), Cond.methodLink RL 23 yX9_cost, Cond.instanceMethod yX9_cost, Cond.selects RX9 yX9_cost yX9_cost, Cond.code yX9_cost cX9_cost 3 (some .int), Cond.methodLink RX9 90 yX4_tellCost, Cond.instanceMethod yX4_tellCost, Cond.selects RX4 yX4_tellCost yX4_tellCost, Cond.code yX4_tellCost cX4_tellCost 4 (some .int), Cond.methodLink RL 26 yX10_cost]
def uC_11 : List Cond := [Cond.instanceMethod yX10_cost, Cond.selects RX10 yX10_cost yX10_cost, Cond.code yX10_cost cX10_cost 4 (some .int), Cond.constantLong RX10 142 (4), Cond.methodLink RL 27 yX9_price, Cond.instanceMethod yX9_price, Cond.selects RX9 yX9_price yX9_price, Cond.code yX9_price cX9_price 3 (some .int), Cond.methodLink RX9 93 yX4_sources, Cond.instanceMethod yX4_sources, Cond.selects RX4 yX4_sources yX4_sources, Cond.code yX4_sources cX4_sources 6 (some .int), Cond.methodLink RX4 35 yX4_has, Cond.methodLink RX4 39 yX4_isOther, Cond.instanceMethod yX4_isOther, Cond.selects RX4 yX4_isOther yX4_isOther, Cond.code yX4_isOther cX4_isOther 3 (some .boolean), Cond.methodLink RX9 96 yX4_refresh, Cond.instanceMethod yX4_refresh, Cond.selects RX4 yX4_refresh yX4_refresh, Cond.code yX4_refresh cX4_refresh 3 none, Cond.methodLink RX4 55 yX4_sumUp, Cond.instanceMethod yX4_sumUp, Cond.selects RX4 yX4_sumUp yX4_sumUp]
def uC_12 : List Cond := [Cond.code yX4_sumUp cX4_sumUp 6 none, Cond.methodLink RX4 59 yX4_costOfSentence, Cond.instanceMethod yX4_costOfSentence, Cond.selects RX4 yX4_costOfSentence yX4_costOfSentence, Cond.code yX4_costOfSentence cX4_costOfSentence 3 (some .int), Cond.methodLink RX9 99 yX4_priceOf, Cond.instanceMethod yX4_priceOf, Cond.selects RX4 yX4_priceOf yX4_priceOf, Cond.code yX4_priceOf cX4_priceOf 6 (some .int), Cond.methodLink RX4 43 yX4_priceFirst, Cond.instanceMethod yX4_priceFirst, Cond.selects RX4 yX4_priceFirst yX4_priceFirst, Cond.code yX4_priceFirst cX4_priceFirst 4 (some .int), Cond.methodLink RX4 47 yX4_priceCopied, Cond.instanceMethod yX4_priceCopied, Cond.selects RX4 yX4_priceCopied yX4_priceCopied, Cond.code yX4_priceCopied cX4_priceCopied 3 (some .int), Cond.methodLink RX4 51 yX4_priceJoined, Cond.instanceMethod yX4_priceJoined, Cond.selects RX4 yX4_priceJoined yX4_priceJoined, Cond.code yX4_priceJoined cX4_priceJoined 7 (some .int), Cond.methodLink RL 30 yX10_price, Cond.instanceMethod yX10_price, Cond.selects RX10 yX10_price yX10_price]
def uC_13 : List Cond := [Cond.code yX10_price cX10_price 3 (some .int), Cond.methodLink RX10 164 yX10_isWay, Cond.instanceMethod yX10_isWay, Cond.selects RX10 yX10_isWay yX10_isWay, Cond.code yX10_isWay cX10_isWay 6 (some .boolean), Cond.constantLong RX10 144 (8), Cond.constantLong RX10 146 (20), Cond.constantLong RX10 148 (531), Cond.methodLink RX10 150 yX10_firstOf, Cond.instanceMethod yX10_firstOf, Cond.selects RX10 yX10_firstOf yX10_firstOf, Cond.code yX10_firstOf cX10_firstOf 2 (some .int), Cond.methodLink RX10 154 yX10_secondOf, Cond.instanceMethod yX10_secondOf, Cond.selects RX10 yX10_secondOf yX10_secondOf, Cond.code yX10_secondOf cX10_secondOf 2 (some .int), Cond.methodLink RX10 157 yX10_cutOf, Cond.static yX10_cutOf, Cond.code yX10_cutOf cX10_cutOf 1 (some .int), Cond.methodLink RX10 168 yX10_priceOf, Cond.instanceMethod yX10_priceOf, Cond.selects RX10 yX10_priceOf yX10_priceOf, Cond.code yX10_priceOf cX10_priceOf 5 (some .int), Cond.methodLink RX10 160 yX10_copied]
def uC_14 : List Cond := [Cond.instanceMethod yX10_copied, Cond.selects RX10 yX10_copied yX10_copied, Cond.code yX10_copied cX10_copied 9 (some .int), Cond.methodLink RL 31 yX9_least, Cond.instanceMethod yX9_least, Cond.selects RX9 yX9_least yX9_least, Cond.code yX9_least cX9_least 1 (some .int), Cond.methodLink RX9 102 yX8_leastCost, Cond.instanceMethod yX8_leastCost, Cond.selects RX8 yX8_leastCost yX8_leastCost, Cond.code yX8_leastCost cX8_leastCost 2 (some .int), Cond.fieldLink RX8 58 "ChainLetters$Letters" "count" "I", Cond.fieldLink RX8 76 "ChainLetters$Trees" "cost" "I", Cond.methodLink RX8 55 yX4_refresh, Cond.methodLink RX8 62 yX8_fillSteps, Cond.instanceMethod yX8_fillSteps, Cond.selects RX8 yX8_fillSteps yX8_fillSteps, Cond.code yX8_fillSteps cX8_fillSteps 9 none, Cond.methodLink RX8 109 Lib.Math.min.name, Cond.static Lib.Math.min.name, Cond.initialized "java/lang/Math", Cond.code Lib.Math.min.name Lib.Math.min.code 2 (some .int), Cond.methodLink RX8 95 yX8_fillPairs, Cond.instanceMethod yX8_fillPairs]
def uC_15 : List Cond := [Cond.selects RX8 yX8_fillPairs yX8_fillPairs, Cond.code yX8_fillPairs cX8_fillPairs 6 none, Cond.constant RX8 114 (1048576), Cond.methodLink RX8 115 yX4_priceJoined, Cond.methodLink RX8 72 yX8_everyone, Cond.instanceMethod yX8_everyone, Cond.selects RX8 yX8_everyone yX8_everyone, Cond.code yX8_everyone cX8_everyone 1 (some .int), Cond.methodLink RX8 98 yX4_priceFirst, Cond.methodLink RX8 102 yX8_lowestOf, Cond.instanceMethod yX8_lowestOf, Cond.selects RX8 yX8_lowestOf yX8_lowestOf, Cond.code yX8_lowestOf cX8_lowestOf 3 (some .int), Cond.methodLink RX8 105 yX4_priceCopied, Cond.methodLink RX8 66 yX8_freeAll, Cond.instanceMethod yX8_freeAll, Cond.selects RX8 yX8_freeAll yX8_freeAll, Cond.code yX8_freeAll cX8_freeAll 2 none, Cond.methodLink RX8 69 yX8_fillBuilt, Cond.instanceMethod yX8_fillBuilt, Cond.selects RX8 yX8_fillBuilt yX8_fillBuilt, Cond.code yX8_fillBuilt cX8_fillBuilt 6 none, Cond.methodLink RX8 119 yX8_stepBehind, Cond.instanceMethod yX8_stepBehind]
def uC_16 : List Cond := [Cond.selects RX8 yX8_stepBehind yX8_stepBehind, Cond.code yX8_stepBehind cX8_stepBehind 3 (some .int), Cond.methodLink RL 35 yX10_least, Cond.instanceMethod yX10_least, Cond.selects RX10 yX10_least yX10_least, Cond.code yX10_least cX10_least 1 (some .int), Cond.methodLink RX10 182 yX10_leastAll, Cond.instanceMethod yX10_leastAll, Cond.selects RX10 yX10_leastAll yX10_leastAll, Cond.code yX10_leastAll cX10_leastAll 1 (some .int), Cond.methodLink RX10 175 yX10_prices, Cond.instanceMethod yX10_prices, Cond.selects RX10 yX10_prices yX10_prices, Cond.code yX10_prices cX10_prices 5 none, Cond.constant RX10 174 (1000000), Cond.methodLink RX10 171 yX10_sources, Cond.instanceMethod yX10_sources, Cond.selects RX10 yX10_sources yX10_sources, Cond.code yX10_sources cX10_sources 2 (some .int), Cond.methodLink RX10 178 yX10_leastOf, Cond.instanceMethod yX10_leastOf, Cond.selects RX10 yX10_leastOf yX10_leastOf, Cond.code yX10_leastOf cX10_leastOf 8 (some .int), Cond.methodLink RL 36 yX9_way]
def uC_17 : List Cond := [Cond.instanceMethod yX9_way, Cond.selects RX9 yX9_way yX9_way, Cond.code yX9_way cX9_way 2 (some .int), Cond.methodLink RX9 106 yX8_wayOf, Cond.instanceMethod yX8_wayOf, Cond.selects RX8 yX8_wayOf yX8_wayOf, Cond.code yX8_wayOf cX8_wayOf 2 (some .int), Cond.methodLink RX8 79 yX8_settle, Cond.instanceMethod yX8_settle, Cond.selects RX8 yX8_settle yX8_settle, Cond.code yX8_settle cX8_settle 3 none, Cond.methodLink RX8 82 yX8_leastCost, Cond.methodLink RX8 85 yX8_weigh, Cond.instanceMethod yX8_weigh, Cond.selects RX8 yX8_weigh yX8_weigh, Cond.code yX8_weigh cX8_weigh 6 none, Cond.methodLink RX8 122 yX8_fillRest, Cond.instanceMethod yX8_fillRest, Cond.selects RX8 yX8_fillRest yX8_fillRest, Cond.code yX8_fillRest cX8_fillRest 5 none, Cond.methodLink RX8 131 yX8_leastWayThatFits, Cond.instanceMethod yX8_leastWayThatFits, Cond.selects RX8 yX8_leastWayThatFits yX8_leastWayThatFits, Cond.code yX8_leastWayThatFits cX8_leastWayThatFits 3 (some .int)]
def uC_18 : List Cond := [Cond.methodLink RX8 88 yX8_fits, Cond.instanceMethod yX8_fits, Cond.selects RX8 yX8_fits yX8_fits, Cond.code yX8_fits cX8_fits 4 (some .boolean), Cond.methodLink RX8 125 yX4_sources, Cond.methodLink RX8 128 yX4_priceOf, Cond.methodLink RX8 134 yX8_datesOfTheHeld, Cond.instanceMethod yX8_datesOfTheHeld, Cond.selects RX8 yX8_datesOfTheHeld yX8_datesOfTheHeld, Cond.code yX8_datesOfTheHeld cX8_datesOfTheHeld 3 none, Cond.fieldLink RX8 92 "ChainLetters$Trees" "quarrel" "Z", Cond.methodLink RX8 137 yX4_firstYear, Cond.instanceMethod yX4_firstYear, Cond.selects RX4 yX4_firstYear yX4_firstYear, Cond.code yX4_firstYear cX4_firstYear 2 (some .int), Cond.methodLink RX8 140 yX4_lastYear, Cond.instanceMethod yX4_lastYear, Cond.selects RX4 yX4_lastYear yX4_lastYear, Cond.code yX4_lastYear cX4_lastYear 2 (some .int), Cond.methodLink RX8 143 yX8_pushYears, Cond.instanceMethod yX8_pushYears, Cond.selects RX8 yX8_pushYears yX8_pushYears, Cond.code yX8_pushYears cX8_pushYears 3 none, Cond.methodLink RX8 146 Lib.Math.max.name]
def uC_19 : List Cond := [Cond.static Lib.Math.max.name, Cond.code Lib.Math.max.name Lib.Math.max.code 2 (some .int), Cond.methodLink RL 40 yX10_way, Cond.instanceMethod yX10_way, Cond.selects RX10 yX10_way yX10_way, Cond.code yX10_way cX10_way 2 (some .int), Cond.methodLink RX10 185 yX10_plants, Cond.instanceMethod yX10_plants, Cond.selects RX10 yX10_plants yX10_plants, Cond.code yX10_plants cX10_plants 5 none, Cond.methodLink RL 41 yX9_may, Cond.instanceMethod yX9_may, Cond.selects RX9 yX9_may yX9_may, Cond.code yX9_may cX9_may 3 (some .int), Cond.methodLink RX9 110 yX8_mayHave, Cond.instanceMethod yX8_mayHave, Cond.selects RX8 yX8_mayHave yX8_mayHave, Cond.code yX8_mayHave cX8_mayHave 3 (some .boolean), Cond.methodLink RL 44 yX10_may, Cond.instanceMethod yX10_may, Cond.selects RX10 yX10_may yX10_may, Cond.code yX10_may cX10_may 4 (some .int), Cond.methodLink RL 45 yX9_sure, Cond.instanceMethod yX9_sure]
def uC_20 : List Cond := [Cond.selects RX9 yX9_sure yX9_sure, Cond.code yX9_sure cX9_sure 2 (some .int), Cond.methodLink RX9 114 yX8_waysThatMayBe, Cond.instanceMethod yX8_waysThatMayBe, Cond.selects RX8 yX8_waysThatMayBe yX8_waysThatMayBe, Cond.code yX8_waysThatMayBe cX8_waysThatMayBe 4 (some .int), Cond.methodLink RL 48 yX10_sure, Cond.instanceMethod yX10_sure, Cond.selects RX10 yX10_sure yX10_sure, Cond.code yX10_sure cX10_sure 5 (some .int), Cond.methodLink RL 49 yX9_date, Cond.instanceMethod yX9_date, Cond.selects RX9 yX9_date yX9_date, Cond.code yX9_date cX9_date 3 (some .int), Cond.methodLink RX9 117 yX8_yearOf, Cond.instanceMethod yX8_yearOf, Cond.selects RX8 yX8_yearOf yX8_yearOf, Cond.code yX8_yearOf cX8_yearOf 3 (some .int), Cond.methodLink RL 52 yX10_date, Cond.instanceMethod yX10_date, Cond.selects RX10 yX10_date yX10_date, Cond.code yX10_date cX10_date 7 (some .int), Cond.methodLink RL 53 yX9_name, Cond.instanceMethod yX9_name]
def uC_21 : List Cond := [Cond.selects RX9 yX9_name yX9_name, Cond.code yX9_name cX9_name 3 (some .int), Cond.fieldLink RX9 124 "ChainLetters$Names" "count" "I", Cond.methodLink RX9 121 yX5_isName, Cond.static yX5_isName, Cond.code yX5_isName cX5_isName 4 (some .boolean), Cond.methodLink RX9 125 yX5_add, Cond.instanceMethod yX5_add, Cond.selects RX5 yX5_add yX5_add, Cond.code yX5_add cX5_add 6 (some .int), Cond.fieldLink RX5 33 "ChainLetters$Names" "count" "I", Cond.methodLink RX5 37 yX5_compare, Cond.instanceMethod yX5_compare, Cond.selects RX5 yX5_compare yX5_compare, Cond.code yX5_compare cX5_compare 9 (some .int), Cond.methodLink RX5 41 Lib.Math.min.name, Cond.methodLink RL 56 yX10_name, Cond.instanceMethod yX10_name, Cond.selects RX10 yX10_name yX10_name, Cond.code yX10_name cX10_name 6 (some .int), Cond.constantLong RX10 188 (6), Cond.fieldLink RX10 190 "ChainLettersModel" "names" "I", Cond.methodLink RL 57 yX9_slips, Cond.instanceMethod yX9_slips]
def uC_22 : List Cond := [Cond.selects RX9 yX9_slips yX9_slips, Cond.code yX9_slips cX9_slips 3 (some .int), Cond.methodLink RX9 126 yX5_has, Cond.instanceMethod yX5_has, Cond.selects RX5 yX5_has yX5_has, Cond.code yX5_has cX5_has 2 (some .boolean), Cond.methodLink RX9 127 yX5_slipsBetween, Cond.instanceMethod yX5_slipsBetween, Cond.selects RX5 yX5_slipsBetween yX5_slipsBetween, Cond.code yX5_slipsBetween cX5_slipsBetween 3 (some .int), Cond.methodLink RL 60 yX10_slips, Cond.instanceMethod yX10_slips, Cond.selects RX10 yX10_slips yX10_slips, Cond.code yX10_slips cX10_slips 3 (some .int), Cond.methodLink RX10 196 yX10_isName, Cond.instanceMethod yX10_isName, Cond.selects RX10 yX10_isName yX10_isName, Cond.code yX10_isName cX10_isName 2 (some .boolean), Cond.methodLink RX10 199 yX10_slipsOf, Cond.instanceMethod yX10_slipsOf, Cond.selects RX10 yX10_slipsOf yX10_slipsOf, Cond.code yX10_slipsOf cX10_slipsOf 6 (some .int), Cond.methodLink RX10 193 yX10_lesser, Cond.static yX10_lesser]
def uC_23 : List Cond := [Cond.code yX10_lesser cX10_lesser 2 (some .int), Cond.methodLink RL 61 yX9_worn, Cond.instanceMethod yX9_worn, Cond.selects RX9 yX9_worn yX9_worn, Cond.code yX9_worn cX9_worn 4 (some .int), Cond.methodLink RX9 130 yX5_wornCost, Cond.instanceMethod yX5_wornCost, Cond.selects RX5 yX5_wornCost yX5_wornCost, Cond.code yX5_wornCost cX5_wornCost 3 (some .int), Cond.methodLink RX5 46 yX5_weighTo, Cond.instanceMethod yX5_weighTo, Cond.selects RX5 yX5_weighTo yX5_weighTo, Cond.code yX5_weighTo cX5_weighTo 5 none, Cond.methodLink RX5 54 yX5_weightOfStep, Cond.instanceMethod yX5_weightOfStep, Cond.selects RX5 yX5_weightOfStep yX5_weightOfStep, Cond.code yX5_weightOfStep cX5_weightOfStep 4 (some .int), Cond.methodLink RX9 133 yX5_wornName, Cond.instanceMethod yX5_wornName, Cond.selects RX5 yX5_wornName yX5_wornName, Cond.code yX5_wornName cX5_wornName 7 (some .int), Cond.methodLink RX5 50 yX5_nextFrom, Cond.instanceMethod yX5_nextFrom, Cond.selects RX5 yX5_nextFrom yX5_nextFrom]
def uC_24 : List Cond := [Cond.code yX5_nextFrom cX5_nextFrom 3 (some .int), Cond.methodLink RL 64 yX10_worn, Cond.instanceMethod yX10_worn, Cond.selects RX10 yX10_worn yX10_worn, Cond.code yX10_worn cX10_worn 8 (some .int), Cond.methodLink RX10 202 yX10_step, Cond.instanceMethod yX10_step, Cond.selects RX10 yX10_step yX10_step, Cond.code yX10_step cX10_step 4 (some .int), Cond.methodLink RL 65 yX9_habit, Cond.instanceMethod yX9_habit, Cond.selects RX9 yX9_habit yX9_habit, Cond.code yX9_habit cX9_habit 3 (some .int), Cond.methodLink RX9 136 yX3_tell, Cond.instanceMethod yX3_tell, Cond.selects RX3 yX3_tell yX3_tell, Cond.code yX3_tell cX3_tell 4 (some .int), Cond.methodLink RL 68 yX10_habit, Cond.instanceMethod yX10_habit, Cond.selects RX10 yX10_habit yX10_habit, Cond.code yX10_habit cX10_habit 4 (some .int), Cond.constantLong RX10 205 (100), Cond.methodLink RL 69 yX9_lives, Cond.instanceMethod yX9_lives]
def uC_25 : List Cond := [Cond.selects RX9 yX9_lives yX9_lives, Cond.code yX9_lives cX9_lives 3 (some .int), Cond.methodLink RX9 139 yX3_sumOfWeights, Cond.instanceMethod yX3_sumOfWeights, Cond.selects RX3 yX3_sumOfWeights yX3_sumOfWeights, Cond.code yX3_sumOfWeights cX3_sumOfWeights 3 (some .int), Cond.methodLink RX9 142 yX3_sumOfCopies, Cond.instanceMethod yX3_sumOfCopies, Cond.selects RX3 yX3_sumOfCopies yX3_sumOfCopies, Cond.code yX3_sumOfCopies cX3_sumOfCopies 3 (some .int), Cond.methodLink RL 72 yX10_lives, Cond.instanceMethod yX10_lives, Cond.selects RX10 yX10_lives yX10_lives, Cond.code yX10_lives cX10_lives 3 (some .int), Cond.methodLink RX10 207 yX10_weights, Cond.instanceMethod yX10_weights, Cond.selects RX10 yX10_weights yX10_weights, Cond.code yX10_weights cX10_weights 3 (some .int), Cond.methodLink RX10 210 yX10_copiesOfAll, Cond.instanceMethod yX10_copiesOfAll, Cond.selects RX10 yX10_copiesOfAll yX10_copiesOfAll, Cond.code yX10_copiesOfAll cX10_copiesOfAll 3 (some .int), Cond.methodLink RL 73 yX9_mean, Cond.instanceMethod yX9_mean]
def uC_26 : List Cond := [Cond.selects RX9 yX9_mean yX9_mean, Cond.code yX9_mean cX9_mean 2 (some .int), Cond.methodLink RX9 145 yX2_become, Cond.instanceMethod yX2_become, Cond.selects RX2 yX2_become yX2_become, Cond.code yX2_become cX2_become 7 none, Cond.methodLink RX2 23 yX2_shared, Cond.static yX2_shared, Cond.code yX2_shared cX2_shared 11 (some .long), Cond.methodLink RL 76 yX10_mean, Cond.instanceMethod yX10_mean, Cond.selects RX10 yX10_mean yX10_mean, Cond.code yX10_mean cX10_mean 1 (some .int), Cond.methodLink RX10 213 yX10_tells, Cond.instanceMethod yX10_tells, Cond.selects RX10 yX10_tells yX10_tells, Cond.code yX10_tells cX10_tells 5 (some .int), Cond.methodLink RX10 120 yX10_lowers, Cond.instanceMethod yX10_lowers, Cond.selects RX10 yX10_lowers yX10_lowers, Cond.code yX10_lowers cX10_lowers 2 none, Cond.methodLink RX10 103 yX10_isEven, Cond.instanceMethod yX10_isEven, Cond.selects RX10 yX10_isEven yX10_isEven]
def uC_27 : List Cond := [Cond.code yX10_isEven cX10_isEven 2 (some .boolean), Cond.methodLink RX10 107 yX10_halves, Cond.instanceMethod yX10_halves, Cond.selects RX10 yX10_halves yX10_halves, Cond.code yX10_halves cX10_halves 4 none, Cond.methodLink RX10 98 yX10_takes, Cond.instanceMethod yX10_takes, Cond.selects RX10 yX10_takes yX10_takes, Cond.code yX10_takes cX10_takes 4 none, Cond.methodLink RX10 110 yX10_against, Cond.instanceMethod yX10_against, Cond.selects RX10 yX10_against yX10_against, Cond.code yX10_against cX10_against 4 (some .int), Cond.methodLink RX10 114 yX10_lessens, Cond.instanceMethod yX10_lessens, Cond.selects RX10 yX10_lessens yX10_lessens, Cond.code yX10_lessens cX10_lessens 6 none, Cond.constant RX10 102 (1073741823), Cond.methodLink RX10 117 yX10_parts, Cond.instanceMethod yX10_parts, Cond.selects RX10 yX10_parts yX10_parts, Cond.code yX10_parts cX10_parts 13 none, Cond.methodLink RL 77 yX9_gone, Cond.instanceMethod yX9_gone]
def uC_28 : List Cond := [Cond.selects RX9 yX9_gone yX9_gone, Cond.code yX9_gone cX9_gone 2 (some .int), Cond.methodLink RX9 149 yX3_chanceGone, Cond.instanceMethod yX3_chanceGone, Cond.selects RX3 yX3_chanceGone yX3_chanceGone, Cond.code yX3_chanceGone cX3_chanceGone 5 none, Cond.methodLink RX3 32 yX3_sumOfWeights, Cond.methodLink RX3 36 yX6_become, Cond.methodLink RX3 40 yX3_goRound, Cond.instanceMethod yX3_goRound, Cond.selects RX3 yX3_goRound yX3_goRound, Cond.code yX3_goRound cX3_goRound 3 none, Cond.methodLink RX3 53 yX6_multiply, Cond.instanceMethod yX6_multiply, Cond.selects RX6 yX6_multiply yX6_multiply, Cond.code yX6_multiply cX6_multiply 11 none, Cond.methodLink RX3 56 yX6_take, Cond.instanceMethod yX6_take, Cond.selects RX6 yX6_take yX6_take, Cond.code yX6_take cX6_take 3 none, Cond.methodLink RX3 59 yX6_addTimes, Cond.instanceMethod yX6_addTimes, Cond.selects RX6 yX6_addTimes yX6_addTimes, Cond.code yX6_addTimes cX6_addTimes 8 none]
def uC_29 : List Cond := [Cond.methodLink RX3 44 yX3_reduce, Cond.instanceMethod yX3_reduce, Cond.selects RX3 yX3_reduce yX3_reduce, Cond.code yX3_reduce cX3_reduce 6 none, Cond.fieldLink RX3 63 "ChainLetters$Natural" "size" "I", Cond.methodLink RX3 67 yX6_leftOver, Cond.instanceMethod yX6_leftOver, Cond.selects RX6 yX6_leftOver yX6_leftOver, Cond.code yX6_leftOver cX6_leftOver 5 (some .int), Cond.methodLink RX6 24 Lib.Math.min.name, Cond.methodLink RX3 71 yX2_shared, Cond.methodLink RX3 75 yX6_divide, Cond.instanceMethod yX6_divide, Cond.selects RX6 yX6_divide yX6_divide, Cond.code yX6_divide cX6_divide 7 none, Cond.methodLink RX3 47 yX2_take, Cond.instanceMethod yX2_take, Cond.selects RX2 yX2_take yX2_take, Cond.code yX2_take cX2_take 3 none, Cond.methodLink RX2 27 yX6_take, Cond.methodLink RL 80 yX10_gone, Cond.instanceMethod yX10_gone, Cond.selects RX10 yX10_gone yX10_gone, Cond.code yX10_gone cX10_gone 3 (some .int)]
def uC_30 : List Cond := [Cond.constantLong RX10 217 (3), Cond.methodLink RX10 219 yX10_rounds, Cond.instanceMethod yX10_rounds, Cond.selects RX10 yX10_rounds yX10_rounds, Cond.code yX10_rounds cX10_rounds 3 none, Cond.methodLink RX10 222 yX10_multiplies, Cond.instanceMethod yX10_multiplies, Cond.selects RX10 yX10_multiplies yX10_multiplies, Cond.code yX10_multiplies cX10_multiplies 11 none, Cond.methodLink RX10 225 yX10_adds, Cond.instanceMethod yX10_adds, Cond.selects RX10 yX10_adds yX10_adds, Cond.code yX10_adds cX10_adds 7 none, Cond.methodLink RL 81 yX9_asking, Cond.instanceMethod yX9_asking, Cond.selects RX9 yX9_asking yX9_asking, Cond.code yX9_asking cX9_asking 4 (some .int), Cond.methodLink RX9 153 yX0_tell, Cond.instanceMethod yX0_tell, Cond.selects RX0 yX0_tell yX0_tell, Cond.code yX0_tell cX0_tell 4 none, Cond.methodLink RL 84 yX10_asking, Cond.instanceMethod yX10_asking, Cond.selects RX10 yX10_asking yX10_asking]
def uC_31 : List Cond := [Cond.code yX10_asking cX10_asking 4 (some .int), Cond.methodLink RL 85 yX9_best, Cond.instanceMethod yX9_best, Cond.selects RX9 yX9_best yX9_best, Cond.code yX9_best cX9_best 3 (some .int), Cond.methodLink RX9 156 yX0_bestCopies, Cond.instanceMethod yX0_bestCopies, Cond.selects RX0 yX0_bestCopies yX0_bestCopies, Cond.code yX0_bestCopies cX0_bestCopies 3 (some .int), Cond.methodLink RX9 159 yX0_doing, Cond.instanceMethod yX0_doing, Cond.selects RX0 yX0_doing yX0_doing, Cond.code yX0_doing cX0_doing 2 (some .int), Cond.methodLink RX9 162 yX0_asked, Cond.instanceMethod yX0_asked, Cond.selects RX0 yX0_asked yX0_asked, Cond.code yX0_asked cX0_asked 2 (some .int), Cond.methodLink RL 88 yX10_best, Cond.instanceMethod yX10_best, Cond.selects RX10 yX10_best yX10_best, Cond.code yX10_best cX10_best 4 (some .int), Cond.methodLink RL 89 yX9_round, Cond.instanceMethod yX9_round, Cond.selects RX9 yX9_round yX9_round]
def uC_32 : List Cond := [Cond.code yX9_round cX9_round 6 (some .long), Cond.constantLong RX9 165 (-1), Cond.methodLink RL 93 yX10_round, Cond.instanceMethod yX10_round, Cond.selects RX10 yX10_round yX10_round, Cond.code yX10_round cX10_round 3 (some .long), Cond.constantLong RX10 228 (18), Cond.methodLink RX10 230 yX10_power, Cond.static yX10_power, Cond.code yX10_power cX10_power 5 (some .long), Cond.methodLink RL 96 yX9_outrun, Cond.instanceMethod yX9_outrun, Cond.selects RX9 yX9_outrun yX9_outrun, Cond.code yX9_outrun cX9_outrun 9 (some .int), Cond.constantLong RX9 167 (10000000000), Cond.methodLink RL 100 yX10_outrun, Cond.instanceMethod yX10_outrun, Cond.selects RX10 yX10_outrun yX10_outrun, Cond.code yX10_outrun cX10_outrun 7 (some .int), Cond.constantLong RX10 234 (10000000000), Cond.methodLink RL 101 yX9_sends, Cond.instanceMethod yX9_sends, Cond.selects RX9 yX9_sends yX9_sends, Cond.code yX9_sends cX9_sends 3 (some .int)]
def uC_33 : List Cond := [Cond.methodLink RX9 169 yX7_has, Cond.static yX7_has, Cond.code yX7_has cX7_has 1 (some .boolean), Cond.methodLink RX9 170 yX7_tellSends, Cond.instanceMethod yX7_tellSends, Cond.selects RX7 yX7_tellSends yX7_tellSends, Cond.code yX7_tellSends cX7_tellSends 4 (some .int), Cond.methodLink RL 104 yX10_sends, Cond.instanceMethod yX10_sends, Cond.selects RX10 yX10_sends yX10_sends, Cond.code yX10_sends cX10_sends 4 (some .int), Cond.constantLong RX10 239 (1023), Cond.methodLink RX10 236 yX10_isPerson, Cond.static yX10_isPerson, Cond.code yX10_isPerson cX10_isPerson 1 (some .boolean), Cond.methodLink RL 105 yX9_copies, Cond.instanceMethod yX9_copies, Cond.selects RX9 yX9_copies yX9_copies, Cond.code yX9_copies cX9_copies 5 (some .int), Cond.methodLink RX9 173 yX7_tellCopies, Cond.instanceMethod yX7_tellCopies, Cond.selects RX7 yX7_tellCopies yX7_tellCopies, Cond.code yX7_tellCopies cX7_tellCopies 5 none, Cond.methodLink RL 109 yX10_copies]
def uC_34 : List Cond := [Cond.instanceMethod yX10_copies, Cond.selects RX10 yX10_copies yX10_copies, Cond.code yX10_copies cX10_copies 5 (some .int), Cond.methodLink RL 110 yX9_run, Cond.instanceMethod yX9_run, Cond.selects RX9 yX9_run yX9_run, Cond.code yX9_run cX9_run 5 (some .int), Cond.methodLink RX9 177 yX7_goThrough, Cond.instanceMethod yX7_goThrough, Cond.selects RX7 yX7_goThrough yX7_goThrough, Cond.code yX7_goThrough cX7_goThrough 9 (some .int), Cond.constant RX7 31 (1103515245), Cond.methodLink RX7 32 yX7_getters, Cond.instanceMethod yX7_getters, Cond.selects RX7 yX7_getters yX7_getters, Cond.code yX7_getters cX7_getters 6 (some .int), Cond.methodLink RX7 36 yX7_countDay, Cond.instanceMethod yX7_countDay, Cond.selects RX7 yX7_countDay yX7_countDay, Cond.code yX7_countDay cX7_countDay 3 none, Cond.methodLink RX9 180 yX7_daysOf, Cond.instanceMethod yX7_daysOf, Cond.selects RX7 yX7_daysOf yX7_daysOf, Cond.code yX7_daysOf cX7_daysOf 2 (some .int)]
def uC_35 : List Cond := [Cond.methodLink RL 113 yX10_run, Cond.instanceMethod yX10_run, Cond.selects RX10 yX10_run yX10_run, Cond.code yX10_run cX10_run 10 (some .int), Cond.constant RX10 241 (1103515245), Cond.methodLink RX10 242 yX10_goesTo, Cond.instanceMethod yX10_goesTo, Cond.selects RX10 yX10_goesTo yX10_goesTo, Cond.code yX10_goesTo cX10_goesTo 6 (some .int), Cond.methodLink RL 114 yX9_reach, Cond.instanceMethod yX9_reach, Cond.selects RX9 yX9_reach yX9_reach, Cond.code yX9_reach cX9_reach 3 (some .int), Cond.methodLink RX9 183 yX7_lookAhead, Cond.instanceMethod yX7_lookAhead, Cond.selects RX7 yX7_lookAhead yX7_lookAhead, Cond.code yX7_lookAhead cX7_lookAhead 2 none, Cond.methodLink RX9 186 yX7_reached, Cond.instanceMethod yX7_reached, Cond.selects RX7 yX7_reached yX7_reached, Cond.code yX7_reached cX7_reached 9 (some .int), Cond.methodLink RL 117 yX10_reach, Cond.instanceMethod yX10_reach, Cond.selects RX10 yX10_reach yX10_reach]
def uC_36 : List Cond := [Cond.code yX10_reach cX10_reach 3 (some .int), Cond.methodLink RX10 245 yX10_reachOf, Cond.instanceMethod yX10_reachOf, Cond.selects RX10 yX10_reachOf yX10_reachOf, Cond.code yX10_reachOf cX10_reachOf 6 (some .int), Cond.methodLink RL 118 yX9_stop, Cond.instanceMethod yX9_stop, Cond.selects RX9 yX9_stop yX9_stop, Cond.code yX9_stop cX9_stop 3 (some .int), Cond.methodLink RX9 189 yX7_fewestTold, Cond.instanceMethod yX7_fewestTold, Cond.selects RX7 yX7_fewestTold yX7_fewestTold, Cond.code yX7_fewestTold cX7_fewestTold 6 (some .int), Cond.methodLink RX7 40 yX7_reached, Cond.methodLink RX7 44 yJ6_bitCount_0f7a4, Cond.static yJ6_bitCount_0f7a4, Cond.initialized RJ6, Cond.code yJ6_bitCount_0f7a4 cJ6_bitCount_0f7a4 1 (some .int), Cond.constant RJ6 265 (1431655765), Cond.constant RJ6 266 (858993459), Cond.constant RJ6 267 (252645135), Cond.methodLink RL 121 yX10_stop, Cond.instanceMethod yX10_stop, Cond.selects RX10 yX10_stop yX10_stop]
def uC_37 : List Cond := [Cond.code yX10_stop cX10_stop 6 (some .int), Cond.constantLong RX10 248 (10), Cond.methodLink RX10 250 yX10_sizeOf, Cond.static yX10_sizeOf, Cond.code yX10_sizeOf cX10_sizeOf 3 (some .int), Cond.methodLink RL 122 yX9_keep, Cond.instanceMethod yX9_keep, Cond.selects RX9 yX9_keep yX9_keep, Cond.code yX9_keep cX9_keep 2 (some .int), Cond.fieldLink RX9 192 "ChainLetters$Box" "count" "I", Cond.methodLink RX9 193 yX1_add, Cond.instanceMethod yX1_add, Cond.selects RX1 yX1_add yX1_add, Cond.code yX1_add cX1_add 2 (some .int), Cond.fieldLink RX1 18 "ChainLetters$Box" "count" "I", Cond.methodLink RL 125 yX10_keep, Cond.instanceMethod yX10_keep, Cond.selects RX10 yX10_keep yX10_keep, Cond.code yX10_keep cX10_keep 2 (some .int), Cond.fieldLink RX10 253 "ChainLettersModel" "kept" "I", Cond.methodLink RL 126 yX9_burn, Cond.instanceMethod yX9_burn, Cond.selects RX9 yX9_burn yX9_burn, Cond.code yX9_burn cX9_burn 1 (some .int)]
def uC_38 : List Cond := [Cond.methodLink RX9 195 yX1_empty, Cond.instanceMethod yX1_empty, Cond.selects RX1 yX1_empty yX1_empty, Cond.code yX1_empty cX1_empty 3 (some .int), Cond.methodLink RL 129 yX10_burn, Cond.instanceMethod yX10_burn, Cond.selects RX10 yX10_burn yX10_burn, Cond.code yX10_burn cX10_burn 2 (some .int), Cond.methodLink RL 130 yX9_hidden, Cond.instanceMethod yX9_hidden, Cond.selects RX9 yX9_hidden yX9_hidden, Cond.code yX9_hidden cX9_hidden 7 (some .int), Cond.fieldLink RX9 201 "ChainLetters$Box" "keptOnce" "I", Cond.fieldLink RX9 204 "ChainLetters$Box" "keptTwice" "I", Cond.fieldLink RX9 207 "ChainLetters$Box" "keptAtAll" "I", Cond.constantLong RX9 210 (2), Cond.methodLink RX9 198 yX1_tally, Cond.instanceMethod yX1_tally, Cond.selects RX1 yX1_tally yX1_tally, Cond.code yX1_tally cX1_tally 2 none, Cond.fieldLink RX1 22 "ChainLetters$Box" "keptAtAll" "I", Cond.fieldLink RX1 25 "ChainLetters$Box" "keptOnce" "I", Cond.fieldLink RX1 28 "ChainLetters$Box" "keptTwice" "I", Cond.methodLink RL 133 yX10_hidden]
def uC_39 : List Cond := [Cond.instanceMethod yX10_hidden, Cond.selects RX10 yX10_hidden yX10_hidden, Cond.code yX10_hidden cX10_hidden 7 (some .int), Cond.constantLong RX10 256 (2), Cond.methodLink RL 134 yX9_sign, Cond.instanceMethod yX9_sign, Cond.selects RX9 yX9_sign yX9_sign, Cond.code yX9_sign cX9_sign 2 (some .int), Cond.fieldLink RX9 212 "ChainLetters$Fraction" "above" "LChainLetters$Natural;", Cond.fieldLink RX9 216 "ChainLetters$Natural" "size" "I", Cond.fieldLink RX9 221 "ChainLetters$Fraction" "below" "LChainLetters$Natural;", Cond.methodLink RL 137 yX10_sign, Cond.instanceMethod yX10_sign, Cond.selects RX10 yX10_sign yX10_sign, Cond.code yX10_sign cX10_sign 2 (some .int), Cond.methodLink RL 138 yX9_limb, Cond.instanceMethod yX9_limb, Cond.selects RX9 yX9_limb yX9_limb, Cond.code yX9_limb cX9_limb 3 (some .int), Cond.methodLink RX9 224 yX6_digit, Cond.instanceMethod yX6_digit, Cond.selects RX6 yX6_digit yX6_digit, Cond.code yX6_digit cX6_digit 2 (some .int), Cond.methodLink RL 141 yX10_limb]
def uC_40 : List Cond := [Cond.instanceMethod yX10_limb, Cond.selects RX10 yX10_limb yX10_limb, Cond.code yX10_limb cX10_limb 3 (some .int), Cond.methodLink RL 142 yX9_count, Cond.instanceMethod yX9_count, Cond.selects RX9 yX9_count yX9_count, Cond.code yX9_count cX9_count 2 (some .int), Cond.methodLink RX9 227 yX4_sentencesOfAll, Cond.instanceMethod yX4_sentencesOfAll, Cond.selects RX4 yX4_sentencesOfAll yX4_sentencesOfAll, Cond.code yX4_sentencesOfAll cX4_sentencesOfAll 3 (some .int), Cond.methodLink RL 145 yX10_count, Cond.instanceMethod yX10_count, Cond.selects RX10 yX10_count yX10_count, Cond.code yX10_count cX10_count 2 (some .int), Cond.methodLink RX10 258 yX10_countOf, Cond.instanceMethod yX10_countOf, Cond.selects RX10 yX10_countOf yX10_countOf, Cond.code yX10_countOf cX10_countOf 4 (some .int), Cond.methodLink RL 146 yX9_digest, Cond.instanceMethod yX9_digest, Cond.selects RX9 yX9_digest yX9_digest, Cond.code yX9_digest cX9_digest 4 (some .long), Cond.constantLong RX9 230 (457)]
def uC_41 : List Cond := [Cond.constantLong RX9 232 (31), Cond.methodLink RX9 234 yX9_count, Cond.methodLink RX9 236 yX4_foldInto, Cond.instanceMethod yX4_foldInto, Cond.selects RX4 yX4_foldInto yX4_foldInto, Cond.code yX4_foldInto cX4_foldInto 7 (some .long), Cond.constantLong RX4 62 (31), Cond.methodLink RX9 240 yX5_foldInto, Cond.instanceMethod yX5_foldInto, Cond.selects RX5 yX5_foldInto yX5_foldInto, Cond.code yX5_foldInto cX5_foldInto 6 (some .long), Cond.constantLong RX5 57 (31), Cond.methodLink RX9 241 yX3_foldInto, Cond.instanceMethod yX3_foldInto, Cond.selects RX3 yX3_foldInto yX3_foldInto, Cond.code yX3_foldInto cX3_foldInto 6 (some .long), Cond.constantLong RX3 78 (31), Cond.methodLink RX9 242 yX0_foldInto, Cond.instanceMethod yX0_foldInto, Cond.selects RX0 yX0_foldInto yX0_foldInto, Cond.code yX0_foldInto cX0_foldInto 6 (some .long), Cond.constantLong RX0 16 (31), Cond.methodLink RX9 243 yX7_foldInto, Cond.instanceMethod yX7_foldInto]
def uC_42 : List Cond := [Cond.selects RX7 yX7_foldInto yX7_foldInto, Cond.code yX7_foldInto cX7_foldInto 6 (some .long), Cond.constantLong RX7 49 (31), Cond.methodLink RX9 244 yX1_foldInto, Cond.instanceMethod yX1_foldInto, Cond.selects RX1 yX1_foldInto yX1_foldInto, Cond.code yX1_foldInto cX1_foldInto 6 (some .long), Cond.constantLong RX1 31 (31), Cond.methodLink RX9 245 yX9_least, Cond.methodLink RX9 248 yX9_sign, Cond.methodLink RX9 251 yX6_foldInto, Cond.instanceMethod yX6_foldInto, Cond.selects RX6 yX6_foldInto yX6_foldInto, Cond.code yX6_foldInto cX6_foldInto 6 (some .long), Cond.constantLong RX6 30 (31), Cond.methodLink RL 150 yX10_digest, Cond.instanceMethod yX10_digest, Cond.selects RX10 yX10_digest yX10_digest, Cond.code yX10_digest cX10_digest 4 (some .long), Cond.constantLong RX10 263 (457), Cond.constantLong RX10 261 (31), Cond.methodLink RX10 265 yX10_mixed, Cond.static yX10_mixed, Cond.code yX10_mixed cX10_mixed 8 (some .long)]
def uC_43 : List Cond := [Cond.methodLink RX10 269 yX10_sign]
def uS_54 : List Cond := []
def uS_53 : List Cond := wsX60 ++ uS_54
def uS_52 : List Cond := wsX20 ++ uS_53
def uS_51 : List Cond := wsX10 ++ uS_52
def uS_50 : List Cond := wsX70 ++ uS_51
def uS_49 : List Cond := wsX00 ++ uS_50
def uS_48 : List Cond := wsX30 ++ uS_49
def uS_47 : List Cond := wsX50 ++ uS_48
def uS_46 : List Cond := wsX80 ++ uS_47
def uS_45 : List Cond := wsX40 ++ uS_46
def uS_44 : List Cond := wsX100 ++ uS_45
def uS_43 : List Cond := wsX90 ++ uS_44
def uS_42 : List Cond := uC_43 ++ uS_43
def uS_41 : List Cond := uC_42 ++ uS_42
def uS_40 : List Cond := uC_41 ++ uS_41
def uS_39 : List Cond := uC_40 ++ uS_40
def uS_38 : List Cond := uC_39 ++ uS_39
def uS_37 : List Cond := uC_38 ++ uS_38
def uS_36 : List Cond := uC_37 ++ uS_37
def uS_35 : List Cond := uC_36 ++ uS_36
def uS_34 : List Cond := uC_35 ++ uS_35
def uS_33 : List Cond := uC_34 ++ uS_34
def uS_32 : List Cond := uC_33 ++ uS_33
def uS_31 : List Cond := uC_32 ++ uS_32
def uS_30 : List Cond := uC_31 ++ uS_31
def uS_29 : List Cond := uC_30 ++ uS_30
def uS_28 : List Cond := uC_29 ++ uS_29
def uS_27 : List Cond := uC_28 ++ uS_28
def uS_26 : List Cond := uC_27 ++ uS_27
def uS_25 : List Cond := uC_26 ++ uS_26
def uS_24 : List Cond := uC_25 ++ uS_25
def uS_23 : List Cond := uC_24 ++ uS_24
def uS_22 : List Cond := uC_23 ++ uS_23
def uS_21 : List Cond := uC_22 ++ uS_22
def uS_20 : List Cond := uC_21 ++ uS_21
def uS_19 : List Cond := uC_20 ++ uS_20
def uS_18 : List Cond := uC_19 ++ uS_19
def uS_17 : List Cond := uC_18 ++ uS_18
def uS_16 : List Cond := uC_17 ++ uS_17
def uS_15 : List Cond := uC_16 ++ uS_16
def uS_14 : List Cond := uC_15 ++ uS_15
def uS_13 : List Cond := uC_14 ++ uS_14
def uS_12 : List Cond := uC_13 ++ uS_13
def uS_11 : List Cond := uC_12 ++ uS_12
def uS_10 : List Cond := uC_11 ++ uS_11
def uS_9 : List Cond := uC_10 ++ uS_10
def uS_8 : List Cond := uC_9 ++ uS_9
def uS_7 : List Cond := uC_8 ++ uS_8
def uS_6 : List Cond := uC_7 ++ uS_7
def uS_5 : List Cond := uC_6 ++ uS_6
def uS_4 : List Cond := uC_5 ++ uS_5
def uS_3 : List Cond := uC_4 ++ uS_4
def uS_2 : List Cond := uC_3 ++ uS_3
def uS_1 : List Cond := uC_2 ++ uS_2
def uS_0 : List Cond := uC_1 ++ uS_1
abbrev uU : List Cond := uS_0
theorem uT_0 : ∀ w ∈ uS_0, w ∈ uU := fun _ h => h
theorem uT_1 : ∀ w ∈ uS_1, w ∈ uU := fun w h => uT_0 w (List.mem_append_right _ h)
theorem uT_2 : ∀ w ∈ uS_2, w ∈ uU := fun w h => uT_1 w (List.mem_append_right _ h)
theorem uT_3 : ∀ w ∈ uS_3, w ∈ uU := fun w h => uT_2 w (List.mem_append_right _ h)
theorem uT_4 : ∀ w ∈ uS_4, w ∈ uU := fun w h => uT_3 w (List.mem_append_right _ h)
theorem uT_5 : ∀ w ∈ uS_5, w ∈ uU := fun w h => uT_4 w (List.mem_append_right _ h)
theorem uT_6 : ∀ w ∈ uS_6, w ∈ uU := fun w h => uT_5 w (List.mem_append_right _ h)
theorem uT_7 : ∀ w ∈ uS_7, w ∈ uU := fun w h => uT_6 w (List.mem_append_right _ h)
theorem uT_8 : ∀ w ∈ uS_8, w ∈ uU := fun w h => uT_7 w (List.mem_append_right _ h)
theorem uT_9 : ∀ w ∈ uS_9, w ∈ uU := fun w h => uT_8 w (List.mem_append_right _ h)
theorem uT_10 : ∀ w ∈ uS_10, w ∈ uU := fun w h => uT_9 w (List.mem_append_right _ h)
theorem uT_11 : ∀ w ∈ uS_11, w ∈ uU := fun w h => uT_10 w (List.mem_append_right _ h)
theorem uT_12 : ∀ w ∈ uS_12, w ∈ uU := fun w h => uT_11 w (List.mem_append_right _ h)
theorem uT_13 : ∀ w ∈ uS_13, w ∈ uU := fun w h => uT_12 w (List.mem_append_right _ h)
theorem uT_14 : ∀ w ∈ uS_14, w ∈ uU := fun w h => uT_13 w (List.mem_append_right _ h)
theorem uT_15 : ∀ w ∈ uS_15, w ∈ uU := fun w h => uT_14 w (List.mem_append_right _ h)
theorem uT_16 : ∀ w ∈ uS_16, w ∈ uU := fun w h => uT_15 w (List.mem_append_right _ h)
theorem uT_17 : ∀ w ∈ uS_17, w ∈ uU := fun w h => uT_16 w (List.mem_append_right _ h)
theorem uT_18 : ∀ w ∈ uS_18, w ∈ uU := fun w h => uT_17 w (List.mem_append_right _ h)
theorem uT_19 : ∀ w ∈ uS_19, w ∈ uU := fun w h => uT_18 w (List.mem_append_right _ h)
theorem uT_20 : ∀ w ∈ uS_20, w ∈ uU := fun w h => uT_19 w (List.mem_append_right _ h)
theorem uT_21 : ∀ w ∈ uS_21, w ∈ uU := fun w h => uT_20 w (List.mem_append_right _ h)
theorem uT_22 : ∀ w ∈ uS_22, w ∈ uU := fun w h => uT_21 w (List.mem_append_right _ h)
theorem uT_23 : ∀ w ∈ uS_23, w ∈ uU := fun w h => uT_22 w (List.mem_append_right _ h)
theorem uT_24 : ∀ w ∈ uS_24, w ∈ uU := fun w h => uT_23 w (List.mem_append_right _ h)
theorem uT_25 : ∀ w ∈ uS_25, w ∈ uU := fun w h => uT_24 w (List.mem_append_right _ h)
theorem uT_26 : ∀ w ∈ uS_26, w ∈ uU := fun w h => uT_25 w (List.mem_append_right _ h)
theorem uT_27 : ∀ w ∈ uS_27, w ∈ uU := fun w h => uT_26 w (List.mem_append_right _ h)
theorem uT_28 : ∀ w ∈ uS_28, w ∈ uU := fun w h => uT_27 w (List.mem_append_right _ h)
theorem uT_29 : ∀ w ∈ uS_29, w ∈ uU := fun w h => uT_28 w (List.mem_append_right _ h)
theorem uT_30 : ∀ w ∈ uS_30, w ∈ uU := fun w h => uT_29 w (List.mem_append_right _ h)
theorem uT_31 : ∀ w ∈ uS_31, w ∈ uU := fun w h => uT_30 w (List.mem_append_right _ h)
theorem uT_32 : ∀ w ∈ uS_32, w ∈ uU := fun w h => uT_31 w (List.mem_append_right _ h)
theorem uT_33 : ∀ w ∈ uS_33, w ∈ uU := fun w h => uT_32 w (List.mem_append_right _ h)
theorem uT_34 : ∀ w ∈ uS_34, w ∈ uU := fun w h => uT_33 w (List.mem_append_right _ h)
theorem uT_35 : ∀ w ∈ uS_35, w ∈ uU := fun w h => uT_34 w (List.mem_append_right _ h)
theorem uT_36 : ∀ w ∈ uS_36, w ∈ uU := fun w h => uT_35 w (List.mem_append_right _ h)
theorem uT_37 : ∀ w ∈ uS_37, w ∈ uU := fun w h => uT_36 w (List.mem_append_right _ h)
theorem uT_38 : ∀ w ∈ uS_38, w ∈ uU := fun w h => uT_37 w (List.mem_append_right _ h)
theorem uT_39 : ∀ w ∈ uS_39, w ∈ uU := fun w h => uT_38 w (List.mem_append_right _ h)
theorem uT_40 : ∀ w ∈ uS_40, w ∈ uU := fun w h => uT_39 w (List.mem_append_right _ h)
theorem uT_41 : ∀ w ∈ uS_41, w ∈ uU := fun w h => uT_40 w (List.mem_append_right _ h)
theorem uT_42 : ∀ w ∈ uS_42, w ∈ uU := fun w h => uT_41 w (List.mem_append_right _ h)
theorem uT_43 : ∀ w ∈ uS_43, w ∈ uU := fun w h => uT_42 w (List.mem_append_right _ h)
theorem uT_44 : ∀ w ∈ uS_44, w ∈ uU := fun w h => uT_43 w (List.mem_append_right _ h)
theorem uT_45 : ∀ w ∈ uS_45, w ∈ uU := fun w h => uT_44 w (List.mem_append_right _ h)
theorem uT_46 : ∀ w ∈ uS_46, w ∈ uU := fun w h => uT_45 w (List.mem_append_right _ h)
theorem uT_47 : ∀ w ∈ uS_47, w ∈ uU := fun w h => uT_46 w (List.mem_append_right _ h)
theorem uT_48 : ∀ w ∈ uS_48, w ∈ uU := fun w h => uT_47 w (List.mem_append_right _ h)
theorem uT_49 : ∀ w ∈ uS_49, w ∈ uU := fun w h => uT_48 w (List.mem_append_right _ h)
theorem uT_50 : ∀ w ∈ uS_50, w ∈ uU := fun w h => uT_49 w (List.mem_append_right _ h)
theorem uT_51 : ∀ w ∈ uS_51, w ∈ uU := fun w h => uT_50 w (List.mem_append_right _ h)
theorem uT_52 : ∀ w ∈ uS_52, w ∈ uU := fun w h => uT_51 w (List.mem_append_right _ h)
theorem uT_53 : ∀ w ∈ uS_53, w ∈ uU := fun w h => uT_52 w (List.mem_append_right _ h)
theorem uT_54 : ∀ w ∈ uS_54, w ∈ uU := fun w h => uT_53 w (List.mem_append_right _ h)
theorem u_1_0 : (Cond.classLink RL 7 RX9) ∈ uU := uT_0 _ (List.mem_append_left _ (List.mem_cons_self))
theorem u_1_1 : (Cond.instantiable RX9 8) ∈ uU := uT_0 _ (List.mem_append_left _ (List.mem_cons_of_mem _ (List.mem_cons_self)))
theorem u_1_2 : (Cond.initialized RX9) ∈ uU := uT_0 _ (List.mem_append_left _ (List.mem_cons_of_mem _ (List.mem_cons_of_mem _ (List.mem_cons_self))))
theorem u_1_3 : (Cond.classLink RL 10 RX10) ∈ uU := uT_0 _ (List.mem_append_left _ (List.mem_cons_of_mem _ (List.mem_cons_of_mem _ (List.mem_cons_of_mem _ (List.mem_cons_self)))))
theorem u_1_4 : (Cond.instantiable RX10 29) ∈ uU := uT_0 _ (List.mem_append_left _ (List.mem_cons_of_mem _ (List.mem_cons_of_mem _ (List.mem_cons_of_mem _ (List.mem_cons_of_mem _ (List.mem_cons_self))))))
theorem u_1_5 : (Cond.initialized RX10) ∈ uU := uT_0 _ (List.mem_append_left _ (List.mem_cons_of_mem _ (List.mem_cons_of_mem _ (List.mem_cons_of_mem _ (List.mem_cons_of_mem _ (List.mem_cons_of_mem _ (List.mem_cons_self)))))))
theorem u_1_6 : (Cond.constantLong RL 94 (4294967295)) ∈ uU := uT_0 _ (List.mem_append_left _ (List.mem_cons_of_mem _ (List.mem_cons_of_mem _ (List.mem_cons_of_mem _ (List.mem_cons_of_mem _ (List.mem_cons_of_mem _ (List.mem_cons_of_mem _ (List.mem_cons_self))))))))
theorem u_1_7 : (Cond.methodLink RL 9 yX9_init) ∈ uU := uT_0 _ (List.mem_append_left _ (List.mem_cons_of_mem _ (List.mem_cons_of_mem _ (List.mem_cons_of_mem _ (List.mem_cons_of_mem _ (List.mem_cons_of_mem _ (List.mem_cons_of_mem _ (List.mem_cons_of_mem _ (List.mem_cons_self)))))))))
theorem u_1_8 : (Cond.instanceMethod yX9_init) ∈ uU := uT_0 _ (List.mem_append_left _ (List.mem_cons_of_mem _ (List.mem_cons_of_mem _ (List.mem_cons_of_mem _ (List.mem_cons_of_mem _ (List.mem_cons_of_mem _ (List.mem_cons_of_mem _ (List.mem_cons_of_mem _ (List.mem_cons_of_mem _ (List.mem_cons_self))))))))))
theorem u_1_9 : (Cond.code yX9_init cX9_init 1 none) ∈ uU := uT_0 _ (List.mem_append_left _ (List.mem_cons_of_mem _ (List.mem_cons_of_mem _ (List.mem_cons_of_mem _ (List.mem_cons_of_mem _ (List.mem_cons_of_mem _ (List.mem_cons_of_mem _ (List.mem_cons_of_mem _ (List.mem_cons_of_mem _ (List.mem_cons_of_mem _ (List.mem_cons_self)))))))))))
theorem u_1_10 : (Cond.methodLink RX9 1 objectInit) ∈ uU := uT_0 _ (List.mem_append_left _ (List.mem_cons_of_mem _ (List.mem_cons_of_mem _ (List.mem_cons_of_mem _ (List.mem_cons_of_mem _ (List.mem_cons_of_mem _ (List.mem_cons_of_mem _ (List.mem_cons_of_mem _ (List.mem_cons_of_mem _ (List.mem_cons_of_mem _ (List.mem_cons_of_mem _ (List.mem_cons_self))))))))))))
theorem u_1_11 : (Cond.instanceMethod objectInit) ∈ uU := uT_0 _ (List.mem_append_left _ (List.mem_cons_of_mem _ (List.mem_cons_of_mem _ (List.mem_cons_of_mem _ (List.mem_cons_of_mem _ (List.mem_cons_of_mem _ (List.mem_cons_of_mem _ (List.mem_cons_of_mem _ (List.mem_cons_of_mem _ (List.mem_cons_of_mem _ (List.mem_cons_of_mem _ (List.mem_cons_of_mem _ (List.mem_cons_self)))))))))))))
theorem u_1_12 : (Cond.code objectInit ⟨#[0xb1]⟩ 1 none) ∈ uU := uT_0 _ (List.mem_append_left _ (List.mem_cons_of_mem _ (List.mem_cons_of_mem _ (List.mem_cons_of_mem _ (List.mem_cons_of_mem _ (List.mem_cons_of_mem _ (List.mem_cons_of_mem _ (List.mem_cons_of_mem _ (List.mem_cons_of_mem _ (List.mem_cons_of_mem _ (List.mem_cons_of_mem _ (List.mem_cons_of_mem _ (List.mem_cons_of_mem _ (List.mem_cons_self))))))))))))))
theorem u_1_13 : (Cond.classLink RX9 7 RX4) ∈ uU := uT_0 _ (List.mem_append_left _ (List.mem_cons_of_mem _ (List.mem_cons_of_mem _ (List.mem_cons_of_mem _ (List.mem_cons_of_mem _ (List.mem_cons_of_mem _ (List.mem_cons_of_mem _ (List.mem_cons_of_mem _ (List.mem_cons_of_mem _ (List.mem_cons_of_mem _ (List.mem_cons_of_mem _ (List.mem_cons_of_mem _ (List.mem_cons_of_mem _ (List.mem_cons_of_mem _ (List.mem_cons_self)))))))))))))))
theorem u_1_14 : (Cond.instantiable RX4 7) ∈ uU := uT_0 _ (List.mem_append_left _ (List.mem_cons_of_mem _ (List.mem_cons_of_mem _ (List.mem_cons_of_mem _ (List.mem_cons_of_mem _ (List.mem_cons_of_mem _ (List.mem_cons_of_mem _ (List.mem_cons_of_mem _ (List.mem_cons_of_mem _ (List.mem_cons_of_mem _ (List.mem_cons_of_mem _ (List.mem_cons_of_mem _ (List.mem_cons_of_mem _ (List.mem_cons_of_mem _ (List.mem_cons_of_mem _ (List.mem_cons_self))))))))))))))))
theorem u_1_15 : (Cond.initialized RX4) ∈ uU := uT_0 _ (List.mem_append_left _ (List.mem_cons_of_mem _ (List.mem_cons_of_mem _ (List.mem_cons_of_mem _ (List.mem_cons_of_mem _ (List.mem_cons_of_mem _ (List.mem_cons_of_mem _ (List.mem_cons_of_mem _ (List.mem_cons_of_mem _ (List.mem_cons_of_mem _ (List.mem_cons_of_mem _ (List.mem_cons_of_mem _ (List.mem_cons_of_mem _ (List.mem_cons_of_mem _ (List.mem_cons_of_mem _ (List.mem_cons_of_mem _ (List.mem_cons_self)))))))))))))))))
theorem u_1_16 : (Cond.fieldLink RX9 10 "ChainLetters" "letters" "LChainLetters$Letters;") ∈ uU := uT_0 _ (List.mem_append_left _ (List.mem_cons_of_mem _ (List.mem_cons_of_mem _ (List.mem_cons_of_mem _ (List.mem_cons_of_mem _ (List.mem_cons_of_mem _ (List.mem_cons_of_mem _ (List.mem_cons_of_mem _ (List.mem_cons_of_mem _ (List.mem_cons_of_mem _ (List.mem_cons_of_mem _ (List.mem_cons_of_mem _ (List.mem_cons_of_mem _ (List.mem_cons_of_mem _ (List.mem_cons_of_mem _ (List.mem_cons_of_mem _ (List.mem_cons_of_mem _ (List.mem_cons_self))))))))))))))))))
theorem u_1_17 : (Cond.classLink RX9 16 RX8) ∈ uU := uT_0 _ (List.mem_append_left _ (List.mem_cons_of_mem _ (List.mem_cons_of_mem _ (List.mem_cons_of_mem _ (List.mem_cons_of_mem _ (List.mem_cons_of_mem _ (List.mem_cons_of_mem _ (List.mem_cons_of_mem _ (List.mem_cons_of_mem _ (List.mem_cons_of_mem _ (List.mem_cons_of_mem _ (List.mem_cons_of_mem _ (List.mem_cons_of_mem _ (List.mem_cons_of_mem _ (List.mem_cons_of_mem _ (List.mem_cons_of_mem _ (List.mem_cons_of_mem _ (List.mem_cons_of_mem _ (List.mem_cons_self)))))))))))))))))))
theorem u_1_18 : (Cond.instantiable RX8 15) ∈ uU := uT_0 _ (List.mem_append_left _ (List.mem_cons_of_mem _ (List.mem_cons_of_mem _ (List.mem_cons_of_mem _ (List.mem_cons_of_mem _ (List.mem_cons_of_mem _ (List.mem_cons_of_mem _ (List.mem_cons_of_mem _ (List.mem_cons_of_mem _ (List.mem_cons_of_mem _ (List.mem_cons_of_mem _ (List.mem_cons_of_mem _ (List.mem_cons_of_mem _ (List.mem_cons_of_mem _ (List.mem_cons_of_mem _ (List.mem_cons_of_mem _ (List.mem_cons_of_mem _ (List.mem_cons_of_mem _ (List.mem_cons_of_mem _ (List.mem_cons_self))))))))))))))))))))
theorem u_1_19 : (Cond.initialized RX8) ∈ uU := uT_0 _ (List.mem_append_left _ (List.mem_cons_of_mem _ (List.mem_cons_of_mem _ (List.mem_cons_of_mem _ (List.mem_cons_of_mem _ (List.mem_cons_of_mem _ (List.mem_cons_of_mem _ (List.mem_cons_of_mem _ (List.mem_cons_of_mem _ (List.mem_cons_of_mem _ (List.mem_cons_of_mem _ (List.mem_cons_of_mem _ (List.mem_cons_of_mem _ (List.mem_cons_of_mem _ (List.mem_cons_of_mem _ (List.mem_cons_of_mem _ (List.mem_cons_of_mem _ (List.mem_cons_of_mem _ (List.mem_cons_of_mem _ (List.mem_cons_of_mem _ (List.mem_cons_self)))))))))))))))))))))
theorem u_1_20 : (Cond.fieldLink RX9 21 "ChainLetters" "trees" "LChainLetters$Trees;") ∈ uU := uT_0 _ (List.mem_append_left _ (List.mem_cons_of_mem _ (List.mem_cons_of_mem _ (List.mem_cons_of_mem _ (List.mem_cons_of_mem _ (List.mem_cons_of_mem _ (List.mem_cons_of_mem _ (List.mem_cons_of_mem _ (List.mem_cons_of_mem _ (List.mem_cons_of_mem _ (List.mem_cons_of_mem _ (List.mem_cons_of_mem _ (List.mem_cons_of_mem _ (List.mem_cons_of_mem _ (List.mem_cons_of_mem _ (List.mem_cons_of_mem _ (List.mem_cons_of_mem _ (List.mem_cons_of_mem _ (List.mem_cons_of_mem _ (List.mem_cons_of_mem _ (List.mem_cons_of_mem _ (List.mem_cons_self))))))))))))))))))))))
theorem u_1_21 : (Cond.classLink RX9 25 RX5) ∈ uU := uT_0 _ (List.mem_append_left _ (List.mem_cons_of_mem _ (List.mem_cons_of_mem _ (List.mem_cons_of_mem _ (List.mem_cons_of_mem _ (List.mem_cons_of_mem _ (List.mem_cons_of_mem _ (List.mem_cons_of_mem _ (List.mem_cons_of_mem _ (List.mem_cons_of_mem _ (List.mem_cons_of_mem _ (List.mem_cons_of_mem _ (List.mem_cons_of_mem _ (List.mem_cons_of_mem _ (List.mem_cons_of_mem _ (List.mem_cons_of_mem _ (List.mem_cons_of_mem _ (List.mem_cons_of_mem _ (List.mem_cons_of_mem _ (List.mem_cons_of_mem _ (List.mem_cons_of_mem _ (List.mem_cons_of_mem _ (List.mem_cons_self)))))))))))))))))))))))
theorem u_1_22 : (Cond.instantiable RX5 8) ∈ uU := uT_0 _ (List.mem_append_left _ (List.mem_cons_of_mem _ (List.mem_cons_of_mem _ (List.mem_cons_of_mem _ (List.mem_cons_of_mem _ (List.mem_cons_of_mem _ (List.mem_cons_of_mem _ (List.mem_cons_of_mem _ (List.mem_cons_of_mem _ (List.mem_cons_of_mem _ (List.mem_cons_of_mem _ (List.mem_cons_of_mem _ (List.mem_cons_of_mem _ (List.mem_cons_of_mem _ (List.mem_cons_of_mem _ (List.mem_cons_of_mem _ (List.mem_cons_of_mem _ (List.mem_cons_of_mem _ (List.mem_cons_of_mem _ (List.mem_cons_of_mem _ (List.mem_cons_of_mem _ (List.mem_cons_of_mem _ (List.mem_cons_of_mem _ (List.mem_cons_self))))))))))))))))))))))))
theorem u_1_23 : (Cond.initialized RX5) ∈ uU := uT_0 _ (List.mem_append_left _ (List.mem_cons_of_mem _ (List.mem_cons_of_mem _ (List.mem_cons_of_mem _ (List.mem_cons_of_mem _ (List.mem_cons_of_mem _ (List.mem_cons_of_mem _ (List.mem_cons_of_mem _ (List.mem_cons_of_mem _ (List.mem_cons_of_mem _ (List.mem_cons_of_mem _ (List.mem_cons_of_mem _ (List.mem_cons_of_mem _ (List.mem_cons_of_mem _ (List.mem_cons_of_mem _ (List.mem_cons_of_mem _ (List.mem_cons_of_mem _ (List.mem_cons_of_mem _ (List.mem_cons_of_mem _ (List.mem_cons_of_mem _ (List.mem_cons_of_mem _ (List.mem_cons_of_mem _ (List.mem_cons_of_mem _ (List.mem_cons_of_mem _ (List.mem_cons_self)))))))))))))))))))))))))
theorem u_2_0 : (Cond.fieldLink RX9 28 "ChainLetters" "names" "LChainLetters$Names;") ∈ uU := uT_1 _ (List.mem_append_left _ (List.mem_cons_self))
theorem u_2_1 : (Cond.classLink RX9 32 RX3) ∈ uU := uT_1 _ (List.mem_append_left _ (List.mem_cons_of_mem _ (List.mem_cons_self)))
theorem u_2_2 : (Cond.instantiable RX3 6) ∈ uU := uT_1 _ (List.mem_append_left _ (List.mem_cons_of_mem _ (List.mem_cons_of_mem _ (List.mem_cons_self))))
theorem u_2_3 : (Cond.initialized RX3) ∈ uU := uT_1 _ (List.mem_append_left _ (List.mem_cons_of_mem _ (List.mem_cons_of_mem _ (List.mem_cons_of_mem _ (List.mem_cons_self)))))
theorem u_2_4 : (Cond.fieldLink RX9 35 "ChainLetters" "habits" "LChainLetters$Habits;") ∈ uU := uT_1 _ (List.mem_append_left _ (List.mem_cons_of_mem _ (List.mem_cons_of_mem _ (List.mem_cons_of_mem _ (List.mem_cons_of_mem _ (List.mem_cons_self))))))
theorem u_2_5 : (Cond.classLink RX9 39 RX0) ∈ uU := uT_1 _ (List.mem_append_left _ (List.mem_cons_of_mem _ (List.mem_cons_of_mem _ (List.mem_cons_of_mem _ (List.mem_cons_of_mem _ (List.mem_cons_of_mem _ (List.mem_cons_self)))))))
theorem u_2_6 : (Cond.instantiable RX0 2) ∈ uU := uT_1 _ (List.mem_append_left _ (List.mem_cons_of_mem _ (List.mem_cons_of_mem _ (List.mem_cons_of_mem _ (List.mem_cons_of_mem _ (List.mem_cons_of_mem _ (List.mem_cons_of_mem _ (List.mem_cons_self))))))))
theorem u_2_7 : (Cond.initialized RX0) ∈ uU := uT_1 _ (List.mem_append_left _ (List.mem_cons_of_mem _ (List.mem_cons_of_mem _ (List.mem_cons_of_mem _ (List.mem_cons_of_mem _ (List.mem_cons_of_mem _ (List.mem_cons_of_mem _ (List.mem_cons_of_mem _ (List.mem_cons_self)))))))))
theorem u_2_8 : (Cond.fieldLink RX9 42 "ChainLetters" "askings" "LChainLetters$Askings;") ∈ uU := uT_1 _ (List.mem_append_left _ (List.mem_cons_of_mem _ (List.mem_cons_of_mem _ (List.mem_cons_of_mem _ (List.mem_cons_of_mem _ (List.mem_cons_of_mem _ (List.mem_cons_of_mem _ (List.mem_cons_of_mem _ (List.mem_cons_of_mem _ (List.mem_cons_self))))))))))
theorem u_2_9 : (Cond.classLink RX9 46 RX7) ∈ uU := uT_1 _ (List.mem_append_left _ (List.mem_cons_of_mem _ (List.mem_cons_of_mem _ (List.mem_cons_of_mem _ (List.mem_cons_of_mem _ (List.mem_cons_of_mem _ (List.mem_cons_of_mem _ (List.mem_cons_of_mem _ (List.mem_cons_of_mem _ (List.mem_cons_of_mem _ (List.mem_cons_self)))))))))))
theorem u_2_10 : (Cond.instantiable RX7 7) ∈ uU := uT_1 _ (List.mem_append_left _ (List.mem_cons_of_mem _ (List.mem_cons_of_mem _ (List.mem_cons_of_mem _ (List.mem_cons_of_mem _ (List.mem_cons_of_mem _ (List.mem_cons_of_mem _ (List.mem_cons_of_mem _ (List.mem_cons_of_mem _ (List.mem_cons_of_mem _ (List.mem_cons_of_mem _ (List.mem_cons_self))))))))))))
theorem u_2_11 : (Cond.initialized RX7) ∈ uU := uT_1 _ (List.mem_append_left _ (List.mem_cons_of_mem _ (List.mem_cons_of_mem _ (List.mem_cons_of_mem _ (List.mem_cons_of_mem _ (List.mem_cons_of_mem _ (List.mem_cons_of_mem _ (List.mem_cons_of_mem _ (List.mem_cons_of_mem _ (List.mem_cons_of_mem _ (List.mem_cons_of_mem _ (List.mem_cons_of_mem _ (List.mem_cons_self)))))))))))))
theorem u_2_12 : (Cond.fieldLink RX9 49 "ChainLetters" "net" "LChainLetters$Net;") ∈ uU := uT_1 _ (List.mem_append_left _ (List.mem_cons_of_mem _ (List.mem_cons_of_mem _ (List.mem_cons_of_mem _ (List.mem_cons_of_mem _ (List.mem_cons_of_mem _ (List.mem_cons_of_mem _ (List.mem_cons_of_mem _ (List.mem_cons_of_mem _ (List.mem_cons_of_mem _ (List.mem_cons_of_mem _ (List.mem_cons_of_mem _ (List.mem_cons_of_mem _ (List.mem_cons_self))))))))))))))
theorem u_2_13 : (Cond.classLink RX9 53 RX1) ∈ uU := uT_1 _ (List.mem_append_left _ (List.mem_cons_of_mem _ (List.mem_cons_of_mem _ (List.mem_cons_of_mem _ (List.mem_cons_of_mem _ (List.mem_cons_of_mem _ (List.mem_cons_of_mem _ (List.mem_cons_of_mem _ (List.mem_cons_of_mem _ (List.mem_cons_of_mem _ (List.mem_cons_of_mem _ (List.mem_cons_of_mem _ (List.mem_cons_of_mem _ (List.mem_cons_of_mem _ (List.mem_cons_self)))))))))))))))
theorem u_2_14 : (Cond.instantiable RX1 6) ∈ uU := uT_1 _ (List.mem_append_left _ (List.mem_cons_of_mem _ (List.mem_cons_of_mem _ (List.mem_cons_of_mem _ (List.mem_cons_of_mem _ (List.mem_cons_of_mem _ (List.mem_cons_of_mem _ (List.mem_cons_of_mem _ (List.mem_cons_of_mem _ (List.mem_cons_of_mem _ (List.mem_cons_of_mem _ (List.mem_cons_of_mem _ (List.mem_cons_of_mem _ (List.mem_cons_of_mem _ (List.mem_cons_of_mem _ (List.mem_cons_self))))))))))))))))
theorem u_2_15 : (Cond.initialized RX1) ∈ uU := uT_1 _ (List.mem_append_left _ (List.mem_cons_of_mem _ (List.mem_cons_of_mem _ (List.mem_cons_of_mem _ (List.mem_cons_of_mem _ (List.mem_cons_of_mem _ (List.mem_cons_of_mem _ (List.mem_cons_of_mem _ (List.mem_cons_of_mem _ (List.mem_cons_of_mem _ (List.mem_cons_of_mem _ (List.mem_cons_of_mem _ (List.mem_cons_of_mem _ (List.mem_cons_of_mem _ (List.mem_cons_of_mem _ (List.mem_cons_of_mem _ (List.mem_cons_self)))))))))))))))))
theorem u_2_16 : (Cond.fieldLink RX9 56 "ChainLetters" "box" "LChainLetters$Box;") ∈ uU := uT_1 _ (List.mem_append_left _ (List.mem_cons_of_mem _ (List.mem_cons_of_mem _ (List.mem_cons_of_mem _ (List.mem_cons_of_mem _ (List.mem_cons_of_mem _ (List.mem_cons_of_mem _ (List.mem_cons_of_mem _ (List.mem_cons_of_mem _ (List.mem_cons_of_mem _ (List.mem_cons_of_mem _ (List.mem_cons_of_mem _ (List.mem_cons_of_mem _ (List.mem_cons_of_mem _ (List.mem_cons_of_mem _ (List.mem_cons_of_mem _ (List.mem_cons_of_mem _ (List.mem_cons_self))))))))))))))))))
theorem u_2_17 : (Cond.classLink RX9 60 RX2) ∈ uU := uT_1 _ (List.mem_append_left _ (List.mem_cons_of_mem _ (List.mem_cons_of_mem _ (List.mem_cons_of_mem _ (List.mem_cons_of_mem _ (List.mem_cons_of_mem _ (List.mem_cons_of_mem _ (List.mem_cons_of_mem _ (List.mem_cons_of_mem _ (List.mem_cons_of_mem _ (List.mem_cons_of_mem _ (List.mem_cons_of_mem _ (List.mem_cons_of_mem _ (List.mem_cons_of_mem _ (List.mem_cons_of_mem _ (List.mem_cons_of_mem _ (List.mem_cons_of_mem _ (List.mem_cons_of_mem _ (List.mem_cons_self)))))))))))))))))))
theorem u_2_18 : (Cond.instantiable RX2 2) ∈ uU := uT_1 _ (List.mem_append_left _ (List.mem_cons_of_mem _ (List.mem_cons_of_mem _ (List.mem_cons_of_mem _ (List.mem_cons_of_mem _ (List.mem_cons_of_mem _ (List.mem_cons_of_mem _ (List.mem_cons_of_mem _ (List.mem_cons_of_mem _ (List.mem_cons_of_mem _ (List.mem_cons_of_mem _ (List.mem_cons_of_mem _ (List.mem_cons_of_mem _ (List.mem_cons_of_mem _ (List.mem_cons_of_mem _ (List.mem_cons_of_mem _ (List.mem_cons_of_mem _ (List.mem_cons_of_mem _ (List.mem_cons_of_mem _ (List.mem_cons_self))))))))))))))))))))
theorem u_2_19 : (Cond.initialized RX2) ∈ uU := uT_1 _ (List.mem_append_left _ (List.mem_cons_of_mem _ (List.mem_cons_of_mem _ (List.mem_cons_of_mem _ (List.mem_cons_of_mem _ (List.mem_cons_of_mem _ (List.mem_cons_of_mem _ (List.mem_cons_of_mem _ (List.mem_cons_of_mem _ (List.mem_cons_of_mem _ (List.mem_cons_of_mem _ (List.mem_cons_of_mem _ (List.mem_cons_of_mem _ (List.mem_cons_of_mem _ (List.mem_cons_of_mem _ (List.mem_cons_of_mem _ (List.mem_cons_of_mem _ (List.mem_cons_of_mem _ (List.mem_cons_of_mem _ (List.mem_cons_of_mem _ (List.mem_cons_self)))))))))))))))))))))
theorem u_2_20 : (Cond.fieldLink RX9 63 "ChainLetters" "fraction" "LChainLetters$Fraction;") ∈ uU := uT_1 _ (List.mem_append_left _ (List.mem_cons_of_mem _ (List.mem_cons_of_mem _ (List.mem_cons_of_mem _ (List.mem_cons_of_mem _ (List.mem_cons_of_mem _ (List.mem_cons_of_mem _ (List.mem_cons_of_mem _ (List.mem_cons_of_mem _ (List.mem_cons_of_mem _ (List.mem_cons_of_mem _ (List.mem_cons_of_mem _ (List.mem_cons_of_mem _ (List.mem_cons_of_mem _ (List.mem_cons_of_mem _ (List.mem_cons_of_mem _ (List.mem_cons_of_mem _ (List.mem_cons_of_mem _ (List.mem_cons_of_mem _ (List.mem_cons_of_mem _ (List.mem_cons_of_mem _ (List.mem_cons_self))))))))))))))))))))))
theorem u_2_21 : (Cond.methodLink RX9 9 yX4_init) ∈ uU := uT_1 _ (List.mem_append_left _ (List.mem_cons_of_mem _ (List.mem_cons_of_mem _ (List.mem_cons_of_mem _ (List.mem_cons_of_mem _ (List.mem_cons_of_mem _ (List.mem_cons_of_mem _ (List.mem_cons_of_mem _ (List.mem_cons_of_mem _ (List.mem_cons_of_mem _ (List.mem_cons_of_mem _ (List.mem_cons_of_mem _ (List.mem_cons_of_mem _ (List.mem_cons_of_mem _ (List.mem_cons_of_mem _ (List.mem_cons_of_mem _ (List.mem_cons_of_mem _ (List.mem_cons_of_mem _ (List.mem_cons_of_mem _ (List.mem_cons_of_mem _ (List.mem_cons_of_mem _ (List.mem_cons_of_mem _ (List.mem_cons_self)))))))))))))))))))))))
theorem u_2_22 : (Cond.instanceMethod yX4_init) ∈ uU := uT_1 _ (List.mem_append_left _ (List.mem_cons_of_mem _ (List.mem_cons_of_mem _ (List.mem_cons_of_mem _ (List.mem_cons_of_mem _ (List.mem_cons_of_mem _ (List.mem_cons_of_mem _ (List.mem_cons_of_mem _ (List.mem_cons_of_mem _ (List.mem_cons_of_mem _ (List.mem_cons_of_mem _ (List.mem_cons_of_mem _ (List.mem_cons_of_mem _ (List.mem_cons_of_mem _ (List.mem_cons_of_mem _ (List.mem_cons_of_mem _ (List.mem_cons_of_mem _ (List.mem_cons_of_mem _ (List.mem_cons_of_mem _ (List.mem_cons_of_mem _ (List.mem_cons_of_mem _ (List.mem_cons_of_mem _ (List.mem_cons_of_mem _ (List.mem_cons_self))))))))))))))))))))))))
theorem u_2_23 : (Cond.code yX4_init cX4_init 2 none) ∈ uU := uT_1 _ (List.mem_append_left _ (List.mem_cons_of_mem _ (List.mem_cons_of_mem _ (List.mem_cons_of_mem _ (List.mem_cons_of_mem _ (List.mem_cons_of_mem _ (List.mem_cons_of_mem _ (List.mem_cons_of_mem _ (List.mem_cons_of_mem _ (List.mem_cons_of_mem _ (List.mem_cons_of_mem _ (List.mem_cons_of_mem _ (List.mem_cons_of_mem _ (List.mem_cons_of_mem _ (List.mem_cons_of_mem _ (List.mem_cons_of_mem _ (List.mem_cons_of_mem _ (List.mem_cons_of_mem _ (List.mem_cons_of_mem _ (List.mem_cons_of_mem _ (List.mem_cons_of_mem _ (List.mem_cons_of_mem _ (List.mem_cons_of_mem _ (List.mem_cons_of_mem _ (List.mem_cons_self)))))))))))))))))))))))))
theorem u_3_0 : (Cond.methodLink RX4 3 objectInit) ∈ uU := uT_2 _ (List.mem_append_left _ (List.mem_cons_self))
theorem u_3_1 : (Cond.arrayClass .int) ∈ uU := uT_2 _ (List.mem_append_left _ (List.mem_cons_of_mem _ (List.mem_cons_self)))
theorem u_3_2 : (Cond.fieldLink RX4 11 "ChainLetters$Letters" "from" "[I") ∈ uU := uT_2 _ (List.mem_append_left _ (List.mem_cons_of_mem _ (List.mem_cons_of_mem _ (List.mem_cons_self))))
theorem u_3_3 : (Cond.fieldLink RX4 15 "ChainLetters$Letters" "to" "[I") ∈ uU := uT_2 _ (List.mem_append_left _ (List.mem_cons_of_mem _ (List.mem_cons_of_mem _ (List.mem_cons_of_mem _ (List.mem_cons_self)))))
theorem u_3_4 : (Cond.fieldLink RX4 18 "ChainLetters$Letters" "forms" "[I") ∈ uU := uT_2 _ (List.mem_append_left _ (List.mem_cons_of_mem _ (List.mem_cons_of_mem _ (List.mem_cons_of_mem _ (List.mem_cons_of_mem _ (List.mem_cons_self))))))
theorem u_3_5 : (Cond.fieldLink RX4 21 "ChainLetters$Letters" "costs" "[I") ∈ uU := uT_2 _ (List.mem_append_left _ (List.mem_cons_of_mem _ (List.mem_cons_of_mem _ (List.mem_cons_of_mem _ (List.mem_cons_of_mem _ (List.mem_cons_of_mem _ (List.mem_cons_self)))))))
theorem u_3_6 : (Cond.fieldLink RX4 24 "ChainLetters$Letters" "copied" "[I") ∈ uU := uT_2 _ (List.mem_append_left _ (List.mem_cons_of_mem _ (List.mem_cons_of_mem _ (List.mem_cons_of_mem _ (List.mem_cons_of_mem _ (List.mem_cons_of_mem _ (List.mem_cons_of_mem _ (List.mem_cons_self))))))))
theorem u_3_7 : (Cond.methodLink RX9 18 yX8_init) ∈ uU := uT_2 _ (List.mem_append_left _ (List.mem_cons_of_mem _ (List.mem_cons_of_mem _ (List.mem_cons_of_mem _ (List.mem_cons_of_mem _ (List.mem_cons_of_mem _ (List.mem_cons_of_mem _ (List.mem_cons_of_mem _ (List.mem_cons_self)))))))))
theorem u_3_8 : (Cond.instanceMethod yX8_init) ∈ uU := uT_2 _ (List.mem_append_left _ (List.mem_cons_of_mem _ (List.mem_cons_of_mem _ (List.mem_cons_of_mem _ (List.mem_cons_of_mem _ (List.mem_cons_of_mem _ (List.mem_cons_of_mem _ (List.mem_cons_of_mem _ (List.mem_cons_of_mem _ (List.mem_cons_self))))))))))
theorem u_3_9 : (Cond.code yX8_init cX8_init 2 none) ∈ uU := uT_2 _ (List.mem_append_left _ (List.mem_cons_of_mem _ (List.mem_cons_of_mem _ (List.mem_cons_of_mem _ (List.mem_cons_of_mem _ (List.mem_cons_of_mem _ (List.mem_cons_of_mem _ (List.mem_cons_of_mem _ (List.mem_cons_of_mem _ (List.mem_cons_of_mem _ (List.mem_cons_self)))))))))))
theorem u_3_10 : (Cond.methodLink RX8 5 objectInit) ∈ uU := uT_2 _ (List.mem_append_left _ (List.mem_cons_of_mem _ (List.mem_cons_of_mem _ (List.mem_cons_of_mem _ (List.mem_cons_of_mem _ (List.mem_cons_of_mem _ (List.mem_cons_of_mem _ (List.mem_cons_of_mem _ (List.mem_cons_of_mem _ (List.mem_cons_of_mem _ (List.mem_cons_of_mem _ (List.mem_cons_self))))))))))))
theorem u_3_11 : (Cond.fieldLink RX8 11 "ChainLetters$Trees" "letters" "LChainLetters$Letters;") ∈ uU := uT_2 _ (List.mem_append_left _ (List.mem_cons_of_mem _ (List.mem_cons_of_mem _ (List.mem_cons_of_mem _ (List.mem_cons_of_mem _ (List.mem_cons_of_mem _ (List.mem_cons_of_mem _ (List.mem_cons_of_mem _ (List.mem_cons_of_mem _ (List.mem_cons_of_mem _ (List.mem_cons_of_mem _ (List.mem_cons_of_mem _ (List.mem_cons_self)))))))))))))
theorem u_3_12 : (Cond.fieldLink RX8 17 "ChainLetters$Trees" "steps" "[I") ∈ uU := uT_2 _ (List.mem_append_left _ (List.mem_cons_of_mem _ (List.mem_cons_of_mem _ (List.mem_cons_of_mem _ (List.mem_cons_of_mem _ (List.mem_cons_of_mem _ (List.mem_cons_of_mem _ (List.mem_cons_of_mem _ (List.mem_cons_of_mem _ (List.mem_cons_of_mem _ (List.mem_cons_of_mem _ (List.mem_cons_of_mem _ (List.mem_cons_of_mem _ (List.mem_cons_self))))))))))))))
theorem u_3_13 : (Cond.fieldLink RX8 21 "ChainLetters$Trees" "pairs" "[I") ∈ uU := uT_2 _ (List.mem_append_left _ (List.mem_cons_of_mem _ (List.mem_cons_of_mem _ (List.mem_cons_of_mem _ (List.mem_cons_of_mem _ (List.mem_cons_of_mem _ (List.mem_cons_of_mem _ (List.mem_cons_of_mem _ (List.mem_cons_of_mem _ (List.mem_cons_of_mem _ (List.mem_cons_of_mem _ (List.mem_cons_of_mem _ (List.mem_cons_of_mem _ (List.mem_cons_of_mem _ (List.mem_cons_self)))))))))))))))
theorem u_3_14 : (Cond.fieldLink RX8 24 "ChainLetters$Trees" "built" "[I") ∈ uU := uT_2 _ (List.mem_append_left _ (List.mem_cons_of_mem _ (List.mem_cons_of_mem _ (List.mem_cons_of_mem _ (List.mem_cons_of_mem _ (List.mem_cons_of_mem _ (List.mem_cons_of_mem _ (List.mem_cons_of_mem _ (List.mem_cons_of_mem _ (List.mem_cons_of_mem _ (List.mem_cons_of_mem _ (List.mem_cons_of_mem _ (List.mem_cons_of_mem _ (List.mem_cons_of_mem _ (List.mem_cons_of_mem _ (List.mem_cons_self))))))))))))))))
theorem u_3_15 : (Cond.fieldLink RX8 27 "ChainLetters$Trees" "rest" "[I") ∈ uU := uT_2 _ (List.mem_append_left _ (List.mem_cons_of_mem _ (List.mem_cons_of_mem _ (List.mem_cons_of_mem _ (List.mem_cons_of_mem _ (List.mem_cons_of_mem _ (List.mem_cons_of_mem _ (List.mem_cons_of_mem _ (List.mem_cons_of_mem _ (List.mem_cons_of_mem _ (List.mem_cons_of_mem _ (List.mem_cons_of_mem _ (List.mem_cons_of_mem _ (List.mem_cons_of_mem _ (List.mem_cons_of_mem _ (List.mem_cons_of_mem _ (List.mem_cons_self)))))))))))))))))
theorem u_3_16 : (Cond.fieldLink RX8 30 "ChainLetters$Trees" "beside" "[I") ∈ uU := uT_2 _ (List.mem_append_left _ (List.mem_cons_of_mem _ (List.mem_cons_of_mem _ (List.mem_cons_of_mem _ (List.mem_cons_of_mem _ (List.mem_cons_of_mem _ (List.mem_cons_of_mem _ (List.mem_cons_of_mem _ (List.mem_cons_of_mem _ (List.mem_cons_of_mem _ (List.mem_cons_of_mem _ (List.mem_cons_of_mem _ (List.mem_cons_of_mem _ (List.mem_cons_of_mem _ (List.mem_cons_of_mem _ (List.mem_cons_of_mem _ (List.mem_cons_of_mem _ (List.mem_cons_self))))))))))))))))))
theorem u_3_17 : (Cond.fieldLink RX8 33 "ChainLetters$Trees" "held" "[I") ∈ uU := uT_2 _ (List.mem_append_left _ (List.mem_cons_of_mem _ (List.mem_cons_of_mem _ (List.mem_cons_of_mem _ (List.mem_cons_of_mem _ (List.mem_cons_of_mem _ (List.mem_cons_of_mem _ (List.mem_cons_of_mem _ (List.mem_cons_of_mem _ (List.mem_cons_of_mem _ (List.mem_cons_of_mem _ (List.mem_cons_of_mem _ (List.mem_cons_of_mem _ (List.mem_cons_of_mem _ (List.mem_cons_of_mem _ (List.mem_cons_of_mem _ (List.mem_cons_of_mem _ (List.mem_cons_of_mem _ (List.mem_cons_self)))))))))))))))))))
theorem u_3_18 : (Cond.fieldLink RX8 36 "ChainLetters$Trees" "heldPrice" "[I") ∈ uU := uT_2 _ (List.mem_append_left _ (List.mem_cons_of_mem _ (List.mem_cons_of_mem _ (List.mem_cons_of_mem _ (List.mem_cons_of_mem _ (List.mem_cons_of_mem _ (List.mem_cons_of_mem _ (List.mem_cons_of_mem _ (List.mem_cons_of_mem _ (List.mem_cons_of_mem _ (List.mem_cons_of_mem _ (List.mem_cons_of_mem _ (List.mem_cons_of_mem _ (List.mem_cons_of_mem _ (List.mem_cons_of_mem _ (List.mem_cons_of_mem _ (List.mem_cons_of_mem _ (List.mem_cons_of_mem _ (List.mem_cons_of_mem _ (List.mem_cons_self))))))))))))))))))))
theorem u_3_19 : (Cond.fieldLink RX8 39 "ChainLetters$Trees" "ways" "[I") ∈ uU := uT_2 _ (List.mem_append_left _ (List.mem_cons_of_mem _ (List.mem_cons_of_mem _ (List.mem_cons_of_mem _ (List.mem_cons_of_mem _ (List.mem_cons_of_mem _ (List.mem_cons_of_mem _ (List.mem_cons_of_mem _ (List.mem_cons_of_mem _ (List.mem_cons_of_mem _ (List.mem_cons_of_mem _ (List.mem_cons_of_mem _ (List.mem_cons_of_mem _ (List.mem_cons_of_mem _ (List.mem_cons_of_mem _ (List.mem_cons_of_mem _ (List.mem_cons_of_mem _ (List.mem_cons_of_mem _ (List.mem_cons_of_mem _ (List.mem_cons_of_mem _ (List.mem_cons_self)))))))))))))))))))))
theorem u_3_20 : (Cond.fieldLink RX8 42 "ChainLetters$Trees" "early" "[I") ∈ uU := uT_2 _ (List.mem_append_left _ (List.mem_cons_of_mem _ (List.mem_cons_of_mem _ (List.mem_cons_of_mem _ (List.mem_cons_of_mem _ (List.mem_cons_of_mem _ (List.mem_cons_of_mem _ (List.mem_cons_of_mem _ (List.mem_cons_of_mem _ (List.mem_cons_of_mem _ (List.mem_cons_of_mem _ (List.mem_cons_of_mem _ (List.mem_cons_of_mem _ (List.mem_cons_of_mem _ (List.mem_cons_of_mem _ (List.mem_cons_of_mem _ (List.mem_cons_of_mem _ (List.mem_cons_of_mem _ (List.mem_cons_of_mem _ (List.mem_cons_of_mem _ (List.mem_cons_of_mem _ (List.mem_cons_self))))))))))))))))))))))
theorem u_3_21 : (Cond.fieldLink RX8 45 "ChainLetters$Trees" "late" "[I") ∈ uU := uT_2 _ (List.mem_append_left _ (List.mem_cons_of_mem _ (List.mem_cons_of_mem _ (List.mem_cons_of_mem _ (List.mem_cons_of_mem _ (List.mem_cons_of_mem _ (List.mem_cons_of_mem _ (List.mem_cons_of_mem _ (List.mem_cons_of_mem _ (List.mem_cons_of_mem _ (List.mem_cons_of_mem _ (List.mem_cons_of_mem _ (List.mem_cons_of_mem _ (List.mem_cons_of_mem _ (List.mem_cons_of_mem _ (List.mem_cons_of_mem _ (List.mem_cons_of_mem _ (List.mem_cons_of_mem _ (List.mem_cons_of_mem _ (List.mem_cons_of_mem _ (List.mem_cons_of_mem _ (List.mem_cons_of_mem _ (List.mem_cons_self)))))))))))))))))))))))
theorem u_3_22 : (Cond.methodLink RX9 27 yX5_init) ∈ uU := uT_2 _ (List.mem_append_left _ (List.mem_cons_of_mem _ (List.mem_cons_of_mem _ (List.mem_cons_of_mem _ (List.mem_cons_of_mem _ (List.mem_cons_of_mem _ (List.mem_cons_of_mem _ (List.mem_cons_of_mem _ (List.mem_cons_of_mem _ (List.mem_cons_of_mem _ (List.mem_cons_of_mem _ (List.mem_cons_of_mem _ (List.mem_cons_of_mem _ (List.mem_cons_of_mem _ (List.mem_cons_of_mem _ (List.mem_cons_of_mem _ (List.mem_cons_of_mem _ (List.mem_cons_of_mem _ (List.mem_cons_of_mem _ (List.mem_cons_of_mem _ (List.mem_cons_of_mem _ (List.mem_cons_of_mem _ (List.mem_cons_of_mem _ (List.mem_cons_self))))))))))))))))))))))))
theorem u_3_23 : (Cond.instanceMethod yX5_init) ∈ uU := uT_2 _ (List.mem_append_left _ (List.mem_cons_of_mem _ (List.mem_cons_of_mem _ (List.mem_cons_of_mem _ (List.mem_cons_of_mem _ (List.mem_cons_of_mem _ (List.mem_cons_of_mem _ (List.mem_cons_of_mem _ (List.mem_cons_of_mem _ (List.mem_cons_of_mem _ (List.mem_cons_of_mem _ (List.mem_cons_of_mem _ (List.mem_cons_of_mem _ (List.mem_cons_of_mem _ (List.mem_cons_of_mem _ (List.mem_cons_of_mem _ (List.mem_cons_of_mem _ (List.mem_cons_of_mem _ (List.mem_cons_of_mem _ (List.mem_cons_of_mem _ (List.mem_cons_of_mem _ (List.mem_cons_of_mem _ (List.mem_cons_of_mem _ (List.mem_cons_of_mem _ (List.mem_cons_self)))))))))))))))))))))))))
theorem u_4_0 : (Cond.code yX5_init cX5_init 1 none) ∈ uU := uT_3 _ (List.mem_append_left _ (List.mem_cons_self))
theorem u_4_1 : (Cond.methodLink RX5 3 objectInit) ∈ uU := uT_3 _ (List.mem_append_left _ (List.mem_cons_of_mem _ (List.mem_cons_self)))
theorem u_4_2 : (Cond.fieldLink RX5 11 "ChainLetters$Names" "lengths" "[I") ∈ uU := uT_3 _ (List.mem_append_left _ (List.mem_cons_of_mem _ (List.mem_cons_of_mem _ (List.mem_cons_self))))
theorem u_4_3 : (Cond.fieldLink RX5 15 "ChainLetters$Names" "told" "[I") ∈ uU := uT_3 _ (List.mem_append_left _ (List.mem_cons_of_mem _ (List.mem_cons_of_mem _ (List.mem_cons_of_mem _ (List.mem_cons_self)))))
theorem u_4_4 : (Cond.fieldLink RX5 18 "ChainLetters$Names" "digits" "[I") ∈ uU := uT_3 _ (List.mem_append_left _ (List.mem_cons_of_mem _ (List.mem_cons_of_mem _ (List.mem_cons_of_mem _ (List.mem_cons_of_mem _ (List.mem_cons_self))))))
theorem u_4_5 : (Cond.fieldLink RX5 21 "ChainLetters$Names" "slipped" "[I") ∈ uU := uT_3 _ (List.mem_append_left _ (List.mem_cons_of_mem _ (List.mem_cons_of_mem _ (List.mem_cons_of_mem _ (List.mem_cons_of_mem _ (List.mem_cons_of_mem _ (List.mem_cons_self)))))))
theorem u_4_6 : (Cond.fieldLink RX5 24 "ChainLetters$Names" "weights" "[I") ∈ uU := uT_3 _ (List.mem_append_left _ (List.mem_cons_of_mem _ (List.mem_cons_of_mem _ (List.mem_cons_of_mem _ (List.mem_cons_of_mem _ (List.mem_cons_of_mem _ (List.mem_cons_of_mem _ (List.mem_cons_self))))))))
theorem u_4_7 : (Cond.fieldLink RX5 27 "ChainLetters$Names" "ahead" "[I") ∈ uU := uT_3 _ (List.mem_append_left _ (List.mem_cons_of_mem _ (List.mem_cons_of_mem _ (List.mem_cons_of_mem _ (List.mem_cons_of_mem _ (List.mem_cons_of_mem _ (List.mem_cons_of_mem _ (List.mem_cons_of_mem _ (List.mem_cons_self)))))))))
theorem u_4_8 : (Cond.fieldLink RX5 30 "ChainLetters$Names" "row" "[I") ∈ uU := uT_3 _ (List.mem_append_left _ (List.mem_cons_of_mem _ (List.mem_cons_of_mem _ (List.mem_cons_of_mem _ (List.mem_cons_of_mem _ (List.mem_cons_of_mem _ (List.mem_cons_of_mem _ (List.mem_cons_of_mem _ (List.mem_cons_of_mem _ (List.mem_cons_self))))))))))
theorem u_4_9 : (Cond.methodLink RX9 34 yX3_init) ∈ uU := uT_3 _ (List.mem_append_left _ (List.mem_cons_of_mem _ (List.mem_cons_of_mem _ (List.mem_cons_of_mem _ (List.mem_cons_of_mem _ (List.mem_cons_of_mem _ (List.mem_cons_of_mem _ (List.mem_cons_of_mem _ (List.mem_cons_of_mem _ (List.mem_cons_of_mem _ (List.mem_cons_self)))))))))))
theorem u_4_10 : (Cond.instanceMethod yX3_init) ∈ uU := uT_3 _ (List.mem_append_left _ (List.mem_cons_of_mem _ (List.mem_cons_of_mem _ (List.mem_cons_of_mem _ (List.mem_cons_of_mem _ (List.mem_cons_of_mem _ (List.mem_cons_of_mem _ (List.mem_cons_of_mem _ (List.mem_cons_of_mem _ (List.mem_cons_of_mem _ (List.mem_cons_of_mem _ (List.mem_cons_self))))))))))))
theorem u_4_11 : (Cond.code yX3_init cX3_init 1 none) ∈ uU := uT_3 _ (List.mem_append_left _ (List.mem_cons_of_mem _ (List.mem_cons_of_mem _ (List.mem_cons_of_mem _ (List.mem_cons_of_mem _ (List.mem_cons_of_mem _ (List.mem_cons_of_mem _ (List.mem_cons_of_mem _ (List.mem_cons_of_mem _ (List.mem_cons_of_mem _ (List.mem_cons_of_mem _ (List.mem_cons_of_mem _ (List.mem_cons_self)))))))))))))
theorem u_4_12 : (Cond.methodLink RX3 1 objectInit) ∈ uU := uT_3 _ (List.mem_append_left _ (List.mem_cons_of_mem _ (List.mem_cons_of_mem _ (List.mem_cons_of_mem _ (List.mem_cons_of_mem _ (List.mem_cons_of_mem _ (List.mem_cons_of_mem _ (List.mem_cons_of_mem _ (List.mem_cons_of_mem _ (List.mem_cons_of_mem _ (List.mem_cons_of_mem _ (List.mem_cons_of_mem _ (List.mem_cons_of_mem _ (List.mem_cons_self))))))))))))))
theorem u_4_13 : (Cond.fieldLink RX3 9 "ChainLetters$Habits" "weights" "[I") ∈ uU := uT_3 _ (List.mem_append_left _ (List.mem_cons_of_mem _ (List.mem_cons_of_mem _ (List.mem_cons_of_mem _ (List.mem_cons_of_mem _ (List.mem_cons_of_mem _ (List.mem_cons_of_mem _ (List.mem_cons_of_mem _ (List.mem_cons_of_mem _ (List.mem_cons_of_mem _ (List.mem_cons_of_mem _ (List.mem_cons_of_mem _ (List.mem_cons_of_mem _ (List.mem_cons_of_mem _ (List.mem_cons_self)))))))))))))))
theorem u_4_14 : (Cond.classLink RX3 13 RX6) ∈ uU := uT_3 _ (List.mem_append_left _ (List.mem_cons_of_mem _ (List.mem_cons_of_mem _ (List.mem_cons_of_mem _ (List.mem_cons_of_mem _ (List.mem_cons_of_mem _ (List.mem_cons_of_mem _ (List.mem_cons_of_mem _ (List.mem_cons_of_mem _ (List.mem_cons_of_mem _ (List.mem_cons_of_mem _ (List.mem_cons_of_mem _ (List.mem_cons_of_mem _ (List.mem_cons_of_mem _ (List.mem_cons_of_mem _ (List.mem_cons_self))))))))))))))))
theorem u_4_15 : (Cond.instantiable RX6 2) ∈ uU := uT_3 _ (List.mem_append_left _ (List.mem_cons_of_mem _ (List.mem_cons_of_mem _ (List.mem_cons_of_mem _ (List.mem_cons_of_mem _ (List.mem_cons_of_mem _ (List.mem_cons_of_mem _ (List.mem_cons_of_mem _ (List.mem_cons_of_mem _ (List.mem_cons_of_mem _ (List.mem_cons_of_mem _ (List.mem_cons_of_mem _ (List.mem_cons_of_mem _ (List.mem_cons_of_mem _ (List.mem_cons_of_mem _ (List.mem_cons_of_mem _ (List.mem_cons_self)))))))))))))))))
theorem u_4_16 : (Cond.initialized RX6) ∈ uU := uT_3 _ (List.mem_append_left _ (List.mem_cons_of_mem _ (List.mem_cons_of_mem _ (List.mem_cons_of_mem _ (List.mem_cons_of_mem _ (List.mem_cons_of_mem _ (List.mem_cons_of_mem _ (List.mem_cons_of_mem _ (List.mem_cons_of_mem _ (List.mem_cons_of_mem _ (List.mem_cons_of_mem _ (List.mem_cons_of_mem _ (List.mem_cons_of_mem _ (List.mem_cons_of_mem _ (List.mem_cons_of_mem _ (List.mem_cons_of_mem _ (List.mem_cons_of_mem _ (List.mem_cons_self))))))))))))))))))
theorem u_4_17 : (Cond.fieldLink RX3 16 "ChainLetters$Habits" "above" "LChainLetters$Natural;") ∈ uU := uT_3 _ (List.mem_append_left _ (List.mem_cons_of_mem _ (List.mem_cons_of_mem _ (List.mem_cons_of_mem _ (List.mem_cons_of_mem _ (List.mem_cons_of_mem _ (List.mem_cons_of_mem _ (List.mem_cons_of_mem _ (List.mem_cons_of_mem _ (List.mem_cons_of_mem _ (List.mem_cons_of_mem _ (List.mem_cons_of_mem _ (List.mem_cons_of_mem _ (List.mem_cons_of_mem _ (List.mem_cons_of_mem _ (List.mem_cons_of_mem _ (List.mem_cons_of_mem _ (List.mem_cons_of_mem _ (List.mem_cons_self)))))))))))))))))))
theorem u_4_18 : (Cond.fieldLink RX3 20 "ChainLetters$Habits" "below" "LChainLetters$Natural;") ∈ uU := uT_3 _ (List.mem_append_left _ (List.mem_cons_of_mem _ (List.mem_cons_of_mem _ (List.mem_cons_of_mem _ (List.mem_cons_of_mem _ (List.mem_cons_of_mem _ (List.mem_cons_of_mem _ (List.mem_cons_of_mem _ (List.mem_cons_of_mem _ (List.mem_cons_of_mem _ (List.mem_cons_of_mem _ (List.mem_cons_of_mem _ (List.mem_cons_of_mem _ (List.mem_cons_of_mem _ (List.mem_cons_of_mem _ (List.mem_cons_of_mem _ (List.mem_cons_of_mem _ (List.mem_cons_of_mem _ (List.mem_cons_of_mem _ (List.mem_cons_self))))))))))))))))))))
theorem u_4_19 : (Cond.fieldLink RX3 23 "ChainLetters$Habits" "sum" "LChainLetters$Natural;") ∈ uU := uT_3 _ (List.mem_append_left _ (List.mem_cons_of_mem _ (List.mem_cons_of_mem _ (List.mem_cons_of_mem _ (List.mem_cons_of_mem _ (List.mem_cons_of_mem _ (List.mem_cons_of_mem _ (List.mem_cons_of_mem _ (List.mem_cons_of_mem _ (List.mem_cons_of_mem _ (List.mem_cons_of_mem _ (List.mem_cons_of_mem _ (List.mem_cons_of_mem _ (List.mem_cons_of_mem _ (List.mem_cons_of_mem _ (List.mem_cons_of_mem _ (List.mem_cons_of_mem _ (List.mem_cons_of_mem _ (List.mem_cons_of_mem _ (List.mem_cons_of_mem _ (List.mem_cons_self)))))))))))))))))))))
theorem u_4_20 : (Cond.fieldLink RX3 26 "ChainLetters$Habits" "power" "LChainLetters$Natural;") ∈ uU := uT_3 _ (List.mem_append_left _ (List.mem_cons_of_mem _ (List.mem_cons_of_mem _ (List.mem_cons_of_mem _ (List.mem_cons_of_mem _ (List.mem_cons_of_mem _ (List.mem_cons_of_mem _ (List.mem_cons_of_mem _ (List.mem_cons_of_mem _ (List.mem_cons_of_mem _ (List.mem_cons_of_mem _ (List.mem_cons_of_mem _ (List.mem_cons_of_mem _ (List.mem_cons_of_mem _ (List.mem_cons_of_mem _ (List.mem_cons_of_mem _ (List.mem_cons_of_mem _ (List.mem_cons_of_mem _ (List.mem_cons_of_mem _ (List.mem_cons_of_mem _ (List.mem_cons_of_mem _ (List.mem_cons_self))))))))))))))))))))))
theorem u_4_21 : (Cond.fieldLink RX3 29 "ChainLetters$Habits" "product" "LChainLetters$Natural;") ∈ uU := uT_3 _ (List.mem_append_left _ (List.mem_cons_of_mem _ (List.mem_cons_of_mem _ (List.mem_cons_of_mem _ (List.mem_cons_of_mem _ (List.mem_cons_of_mem _ (List.mem_cons_of_mem _ (List.mem_cons_of_mem _ (List.mem_cons_of_mem _ (List.mem_cons_of_mem _ (List.mem_cons_of_mem _ (List.mem_cons_of_mem _ (List.mem_cons_of_mem _ (List.mem_cons_of_mem _ (List.mem_cons_of_mem _ (List.mem_cons_of_mem _ (List.mem_cons_of_mem _ (List.mem_cons_of_mem _ (List.mem_cons_of_mem _ (List.mem_cons_of_mem _ (List.mem_cons_of_mem _ (List.mem_cons_of_mem _ (List.mem_cons_self)))))))))))))))))))))))
theorem u_4_22 : (Cond.methodLink RX3 15 yX6_init) ∈ uU := uT_3 _ (List.mem_append_left _ (List.mem_cons_of_mem _ (List.mem_cons_of_mem _ (List.mem_cons_of_mem _ (List.mem_cons_of_mem _ (List.mem_cons_of_mem _ (List.mem_cons_of_mem _ (List.mem_cons_of_mem _ (List.mem_cons_of_mem _ (List.mem_cons_of_mem _ (List.mem_cons_of_mem _ (List.mem_cons_of_mem _ (List.mem_cons_of_mem _ (List.mem_cons_of_mem _ (List.mem_cons_of_mem _ (List.mem_cons_of_mem _ (List.mem_cons_of_mem _ (List.mem_cons_of_mem _ (List.mem_cons_of_mem _ (List.mem_cons_of_mem _ (List.mem_cons_of_mem _ (List.mem_cons_of_mem _ (List.mem_cons_of_mem _ (List.mem_cons_self))))))))))))))))))))))))
theorem u_4_23 : (Cond.instanceMethod yX6_init) ∈ uU := uT_3 _ (List.mem_append_left _ (List.mem_cons_of_mem _ (List.mem_cons_of_mem _ (List.mem_cons_of_mem _ (List.mem_cons_of_mem _ (List.mem_cons_of_mem _ (List.mem_cons_of_mem _ (List.mem_cons_of_mem _ (List.mem_cons_of_mem _ (List.mem_cons_of_mem _ (List.mem_cons_of_mem _ (List.mem_cons_of_mem _ (List.mem_cons_of_mem _ (List.mem_cons_of_mem _ (List.mem_cons_of_mem _ (List.mem_cons_of_mem _ (List.mem_cons_of_mem _ (List.mem_cons_of_mem _ (List.mem_cons_of_mem _ (List.mem_cons_of_mem _ (List.mem_cons_of_mem _ (List.mem_cons_of_mem _ (List.mem_cons_of_mem _ (List.mem_cons_of_mem _ (List.mem_cons_self)))))))))))))))))))))))))
theorem u_5_0 : (Cond.code yX6_init cX6_init 1 none) ∈ uU := uT_4 _ (List.mem_append_left _ (List.mem_cons_self))
theorem u_5_1 : (Cond.methodLink RX6 5 objectInit) ∈ uU := uT_4 _ (List.mem_append_left _ (List.mem_cons_of_mem _ (List.mem_cons_self)))
theorem u_5_2 : (Cond.fieldLink RX6 11 "ChainLetters$Natural" "digits" "[I") ∈ uU := uT_4 _ (List.mem_append_left _ (List.mem_cons_of_mem _ (List.mem_cons_of_mem _ (List.mem_cons_self))))
theorem u_5_3 : (Cond.methodLink RX9 41 yX0_init) ∈ uU := uT_4 _ (List.mem_append_left _ (List.mem_cons_of_mem _ (List.mem_cons_of_mem _ (List.mem_cons_of_mem _ (List.mem_cons_self)))))
theorem u_5_4 : (Cond.instanceMethod yX0_init) ∈ uU := uT_4 _ (List.mem_append_left _ (List.mem_cons_of_mem _ (List.mem_cons_of_mem _ (List.mem_cons_of_mem _ (List.mem_cons_of_mem _ (List.mem_cons_self))))))
theorem u_5_5 : (Cond.code yX0_init cX0_init 2 none) ∈ uU := uT_4 _ (List.mem_append_left _ (List.mem_cons_of_mem _ (List.mem_cons_of_mem _ (List.mem_cons_of_mem _ (List.mem_cons_of_mem _ (List.mem_cons_of_mem _ (List.mem_cons_self)))))))
theorem u_5_6 : (Cond.methodLink RX0 1 objectInit) ∈ uU := uT_4 _ (List.mem_append_left _ (List.mem_cons_of_mem _ (List.mem_cons_of_mem _ (List.mem_cons_of_mem _ (List.mem_cons_of_mem _ (List.mem_cons_of_mem _ (List.mem_cons_of_mem _ (List.mem_cons_self))))))))
theorem u_5_7 : (Cond.fieldLink RX0 9 "ChainLetters$Askings" "doing" "[I") ∈ uU := uT_4 _ (List.mem_append_left _ (List.mem_cons_of_mem _ (List.mem_cons_of_mem _ (List.mem_cons_of_mem _ (List.mem_cons_of_mem _ (List.mem_cons_of_mem _ (List.mem_cons_of_mem _ (List.mem_cons_of_mem _ (List.mem_cons_self)))))))))
theorem u_5_8 : (Cond.fieldLink RX0 13 "ChainLetters$Askings" "asked" "[I") ∈ uU := uT_4 _ (List.mem_append_left _ (List.mem_cons_of_mem _ (List.mem_cons_of_mem _ (List.mem_cons_of_mem _ (List.mem_cons_of_mem _ (List.mem_cons_of_mem _ (List.mem_cons_of_mem _ (List.mem_cons_of_mem _ (List.mem_cons_of_mem _ (List.mem_cons_self))))))))))
theorem u_5_9 : (Cond.methodLink RX9 48 yX7_init) ∈ uU := uT_4 _ (List.mem_append_left _ (List.mem_cons_of_mem _ (List.mem_cons_of_mem _ (List.mem_cons_of_mem _ (List.mem_cons_of_mem _ (List.mem_cons_of_mem _ (List.mem_cons_of_mem _ (List.mem_cons_of_mem _ (List.mem_cons_of_mem _ (List.mem_cons_of_mem _ (List.mem_cons_self)))))))))))
theorem u_5_10 : (Cond.instanceMethod yX7_init) ∈ uU := uT_4 _ (List.mem_append_left _ (List.mem_cons_of_mem _ (List.mem_cons_of_mem _ (List.mem_cons_of_mem _ (List.mem_cons_of_mem _ (List.mem_cons_of_mem _ (List.mem_cons_of_mem _ (List.mem_cons_of_mem _ (List.mem_cons_of_mem _ (List.mem_cons_of_mem _ (List.mem_cons_of_mem _ (List.mem_cons_self))))))))))))
theorem u_5_11 : (Cond.code yX7_init cX7_init 2 none) ∈ uU := uT_4 _ (List.mem_append_left _ (List.mem_cons_of_mem _ (List.mem_cons_of_mem _ (List.mem_cons_of_mem _ (List.mem_cons_of_mem _ (List.mem_cons_of_mem _ (List.mem_cons_of_mem _ (List.mem_cons_of_mem _ (List.mem_cons_of_mem _ (List.mem_cons_of_mem _ (List.mem_cons_of_mem _ (List.mem_cons_of_mem _ (List.mem_cons_self)))))))))))))
theorem u_5_12 : (Cond.methodLink RX7 3 objectInit) ∈ uU := uT_4 _ (List.mem_append_left _ (List.mem_cons_of_mem _ (List.mem_cons_of_mem _ (List.mem_cons_of_mem _ (List.mem_cons_of_mem _ (List.mem_cons_of_mem _ (List.mem_cons_of_mem _ (List.mem_cons_of_mem _ (List.mem_cons_of_mem _ (List.mem_cons_of_mem _ (List.mem_cons_of_mem _ (List.mem_cons_of_mem _ (List.mem_cons_of_mem _ (List.mem_cons_self))))))))))))))
theorem u_5_13 : (Cond.fieldLink RX7 9 "ChainLetters$Net" "others" "[I") ∈ uU := uT_4 _ (List.mem_append_left _ (List.mem_cons_of_mem _ (List.mem_cons_of_mem _ (List.mem_cons_of_mem _ (List.mem_cons_of_mem _ (List.mem_cons_of_mem _ (List.mem_cons_of_mem _ (List.mem_cons_of_mem _ (List.mem_cons_of_mem _ (List.mem_cons_of_mem _ (List.mem_cons_of_mem _ (List.mem_cons_of_mem _ (List.mem_cons_of_mem _ (List.mem_cons_of_mem _ (List.mem_cons_self)))))))))))))))
theorem u_5_14 : (Cond.fieldLink RX7 13 "ChainLetters$Net" "copies" "[I") ∈ uU := uT_4 _ (List.mem_append_left _ (List.mem_cons_of_mem _ (List.mem_cons_of_mem _ (List.mem_cons_of_mem _ (List.mem_cons_of_mem _ (List.mem_cons_of_mem _ (List.mem_cons_of_mem _ (List.mem_cons_of_mem _ (List.mem_cons_of_mem _ (List.mem_cons_of_mem _ (List.mem_cons_of_mem _ (List.mem_cons_of_mem _ (List.mem_cons_of_mem _ (List.mem_cons_of_mem _ (List.mem_cons_of_mem _ (List.mem_cons_self))))))))))))))))
theorem u_5_15 : (Cond.fieldLink RX7 16 "ChainLetters$Net" "odds" "[I") ∈ uU := uT_4 _ (List.mem_append_left _ (List.mem_cons_of_mem _ (List.mem_cons_of_mem _ (List.mem_cons_of_mem _ (List.mem_cons_of_mem _ (List.mem_cons_of_mem _ (List.mem_cons_of_mem _ (List.mem_cons_of_mem _ (List.mem_cons_of_mem _ (List.mem_cons_of_mem _ (List.mem_cons_of_mem _ (List.mem_cons_of_mem _ (List.mem_cons_of_mem _ (List.mem_cons_of_mem _ (List.mem_cons_of_mem _ (List.mem_cons_of_mem _ (List.mem_cons_self)))))))))))))))))
theorem u_5_16 : (Cond.fieldLink RX7 19 "ChainLetters$Net" "often" "[I") ∈ uU := uT_4 _ (List.mem_append_left _ (List.mem_cons_of_mem _ (List.mem_cons_of_mem _ (List.mem_cons_of_mem _ (List.mem_cons_of_mem _ (List.mem_cons_of_mem _ (List.mem_cons_of_mem _ (List.mem_cons_of_mem _ (List.mem_cons_of_mem _ (List.mem_cons_of_mem _ (List.mem_cons_of_mem _ (List.mem_cons_of_mem _ (List.mem_cons_of_mem _ (List.mem_cons_of_mem _ (List.mem_cons_of_mem _ (List.mem_cons_of_mem _ (List.mem_cons_of_mem _ (List.mem_cons_self))))))))))))))))))
theorem u_5_17 : (Cond.fieldLink RX7 22 "ChainLetters$Net" "days" "[I") ∈ uU := uT_4 _ (List.mem_append_left _ (List.mem_cons_of_mem _ (List.mem_cons_of_mem _ (List.mem_cons_of_mem _ (List.mem_cons_of_mem _ (List.mem_cons_of_mem _ (List.mem_cons_of_mem _ (List.mem_cons_of_mem _ (List.mem_cons_of_mem _ (List.mem_cons_of_mem _ (List.mem_cons_of_mem _ (List.mem_cons_of_mem _ (List.mem_cons_of_mem _ (List.mem_cons_of_mem _ (List.mem_cons_of_mem _ (List.mem_cons_of_mem _ (List.mem_cons_of_mem _ (List.mem_cons_of_mem _ (List.mem_cons_self)))))))))))))))))))
theorem u_5_18 : (Cond.fieldLink RX7 25 "ChainLetters$Net" "times" "[I") ∈ uU := uT_4 _ (List.mem_append_left _ (List.mem_cons_of_mem _ (List.mem_cons_of_mem _ (List.mem_cons_of_mem _ (List.mem_cons_of_mem _ (List.mem_cons_of_mem _ (List.mem_cons_of_mem _ (List.mem_cons_of_mem _ (List.mem_cons_of_mem _ (List.mem_cons_of_mem _ (List.mem_cons_of_mem _ (List.mem_cons_of_mem _ (List.mem_cons_of_mem _ (List.mem_cons_of_mem _ (List.mem_cons_of_mem _ (List.mem_cons_of_mem _ (List.mem_cons_of_mem _ (List.mem_cons_of_mem _ (List.mem_cons_of_mem _ (List.mem_cons_self))))))))))))))))))))
theorem u_5_19 : (Cond.fieldLink RX7 28 "ChainLetters$Net" "next" "[I") ∈ uU := uT_4 _ (List.mem_append_left _ (List.mem_cons_of_mem _ (List.mem_cons_of_mem _ (List.mem_cons_of_mem _ (List.mem_cons_of_mem _ (List.mem_cons_of_mem _ (List.mem_cons_of_mem _ (List.mem_cons_of_mem _ (List.mem_cons_of_mem _ (List.mem_cons_of_mem _ (List.mem_cons_of_mem _ (List.mem_cons_of_mem _ (List.mem_cons_of_mem _ (List.mem_cons_of_mem _ (List.mem_cons_of_mem _ (List.mem_cons_of_mem _ (List.mem_cons_of_mem _ (List.mem_cons_of_mem _ (List.mem_cons_of_mem _ (List.mem_cons_of_mem _ (List.mem_cons_self)))))))))))))))))))))
theorem u_5_20 : (Cond.methodLink RX9 55 yX1_init) ∈ uU := uT_4 _ (List.mem_append_left _ (List.mem_cons_of_mem _ (List.mem_cons_of_mem _ (List.mem_cons_of_mem _ (List.mem_cons_of_mem _ (List.mem_cons_of_mem _ (List.mem_cons_of_mem _ (List.mem_cons_of_mem _ (List.mem_cons_of_mem _ (List.mem_cons_of_mem _ (List.mem_cons_of_mem _ (List.mem_cons_of_mem _ (List.mem_cons_of_mem _ (List.mem_cons_of_mem _ (List.mem_cons_of_mem _ (List.mem_cons_of_mem _ (List.mem_cons_of_mem _ (List.mem_cons_of_mem _ (List.mem_cons_of_mem _ (List.mem_cons_of_mem _ (List.mem_cons_of_mem _ (List.mem_cons_self))))))))))))))))))))))
theorem u_5_21 : (Cond.instanceMethod yX1_init) ∈ uU := uT_4 _ (List.mem_append_left _ (List.mem_cons_of_mem _ (List.mem_cons_of_mem _ (List.mem_cons_of_mem _ (List.mem_cons_of_mem _ (List.mem_cons_of_mem _ (List.mem_cons_of_mem _ (List.mem_cons_of_mem _ (List.mem_cons_of_mem _ (List.mem_cons_of_mem _ (List.mem_cons_of_mem _ (List.mem_cons_of_mem _ (List.mem_cons_of_mem _ (List.mem_cons_of_mem _ (List.mem_cons_of_mem _ (List.mem_cons_of_mem _ (List.mem_cons_of_mem _ (List.mem_cons_of_mem _ (List.mem_cons_of_mem _ (List.mem_cons_of_mem _ (List.mem_cons_of_mem _ (List.mem_cons_of_mem _ (List.mem_cons_self)))))))))))))))))))))))
theorem u_5_22 : (Cond.code yX1_init cX1_init 1 none) ∈ uU := uT_4 _ (List.mem_append_left _ (List.mem_cons_of_mem _ (List.mem_cons_of_mem _ (List.mem_cons_of_mem _ (List.mem_cons_of_mem _ (List.mem_cons_of_mem _ (List.mem_cons_of_mem _ (List.mem_cons_of_mem _ (List.mem_cons_of_mem _ (List.mem_cons_of_mem _ (List.mem_cons_of_mem _ (List.mem_cons_of_mem _ (List.mem_cons_of_mem _ (List.mem_cons_of_mem _ (List.mem_cons_of_mem _ (List.mem_cons_of_mem _ (List.mem_cons_of_mem _ (List.mem_cons_of_mem _ (List.mem_cons_of_mem _ (List.mem_cons_of_mem _ (List.mem_cons_of_mem _ (List.mem_cons_of_mem _ (List.mem_cons_of_mem _ (List.mem_cons_self))))))))))))))))))))))))
theorem u_5_23 : (Cond.methodLink RX1 3 objectInit) ∈ uU := uT_4 _ (List.mem_append_left _ (List.mem_cons_of_mem _ (List.mem_cons_of_mem _ (List.mem_cons_of_mem _ (List.mem_cons_of_mem _ (List.mem_cons_of_mem _ (List.mem_cons_of_mem _ (List.mem_cons_of_mem _ (List.mem_cons_of_mem _ (List.mem_cons_of_mem _ (List.mem_cons_of_mem _ (List.mem_cons_of_mem _ (List.mem_cons_of_mem _ (List.mem_cons_of_mem _ (List.mem_cons_of_mem _ (List.mem_cons_of_mem _ (List.mem_cons_of_mem _ (List.mem_cons_of_mem _ (List.mem_cons_of_mem _ (List.mem_cons_of_mem _ (List.mem_cons_of_mem _ (List.mem_cons_of_mem _ (List.mem_cons_of_mem _ (List.mem_cons_of_mem _ (List.mem_cons_self)))))))))))))))))))))))))
theorem u_6_0 : (Cond.fieldLink RX1 11 "ChainLetters$Box" "kinds" "[I") ∈ uU := uT_5 _ (List.mem_append_left _ (List.mem_cons_self))
theorem u_6_1 : (Cond.fieldLink RX1 15 "ChainLetters$Box" "times" "[I") ∈ uU := uT_5 _ (List.mem_append_left _ (List.mem_cons_of_mem _ (List.mem_cons_self)))
theorem u_6_2 : (Cond.methodLink RX9 62 yX2_init) ∈ uU := uT_5 _ (List.mem_append_left _ (List.mem_cons_of_mem _ (List.mem_cons_of_mem _ (List.mem_cons_self))))
theorem u_6_3 : (Cond.instanceMethod yX2_init) ∈ uU := uT_5 _ (List.mem_append_left _ (List.mem_cons_of_mem _ (List.mem_cons_of_mem _ (List.mem_cons_of_mem _ (List.mem_cons_self)))))
theorem u_6_4 : (Cond.code yX2_init cX2_init 1 none) ∈ uU := uT_5 _ (List.mem_append_left _ (List.mem_cons_of_mem _ (List.mem_cons_of_mem _ (List.mem_cons_of_mem _ (List.mem_cons_of_mem _ (List.mem_cons_self))))))
theorem u_6_5 : (Cond.methodLink RX2 1 objectInit) ∈ uU := uT_5 _ (List.mem_append_left _ (List.mem_cons_of_mem _ (List.mem_cons_of_mem _ (List.mem_cons_of_mem _ (List.mem_cons_of_mem _ (List.mem_cons_of_mem _ (List.mem_cons_self)))))))
theorem u_6_6 : (Cond.classLink RX2 7 RX6) ∈ uU := uT_5 _ (List.mem_append_left _ (List.mem_cons_of_mem _ (List.mem_cons_of_mem _ (List.mem_cons_of_mem _ (List.mem_cons_of_mem _ (List.mem_cons_of_mem _ (List.mem_cons_of_mem _ (List.mem_cons_self))))))))
theorem u_6_7 : (Cond.fieldLink RX2 10 "ChainLetters$Fraction" "above" "LChainLetters$Natural;") ∈ uU := uT_5 _ (List.mem_append_left _ (List.mem_cons_of_mem _ (List.mem_cons_of_mem _ (List.mem_cons_of_mem _ (List.mem_cons_of_mem _ (List.mem_cons_of_mem _ (List.mem_cons_of_mem _ (List.mem_cons_of_mem _ (List.mem_cons_self)))))))))
theorem u_6_8 : (Cond.fieldLink RX2 16 "ChainLetters$Fraction" "below" "LChainLetters$Natural;") ∈ uU := uT_5 _ (List.mem_append_left _ (List.mem_cons_of_mem _ (List.mem_cons_of_mem _ (List.mem_cons_of_mem _ (List.mem_cons_of_mem _ (List.mem_cons_of_mem _ (List.mem_cons_of_mem _ (List.mem_cons_of_mem _ (List.mem_cons_of_mem _ (List.mem_cons_self))))))))))
theorem u_6_9 : (Cond.methodLink RX2 9 yX6_init) ∈ uU := uT_5 _ (List.mem_append_left _ (List.mem_cons_of_mem _ (List.mem_cons_of_mem _ (List.mem_cons_of_mem _ (List.mem_cons_of_mem _ (List.mem_cons_of_mem _ (List.mem_cons_of_mem _ (List.mem_cons_of_mem _ (List.mem_cons_of_mem _ (List.mem_cons_of_mem _ (List.mem_cons_self)))))))))))
theorem u_6_10 : (Cond.methodLink RX2 19 yX6_become) ∈ uU := uT_5 _ (List.mem_append_left _ (List.mem_cons_of_mem _ (List.mem_cons_of_mem _ (List.mem_cons_of_mem _ (List.mem_cons_of_mem _ (List.mem_cons_of_mem _ (List.mem_cons_of_mem _ (List.mem_cons_of_mem _ (List.mem_cons_of_mem _ (List.mem_cons_of_mem _ (List.mem_cons_of_mem _ (List.mem_cons_self))))))))))))
theorem u_6_11 : (Cond.instanceMethod yX6_become) ∈ uU := uT_5 _ (List.mem_append_left _ (List.mem_cons_of_mem _ (List.mem_cons_of_mem _ (List.mem_cons_of_mem _ (List.mem_cons_of_mem _ (List.mem_cons_of_mem _ (List.mem_cons_of_mem _ (List.mem_cons_of_mem _ (List.mem_cons_of_mem _ (List.mem_cons_of_mem _ (List.mem_cons_of_mem _ (List.mem_cons_of_mem _ (List.mem_cons_self)))))))))))))
theorem u_6_12 : (Cond.selects RX6 yX6_become yX6_become) ∈ uU := uT_5 _ (List.mem_append_left _ (List.mem_cons_of_mem _ (List.mem_cons_of_mem _ (List.mem_cons_of_mem _ (List.mem_cons_of_mem _ (List.mem_cons_of_mem _ (List.mem_cons_of_mem _ (List.mem_cons_of_mem _ (List.mem_cons_of_mem _ (List.mem_cons_of_mem _ (List.mem_cons_of_mem _ (List.mem_cons_of_mem _ (List.mem_cons_of_mem _ (List.mem_cons_self))))))))))))))
theorem u_6_13 : (Cond.code yX6_become cX6_become 6 none) ∈ uU := uT_5 _ (List.mem_append_left _ (List.mem_cons_of_mem _ (List.mem_cons_of_mem _ (List.mem_cons_of_mem _ (List.mem_cons_of_mem _ (List.mem_cons_of_mem _ (List.mem_cons_of_mem _ (List.mem_cons_of_mem _ (List.mem_cons_of_mem _ (List.mem_cons_of_mem _ (List.mem_cons_of_mem _ (List.mem_cons_of_mem _ (List.mem_cons_of_mem _ (List.mem_cons_of_mem _ (List.mem_cons_self)))))))))))))))
theorem u_6_14 : (Cond.constantLong RX6 19 (1073741823)) ∈ uU := uT_5 _ (List.mem_append_left _ (List.mem_cons_of_mem _ (List.mem_cons_of_mem _ (List.mem_cons_of_mem _ (List.mem_cons_of_mem _ (List.mem_cons_of_mem _ (List.mem_cons_of_mem _ (List.mem_cons_of_mem _ (List.mem_cons_of_mem _ (List.mem_cons_of_mem _ (List.mem_cons_of_mem _ (List.mem_cons_of_mem _ (List.mem_cons_of_mem _ (List.mem_cons_of_mem _ (List.mem_cons_of_mem _ (List.mem_cons_self))))))))))))))))
theorem u_6_15 : (Cond.methodLink RX6 21 yX6_trim) ∈ uU := uT_5 _ (List.mem_append_left _ (List.mem_cons_of_mem _ (List.mem_cons_of_mem _ (List.mem_cons_of_mem _ (List.mem_cons_of_mem _ (List.mem_cons_of_mem _ (List.mem_cons_of_mem _ (List.mem_cons_of_mem _ (List.mem_cons_of_mem _ (List.mem_cons_of_mem _ (List.mem_cons_of_mem _ (List.mem_cons_of_mem _ (List.mem_cons_of_mem _ (List.mem_cons_of_mem _ (List.mem_cons_of_mem _ (List.mem_cons_of_mem _ (List.mem_cons_self)))))))))))))))))
theorem u_6_16 : (Cond.instanceMethod yX6_trim) ∈ uU := uT_5 _ (List.mem_append_left _ (List.mem_cons_of_mem _ (List.mem_cons_of_mem _ (List.mem_cons_of_mem _ (List.mem_cons_of_mem _ (List.mem_cons_of_mem _ (List.mem_cons_of_mem _ (List.mem_cons_of_mem _ (List.mem_cons_of_mem _ (List.mem_cons_of_mem _ (List.mem_cons_of_mem _ (List.mem_cons_of_mem _ (List.mem_cons_of_mem _ (List.mem_cons_of_mem _ (List.mem_cons_of_mem _ (List.mem_cons_of_mem _ (List.mem_cons_of_mem _ (List.mem_cons_self))))))))))))))))))
theorem u_6_17 : (Cond.selects RX6 yX6_trim yX6_trim) ∈ uU := uT_5 _ (List.mem_append_left _ (List.mem_cons_of_mem _ (List.mem_cons_of_mem _ (List.mem_cons_of_mem _ (List.mem_cons_of_mem _ (List.mem_cons_of_mem _ (List.mem_cons_of_mem _ (List.mem_cons_of_mem _ (List.mem_cons_of_mem _ (List.mem_cons_of_mem _ (List.mem_cons_of_mem _ (List.mem_cons_of_mem _ (List.mem_cons_of_mem _ (List.mem_cons_of_mem _ (List.mem_cons_of_mem _ (List.mem_cons_of_mem _ (List.mem_cons_of_mem _ (List.mem_cons_of_mem _ (List.mem_cons_self)))))))))))))))))))
theorem u_6_18 : (Cond.code yX6_trim cX6_trim 2 none) ∈ uU := uT_5 _ (List.mem_append_left _ (List.mem_cons_of_mem _ (List.mem_cons_of_mem _ (List.mem_cons_of_mem _ (List.mem_cons_of_mem _ (List.mem_cons_of_mem _ (List.mem_cons_of_mem _ (List.mem_cons_of_mem _ (List.mem_cons_of_mem _ (List.mem_cons_of_mem _ (List.mem_cons_of_mem _ (List.mem_cons_of_mem _ (List.mem_cons_of_mem _ (List.mem_cons_of_mem _ (List.mem_cons_of_mem _ (List.mem_cons_of_mem _ (List.mem_cons_of_mem _ (List.mem_cons_of_mem _ (List.mem_cons_of_mem _ (List.mem_cons_self))))))))))))))))))))
theorem u_6_19 : (Cond.fieldLink RX6 15 "ChainLetters$Natural" "size" "I") ∈ uU := uT_5 _ (List.mem_append_left _ (List.mem_cons_of_mem _ (List.mem_cons_of_mem _ (List.mem_cons_of_mem _ (List.mem_cons_of_mem _ (List.mem_cons_of_mem _ (List.mem_cons_of_mem _ (List.mem_cons_of_mem _ (List.mem_cons_of_mem _ (List.mem_cons_of_mem _ (List.mem_cons_of_mem _ (List.mem_cons_of_mem _ (List.mem_cons_of_mem _ (List.mem_cons_of_mem _ (List.mem_cons_of_mem _ (List.mem_cons_of_mem _ (List.mem_cons_of_mem _ (List.mem_cons_of_mem _ (List.mem_cons_of_mem _ (List.mem_cons_of_mem _ (List.mem_cons_self)))))))))))))))))))))
theorem u_6_20 : (Cond.methodLink RL 12 yX10_init) ∈ uU := uT_5 _ (List.mem_append_left _ (List.mem_cons_of_mem _ (List.mem_cons_of_mem _ (List.mem_cons_of_mem _ (List.mem_cons_of_mem _ (List.mem_cons_of_mem _ (List.mem_cons_of_mem _ (List.mem_cons_of_mem _ (List.mem_cons_of_mem _ (List.mem_cons_of_mem _ (List.mem_cons_of_mem _ (List.mem_cons_of_mem _ (List.mem_cons_of_mem _ (List.mem_cons_of_mem _ (List.mem_cons_of_mem _ (List.mem_cons_of_mem _ (List.mem_cons_of_mem _ (List.mem_cons_of_mem _ (List.mem_cons_of_mem _ (List.mem_cons_of_mem _ (List.mem_cons_of_mem _ (List.mem_cons_self))))))))))))))))))))))
theorem u_6_21 : (Cond.instanceMethod yX10_init) ∈ uU := uT_5 _ (List.mem_append_left _ (List.mem_cons_of_mem _ (List.mem_cons_of_mem _ (List.mem_cons_of_mem _ (List.mem_cons_of_mem _ (List.mem_cons_of_mem _ (List.mem_cons_of_mem _ (List.mem_cons_of_mem _ (List.mem_cons_of_mem _ (List.mem_cons_of_mem _ (List.mem_cons_of_mem _ (List.mem_cons_of_mem _ (List.mem_cons_of_mem _ (List.mem_cons_of_mem _ (List.mem_cons_of_mem _ (List.mem_cons_of_mem _ (List.mem_cons_of_mem _ (List.mem_cons_of_mem _ (List.mem_cons_of_mem _ (List.mem_cons_of_mem _ (List.mem_cons_of_mem _ (List.mem_cons_of_mem _ (List.mem_cons_self)))))))))))))))))))))))
theorem u_6_22 : (Cond.code yX10_init cX10_init 2 none) ∈ uU := uT_5 _ (List.mem_append_left _ (List.mem_cons_of_mem _ (List.mem_cons_of_mem _ (List.mem_cons_of_mem _ (List.mem_cons_of_mem _ (List.mem_cons_of_mem _ (List.mem_cons_of_mem _ (List.mem_cons_of_mem _ (List.mem_cons_of_mem _ (List.mem_cons_of_mem _ (List.mem_cons_of_mem _ (List.mem_cons_of_mem _ (List.mem_cons_of_mem _ (List.mem_cons_of_mem _ (List.mem_cons_of_mem _ (List.mem_cons_of_mem _ (List.mem_cons_of_mem _ (List.mem_cons_of_mem _ (List.mem_cons_of_mem _ (List.mem_cons_of_mem _ (List.mem_cons_of_mem _ (List.mem_cons_of_mem _ (List.mem_cons_of_mem _ (List.mem_cons_self))))))))))))))))))))))))
theorem u_6_23 : (Cond.methodLink RX10 1 objectInit) ∈ uU := uT_5 _ (List.mem_append_left _ (List.mem_cons_of_mem _ (List.mem_cons_of_mem _ (List.mem_cons_of_mem _ (List.mem_cons_of_mem _ (List.mem_cons_of_mem _ (List.mem_cons_of_mem _ (List.mem_cons_of_mem _ (List.mem_cons_of_mem _ (List.mem_cons_of_mem _ (List.mem_cons_of_mem _ (List.mem_cons_of_mem _ (List.mem_cons_of_mem _ (List.mem_cons_of_mem _ (List.mem_cons_of_mem _ (List.mem_cons_of_mem _ (List.mem_cons_of_mem _ (List.mem_cons_of_mem _ (List.mem_cons_of_mem _ (List.mem_cons_of_mem _ (List.mem_cons_of_mem _ (List.mem_cons_of_mem _ (List.mem_cons_of_mem _ (List.mem_cons_of_mem _ (List.mem_cons_self)))))))))))))))))))))))))
theorem u_7_0 : (Cond.fieldLink RX10 7 "ChainLettersModel" "limbs" "[I") ∈ uU := uT_6 _ (List.mem_append_left _ (List.mem_cons_self))
theorem u_7_1 : (Cond.fieldLink RX10 13 "ChainLettersModel" "wide" "[I") ∈ uU := uT_6 _ (List.mem_append_left _ (List.mem_cons_of_mem _ (List.mem_cons_self)))
theorem u_7_2 : (Cond.fieldLink RX10 16 "ChainLettersModel" "from" "[I") ∈ uU := uT_6 _ (List.mem_append_left _ (List.mem_cons_of_mem _ (List.mem_cons_of_mem _ (List.mem_cons_self))))
theorem u_7_3 : (Cond.fieldLink RX10 19 "ChainLettersModel" "to" "[I") ∈ uU := uT_6 _ (List.mem_append_left _ (List.mem_cons_of_mem _ (List.mem_cons_of_mem _ (List.mem_cons_of_mem _ (List.mem_cons_self)))))
theorem u_7_4 : (Cond.fieldLink RX10 22 "ChainLettersModel" "forms" "[I") ∈ uU := uT_6 _ (List.mem_append_left _ (List.mem_cons_of_mem _ (List.mem_cons_of_mem _ (List.mem_cons_of_mem _ (List.mem_cons_of_mem _ (List.mem_cons_self))))))
theorem u_7_5 : (Cond.fieldLink RX10 25 "ChainLettersModel" "costs" "[I") ∈ uU := uT_6 _ (List.mem_append_left _ (List.mem_cons_of_mem _ (List.mem_cons_of_mem _ (List.mem_cons_of_mem _ (List.mem_cons_of_mem _ (List.mem_cons_of_mem _ (List.mem_cons_self)))))))
theorem u_7_6 : (Cond.fieldLink RX10 28 "ChainLettersModel" "cheapest" "[I") ∈ uU := uT_6 _ (List.mem_append_left _ (List.mem_cons_of_mem _ (List.mem_cons_of_mem _ (List.mem_cons_of_mem _ (List.mem_cons_of_mem _ (List.mem_cons_of_mem _ (List.mem_cons_of_mem _ (List.mem_cons_self))))))))
theorem u_7_7 : (Cond.fieldLink RX10 31 "ChainLettersModel" "fixed" "[I") ∈ uU := uT_6 _ (List.mem_append_left _ (List.mem_cons_of_mem _ (List.mem_cons_of_mem _ (List.mem_cons_of_mem _ (List.mem_cons_of_mem _ (List.mem_cons_of_mem _ (List.mem_cons_of_mem _ (List.mem_cons_of_mem _ (List.mem_cons_self)))))))))
theorem u_7_8 : (Cond.fieldLink RX10 34 "ChainLettersModel" "sumOf" "[I") ∈ uU := uT_6 _ (List.mem_append_left _ (List.mem_cons_of_mem _ (List.mem_cons_of_mem _ (List.mem_cons_of_mem _ (List.mem_cons_of_mem _ (List.mem_cons_of_mem _ (List.mem_cons_of_mem _ (List.mem_cons_of_mem _ (List.mem_cons_of_mem _ (List.mem_cons_self))))))))))
theorem u_7_9 : (Cond.fieldLink RX10 37 "ChainLettersModel" "early" "[I") ∈ uU := uT_6 _ (List.mem_append_left _ (List.mem_cons_of_mem _ (List.mem_cons_of_mem _ (List.mem_cons_of_mem _ (List.mem_cons_of_mem _ (List.mem_cons_of_mem _ (List.mem_cons_of_mem _ (List.mem_cons_of_mem _ (List.mem_cons_of_mem _ (List.mem_cons_of_mem _ (List.mem_cons_self)))))))))))
theorem u_7_10 : (Cond.fieldLink RX10 40 "ChainLettersModel" "late" "[I") ∈ uU := uT_6 _ (List.mem_append_left _ (List.mem_cons_of_mem _ (List.mem_cons_of_mem _ (List.mem_cons_of_mem _ (List.mem_cons_of_mem _ (List.mem_cons_of_mem _ (List.mem_cons_of_mem _ (List.mem_cons_of_mem _ (List.mem_cons_of_mem _ (List.mem_cons_of_mem _ (List.mem_cons_of_mem _ (List.mem_cons_self))))))))))))
theorem u_7_11 : (Cond.fieldLink RX10 43 "ChainLettersModel" "lengths" "[I") ∈ uU := uT_6 _ (List.mem_append_left _ (List.mem_cons_of_mem _ (List.mem_cons_of_mem _ (List.mem_cons_of_mem _ (List.mem_cons_of_mem _ (List.mem_cons_of_mem _ (List.mem_cons_of_mem _ (List.mem_cons_of_mem _ (List.mem_cons_of_mem _ (List.mem_cons_of_mem _ (List.mem_cons_of_mem _ (List.mem_cons_of_mem _ (List.mem_cons_self)))))))))))))
theorem u_7_12 : (Cond.fieldLink RX10 46 "ChainLettersModel" "spelt" "[I") ∈ uU := uT_6 _ (List.mem_append_left _ (List.mem_cons_of_mem _ (List.mem_cons_of_mem _ (List.mem_cons_of_mem _ (List.mem_cons_of_mem _ (List.mem_cons_of_mem _ (List.mem_cons_of_mem _ (List.mem_cons_of_mem _ (List.mem_cons_of_mem _ (List.mem_cons_of_mem _ (List.mem_cons_of_mem _ (List.mem_cons_of_mem _ (List.mem_cons_of_mem _ (List.mem_cons_self))))))))))))))
theorem u_7_13 : (Cond.fieldLink RX10 49 "ChainLettersModel" "signs" "[I") ∈ uU := uT_6 _ (List.mem_append_left _ (List.mem_cons_of_mem _ (List.mem_cons_of_mem _ (List.mem_cons_of_mem _ (List.mem_cons_of_mem _ (List.mem_cons_of_mem _ (List.mem_cons_of_mem _ (List.mem_cons_of_mem _ (List.mem_cons_of_mem _ (List.mem_cons_of_mem _ (List.mem_cons_of_mem _ (List.mem_cons_of_mem _ (List.mem_cons_of_mem _ (List.mem_cons_of_mem _ (List.mem_cons_self)))))))))))))))
theorem u_7_14 : (Cond.fieldLink RX10 52 "ChainLettersModel" "table" "[I") ∈ uU := uT_6 _ (List.mem_append_left _ (List.mem_cons_of_mem _ (List.mem_cons_of_mem _ (List.mem_cons_of_mem _ (List.mem_cons_of_mem _ (List.mem_cons_of_mem _ (List.mem_cons_of_mem _ (List.mem_cons_of_mem _ (List.mem_cons_of_mem _ (List.mem_cons_of_mem _ (List.mem_cons_of_mem _ (List.mem_cons_of_mem _ (List.mem_cons_of_mem _ (List.mem_cons_of_mem _ (List.mem_cons_of_mem _ (List.mem_cons_self))))))))))))))))
theorem u_7_15 : (Cond.fieldLink RX10 55 "ChainLettersModel" "far" "[I") ∈ uU := uT_6 _ (List.mem_append_left _ (List.mem_cons_of_mem _ (List.mem_cons_of_mem _ (List.mem_cons_of_mem _ (List.mem_cons_of_mem _ (List.mem_cons_of_mem _ (List.mem_cons_of_mem _ (List.mem_cons_of_mem _ (List.mem_cons_of_mem _ (List.mem_cons_of_mem _ (List.mem_cons_of_mem _ (List.mem_cons_of_mem _ (List.mem_cons_of_mem _ (List.mem_cons_of_mem _ (List.mem_cons_of_mem _ (List.mem_cons_of_mem _ (List.mem_cons_self)))))))))))))))))
theorem u_7_16 : (Cond.fieldLink RX10 58 "ChainLettersModel" "habits" "[I") ∈ uU := uT_6 _ (List.mem_append_left _ (List.mem_cons_of_mem _ (List.mem_cons_of_mem _ (List.mem_cons_of_mem _ (List.mem_cons_of_mem _ (List.mem_cons_of_mem _ (List.mem_cons_of_mem _ (List.mem_cons_of_mem _ (List.mem_cons_of_mem _ (List.mem_cons_of_mem _ (List.mem_cons_of_mem _ (List.mem_cons_of_mem _ (List.mem_cons_of_mem _ (List.mem_cons_of_mem _ (List.mem_cons_of_mem _ (List.mem_cons_of_mem _ (List.mem_cons_of_mem _ (List.mem_cons_self))))))))))))))))))
theorem u_7_17 : (Cond.fieldLink RX10 61 "ChainLettersModel" "doIt" "[I") ∈ uU := uT_6 _ (List.mem_append_left _ (List.mem_cons_of_mem _ (List.mem_cons_of_mem _ (List.mem_cons_of_mem _ (List.mem_cons_of_mem _ (List.mem_cons_of_mem _ (List.mem_cons_of_mem _ (List.mem_cons_of_mem _ (List.mem_cons_of_mem _ (List.mem_cons_of_mem _ (List.mem_cons_of_mem _ (List.mem_cons_of_mem _ (List.mem_cons_of_mem _ (List.mem_cons_of_mem _ (List.mem_cons_of_mem _ (List.mem_cons_of_mem _ (List.mem_cons_of_mem _ (List.mem_cons_of_mem _ (List.mem_cons_self)))))))))))))))))))
theorem u_7_18 : (Cond.fieldLink RX10 64 "ChainLettersModel" "askOf" "[I") ∈ uU := uT_6 _ (List.mem_append_left _ (List.mem_cons_of_mem _ (List.mem_cons_of_mem _ (List.mem_cons_of_mem _ (List.mem_cons_of_mem _ (List.mem_cons_of_mem _ (List.mem_cons_of_mem _ (List.mem_cons_of_mem _ (List.mem_cons_of_mem _ (List.mem_cons_of_mem _ (List.mem_cons_of_mem _ (List.mem_cons_of_mem _ (List.mem_cons_of_mem _ (List.mem_cons_of_mem _ (List.mem_cons_of_mem _ (List.mem_cons_of_mem _ (List.mem_cons_of_mem _ (List.mem_cons_of_mem _ (List.mem_cons_of_mem _ (List.mem_cons_self))))))))))))))))))))
theorem u_7_19 : (Cond.fieldLink RX10 67 "ChainLettersModel" "others" "[I") ∈ uU := uT_6 _ (List.mem_append_left _ (List.mem_cons_of_mem _ (List.mem_cons_of_mem _ (List.mem_cons_of_mem _ (List.mem_cons_of_mem _ (List.mem_cons_of_mem _ (List.mem_cons_of_mem _ (List.mem_cons_of_mem _ (List.mem_cons_of_mem _ (List.mem_cons_of_mem _ (List.mem_cons_of_mem _ (List.mem_cons_of_mem _ (List.mem_cons_of_mem _ (List.mem_cons_of_mem _ (List.mem_cons_of_mem _ (List.mem_cons_of_mem _ (List.mem_cons_of_mem _ (List.mem_cons_of_mem _ (List.mem_cons_of_mem _ (List.mem_cons_of_mem _ (List.mem_cons_self)))))))))))))))))))))
theorem u_7_20 : (Cond.fieldLink RX10 70 "ChainLettersModel" "copies" "[I") ∈ uU := uT_6 _ (List.mem_append_left _ (List.mem_cons_of_mem _ (List.mem_cons_of_mem _ (List.mem_cons_of_mem _ (List.mem_cons_of_mem _ (List.mem_cons_of_mem _ (List.mem_cons_of_mem _ (List.mem_cons_of_mem _ (List.mem_cons_of_mem _ (List.mem_cons_of_mem _ (List.mem_cons_of_mem _ (List.mem_cons_of_mem _ (List.mem_cons_of_mem _ (List.mem_cons_of_mem _ (List.mem_cons_of_mem _ (List.mem_cons_of_mem _ (List.mem_cons_of_mem _ (List.mem_cons_of_mem _ (List.mem_cons_of_mem _ (List.mem_cons_of_mem _ (List.mem_cons_of_mem _ (List.mem_cons_self))))))))))))))))))))))
theorem u_7_21 : (Cond.fieldLink RX10 73 "ChainLettersModel" "odds" "[I") ∈ uU := uT_6 _ (List.mem_append_left _ (List.mem_cons_of_mem _ (List.mem_cons_of_mem _ (List.mem_cons_of_mem _ (List.mem_cons_of_mem _ (List.mem_cons_of_mem _ (List.mem_cons_of_mem _ (List.mem_cons_of_mem _ (List.mem_cons_of_mem _ (List.mem_cons_of_mem _ (List.mem_cons_of_mem _ (List.mem_cons_of_mem _ (List.mem_cons_of_mem _ (List.mem_cons_of_mem _ (List.mem_cons_of_mem _ (List.mem_cons_of_mem _ (List.mem_cons_of_mem _ (List.mem_cons_of_mem _ (List.mem_cons_of_mem _ (List.mem_cons_of_mem _ (List.mem_cons_of_mem _ (List.mem_cons_of_mem _ (List.mem_cons_self)))))))))))))))))))))))
theorem u_7_22 : (Cond.fieldLink RX10 76 "ChainLettersModel" "often" "[I") ∈ uU := uT_6 _ (List.mem_append_left _ (List.mem_cons_of_mem _ (List.mem_cons_of_mem _ (List.mem_cons_of_mem _ (List.mem_cons_of_mem _ (List.mem_cons_of_mem _ (List.mem_cons_of_mem _ (List.mem_cons_of_mem _ (List.mem_cons_of_mem _ (List.mem_cons_of_mem _ (List.mem_cons_of_mem _ (List.mem_cons_of_mem _ (List.mem_cons_of_mem _ (List.mem_cons_of_mem _ (List.mem_cons_of_mem _ (List.mem_cons_of_mem _ (List.mem_cons_of_mem _ (List.mem_cons_of_mem _ (List.mem_cons_of_mem _ (List.mem_cons_of_mem _ (List.mem_cons_of_mem _ (List.mem_cons_of_mem _ (List.mem_cons_of_mem _ (List.mem_cons_self))))))))))))))))))))))))
theorem u_7_23 : (Cond.fieldLink RX10 79 "ChainLettersModel" "got" "[I") ∈ uU := uT_6 _ (List.mem_append_left _ (List.mem_cons_of_mem _ (List.mem_cons_of_mem _ (List.mem_cons_of_mem _ (List.mem_cons_of_mem _ (List.mem_cons_of_mem _ (List.mem_cons_of_mem _ (List.mem_cons_of_mem _ (List.mem_cons_of_mem _ (List.mem_cons_of_mem _ (List.mem_cons_of_mem _ (List.mem_cons_of_mem _ (List.mem_cons_of_mem _ (List.mem_cons_of_mem _ (List.mem_cons_of_mem _ (List.mem_cons_of_mem _ (List.mem_cons_of_mem _ (List.mem_cons_of_mem _ (List.mem_cons_of_mem _ (List.mem_cons_of_mem _ (List.mem_cons_of_mem _ (List.mem_cons_of_mem _ (List.mem_cons_of_mem _ (List.mem_cons_of_mem _ (List.mem_cons_self)))))))))))))))))))))))))
theorem u_8_0 : (Cond.fieldLink RX10 82 "ChainLettersModel" "did" "[I") ∈ uU := uT_7 _ (List.mem_append_left _ (List.mem_cons_self))
theorem u_8_1 : (Cond.fieldLink RX10 85 "ChainLettersModel" "box" "[I") ∈ uU := uT_7 _ (List.mem_append_left _ (List.mem_cons_of_mem _ (List.mem_cons_self)))
theorem u_8_2 : (Cond.methodLink RX10 88 yX10_sets) ∈ uU := uT_7 _ (List.mem_append_left _ (List.mem_cons_of_mem _ (List.mem_cons_of_mem _ (List.mem_cons_self))))
theorem u_8_3 : (Cond.instanceMethod yX10_sets) ∈ uU := uT_7 _ (List.mem_append_left _ (List.mem_cons_of_mem _ (List.mem_cons_of_mem _ (List.mem_cons_of_mem _ (List.mem_cons_self)))))
theorem u_8_4 : (Cond.selects RX10 yX10_sets yX10_sets) ∈ uU := uT_7 _ (List.mem_append_left _ (List.mem_cons_of_mem _ (List.mem_cons_of_mem _ (List.mem_cons_of_mem _ (List.mem_cons_of_mem _ (List.mem_cons_self))))))
theorem u_8_5 : (Cond.code yX10_sets cX10_sets 5 none) ∈ uU := uT_7 _ (List.mem_append_left _ (List.mem_cons_of_mem _ (List.mem_cons_of_mem _ (List.mem_cons_of_mem _ (List.mem_cons_of_mem _ (List.mem_cons_of_mem _ (List.mem_cons_self)))))))
theorem u_8_6 : (Cond.constantLong RX10 92 (1073741823)) ∈ uU := uT_7 _ (List.mem_append_left _ (List.mem_cons_of_mem _ (List.mem_cons_of_mem _ (List.mem_cons_of_mem _ (List.mem_cons_of_mem _ (List.mem_cons_of_mem _ (List.mem_cons_of_mem _ (List.mem_cons_self))))))))
theorem u_8_7 : (Cond.methodLink RX10 94 yX10_trims) ∈ uU := uT_7 _ (List.mem_append_left _ (List.mem_cons_of_mem _ (List.mem_cons_of_mem _ (List.mem_cons_of_mem _ (List.mem_cons_of_mem _ (List.mem_cons_of_mem _ (List.mem_cons_of_mem _ (List.mem_cons_of_mem _ (List.mem_cons_self)))))))))
theorem u_8_8 : (Cond.instanceMethod yX10_trims) ∈ uU := uT_7 _ (List.mem_append_left _ (List.mem_cons_of_mem _ (List.mem_cons_of_mem _ (List.mem_cons_of_mem _ (List.mem_cons_of_mem _ (List.mem_cons_of_mem _ (List.mem_cons_of_mem _ (List.mem_cons_of_mem _ (List.mem_cons_of_mem _ (List.mem_cons_self))))))))))
theorem u_8_9 : (Cond.selects RX10 yX10_trims yX10_trims) ∈ uU := uT_7 _ (List.mem_append_left _ (List.mem_cons_of_mem _ (List.mem_cons_of_mem _ (List.mem_cons_of_mem _ (List.mem_cons_of_mem _ (List.mem_cons_of_mem _ (List.mem_cons_of_mem _ (List.mem_cons_of_mem _ (List.mem_cons_of_mem _ (List.mem_cons_of_mem _ (List.mem_cons_self)))))))))))
theorem u_8_10 : (Cond.code yX10_trims cX10_trims 2 none) ∈ uU := uT_7 _ (List.mem_append_left _ (List.mem_cons_of_mem _ (List.mem_cons_of_mem _ (List.mem_cons_of_mem _ (List.mem_cons_of_mem _ (List.mem_cons_of_mem _ (List.mem_cons_of_mem _ (List.mem_cons_of_mem _ (List.mem_cons_of_mem _ (List.mem_cons_of_mem _ (List.mem_cons_of_mem _ (List.mem_cons_self))))))))))))
theorem u_8_11 : (Cond.methodLink RL 13 yX9_letter) ∈ uU := uT_7 _ (List.mem_append_left _ (List.mem_cons_of_mem _ (List.mem_cons_of_mem _ (List.mem_cons_of_mem _ (List.mem_cons_of_mem _ (List.mem_cons_of_mem _ (List.mem_cons_of_mem _ (List.mem_cons_of_mem _ (List.mem_cons_of_mem _ (List.mem_cons_of_mem _ (List.mem_cons_of_mem _ (List.mem_cons_of_mem _ (List.mem_cons_self)))))))))))))
theorem u_8_12 : (Cond.instanceMethod yX9_letter) ∈ uU := uT_7 _ (List.mem_append_left _ (List.mem_cons_of_mem _ (List.mem_cons_of_mem _ (List.mem_cons_of_mem _ (List.mem_cons_of_mem _ (List.mem_cons_of_mem _ (List.mem_cons_of_mem _ (List.mem_cons_of_mem _ (List.mem_cons_of_mem _ (List.mem_cons_of_mem _ (List.mem_cons_of_mem _ (List.mem_cons_of_mem _ (List.mem_cons_of_mem _ (List.mem_cons_self))))))))))))))
theorem u_8_13 : (Cond.selects RX9 yX9_letter yX9_letter) ∈ uU := uT_7 _ (List.mem_append_left _ (List.mem_cons_of_mem _ (List.mem_cons_of_mem _ (List.mem_cons_of_mem _ (List.mem_cons_of_mem _ (List.mem_cons_of_mem _ (List.mem_cons_of_mem _ (List.mem_cons_of_mem _ (List.mem_cons_of_mem _ (List.mem_cons_of_mem _ (List.mem_cons_of_mem _ (List.mem_cons_of_mem _ (List.mem_cons_of_mem _ (List.mem_cons_of_mem _ (List.mem_cons_self)))))))))))))))
theorem u_8_14 : (Cond.code yX9_letter cX9_letter 3 (some .int)) ∈ uU := uT_7 _ (List.mem_append_left _ (List.mem_cons_of_mem _ (List.mem_cons_of_mem _ (List.mem_cons_of_mem _ (List.mem_cons_of_mem _ (List.mem_cons_of_mem _ (List.mem_cons_of_mem _ (List.mem_cons_of_mem _ (List.mem_cons_of_mem _ (List.mem_cons_of_mem _ (List.mem_cons_of_mem _ (List.mem_cons_of_mem _ (List.mem_cons_of_mem _ (List.mem_cons_of_mem _ (List.mem_cons_of_mem _ (List.mem_cons_self))))))))))))))))
theorem u_8_15 : (Cond.fieldLink RX9 71 "ChainLetters$Letters" "count" "I") ∈ uU := uT_7 _ (List.mem_append_left _ (List.mem_cons_of_mem _ (List.mem_cons_of_mem _ (List.mem_cons_of_mem _ (List.mem_cons_of_mem _ (List.mem_cons_of_mem _ (List.mem_cons_of_mem _ (List.mem_cons_of_mem _ (List.mem_cons_of_mem _ (List.mem_cons_of_mem _ (List.mem_cons_of_mem _ (List.mem_cons_of_mem _ (List.mem_cons_of_mem _ (List.mem_cons_of_mem _ (List.mem_cons_of_mem _ (List.mem_cons_of_mem _ (List.mem_cons_self)))))))))))))))))
theorem u_8_16 : (Cond.methodLink RX9 67 yX9_within) ∈ uU := uT_7 _ (List.mem_append_left _ (List.mem_cons_of_mem _ (List.mem_cons_of_mem _ (List.mem_cons_of_mem _ (List.mem_cons_of_mem _ (List.mem_cons_of_mem _ (List.mem_cons_of_mem _ (List.mem_cons_of_mem _ (List.mem_cons_of_mem _ (List.mem_cons_of_mem _ (List.mem_cons_of_mem _ (List.mem_cons_of_mem _ (List.mem_cons_of_mem _ (List.mem_cons_of_mem _ (List.mem_cons_of_mem _ (List.mem_cons_of_mem _ (List.mem_cons_of_mem _ (List.mem_cons_self))))))))))))))))))
theorem u_8_17 : (Cond.static yX9_within) ∈ uU := uT_7 _ (List.mem_append_left _ (List.mem_cons_of_mem _ (List.mem_cons_of_mem _ (List.mem_cons_of_mem _ (List.mem_cons_of_mem _ (List.mem_cons_of_mem _ (List.mem_cons_of_mem _ (List.mem_cons_of_mem _ (List.mem_cons_of_mem _ (List.mem_cons_of_mem _ (List.mem_cons_of_mem _ (List.mem_cons_of_mem _ (List.mem_cons_of_mem _ (List.mem_cons_of_mem _ (List.mem_cons_of_mem _ (List.mem_cons_of_mem _ (List.mem_cons_of_mem _ (List.mem_cons_of_mem _ (List.mem_cons_self)))))))))))))))))))
theorem u_8_18 : (Cond.code yX9_within cX9_within 3 (some .boolean)) ∈ uU := uT_7 _ (List.mem_append_left _ (List.mem_cons_of_mem _ (List.mem_cons_of_mem _ (List.mem_cons_of_mem _ (List.mem_cons_of_mem _ (List.mem_cons_of_mem _ (List.mem_cons_of_mem _ (List.mem_cons_of_mem _ (List.mem_cons_of_mem _ (List.mem_cons_of_mem _ (List.mem_cons_of_mem _ (List.mem_cons_of_mem _ (List.mem_cons_of_mem _ (List.mem_cons_of_mem _ (List.mem_cons_of_mem _ (List.mem_cons_of_mem _ (List.mem_cons_of_mem _ (List.mem_cons_of_mem _ (List.mem_cons_of_mem _ (List.mem_cons_self))))))))))))))))))))
theorem u_8_19 : (Cond.methodLink RX9 75 yX8_forget) ∈ uU := uT_7 _ (List.mem_append_left _ (List.mem_cons_of_mem _ (List.mem_cons_of_mem _ (List.mem_cons_of_mem _ (List.mem_cons_of_mem _ (List.mem_cons_of_mem _ (List.mem_cons_of_mem _ (List.mem_cons_of_mem _ (List.mem_cons_of_mem _ (List.mem_cons_of_mem _ (List.mem_cons_of_mem _ (List.mem_cons_of_mem _ (List.mem_cons_of_mem _ (List.mem_cons_of_mem _ (List.mem_cons_of_mem _ (List.mem_cons_of_mem _ (List.mem_cons_of_mem _ (List.mem_cons_of_mem _ (List.mem_cons_of_mem _ (List.mem_cons_of_mem _ (List.mem_cons_self)))))))))))))))))))))
theorem u_8_20 : (Cond.instanceMethod yX8_forget) ∈ uU := uT_7 _ (List.mem_append_left _ (List.mem_cons_of_mem _ (List.mem_cons_of_mem _ (List.mem_cons_of_mem _ (List.mem_cons_of_mem _ (List.mem_cons_of_mem _ (List.mem_cons_of_mem _ (List.mem_cons_of_mem _ (List.mem_cons_of_mem _ (List.mem_cons_of_mem _ (List.mem_cons_of_mem _ (List.mem_cons_of_mem _ (List.mem_cons_of_mem _ (List.mem_cons_of_mem _ (List.mem_cons_of_mem _ (List.mem_cons_of_mem _ (List.mem_cons_of_mem _ (List.mem_cons_of_mem _ (List.mem_cons_of_mem _ (List.mem_cons_of_mem _ (List.mem_cons_of_mem _ (List.mem_cons_self))))))))))))))))))))))
theorem u_8_21 : (Cond.selects RX8 yX8_forget yX8_forget) ∈ uU := uT_7 _ (List.mem_append_left _ (List.mem_cons_of_mem _ (List.mem_cons_of_mem _ (List.mem_cons_of_mem _ (List.mem_cons_of_mem _ (List.mem_cons_of_mem _ (List.mem_cons_of_mem _ (List.mem_cons_of_mem _ (List.mem_cons_of_mem _ (List.mem_cons_of_mem _ (List.mem_cons_of_mem _ (List.mem_cons_of_mem _ (List.mem_cons_of_mem _ (List.mem_cons_of_mem _ (List.mem_cons_of_mem _ (List.mem_cons_of_mem _ (List.mem_cons_of_mem _ (List.mem_cons_of_mem _ (List.mem_cons_of_mem _ (List.mem_cons_of_mem _ (List.mem_cons_of_mem _ (List.mem_cons_of_mem _ (List.mem_cons_self)))))))))))))))))))))))
theorem u_8_22 : (Cond.code yX8_forget cX8_forget 1 none) ∈ uU := uT_7 _ (List.mem_append_left _ (List.mem_cons_of_mem _ (List.mem_cons_of_mem _ (List.mem_cons_of_mem _ (List.mem_cons_of_mem _ (List.mem_cons_of_mem _ (List.mem_cons_of_mem _ (List.mem_cons_of_mem _ (List.mem_cons_of_mem _ (List.mem_cons_of_mem _ (List.mem_cons_of_mem _ (List.mem_cons_of_mem _ (List.mem_cons_of_mem _ (List.mem_cons_of_mem _ (List.mem_cons_of_mem _ (List.mem_cons_of_mem _ (List.mem_cons_of_mem _ (List.mem_cons_of_mem _ (List.mem_cons_of_mem _ (List.mem_cons_of_mem _ (List.mem_cons_of_mem _ (List.mem_cons_of_mem _ (List.mem_cons_of_mem _ (List.mem_cons_self))))))))))))))))))))))))
theorem u_8_23 : (Cond.fieldLink RX8 48 "ChainLetters$Trees" "priced" "Z") ∈ uU := uT_7 _ (List.mem_append_left _ (List.mem_cons_of_mem _ (List.mem_cons_of_mem _ (List.mem_cons_of_mem _ (List.mem_cons_of_mem _ (List.mem_cons_of_mem _ (List.mem_cons_of_mem _ (List.mem_cons_of_mem _ (List.mem_cons_of_mem _ (List.mem_cons_of_mem _ (List.mem_cons_of_mem _ (List.mem_cons_of_mem _ (List.mem_cons_of_mem _ (List.mem_cons_of_mem _ (List.mem_cons_of_mem _ (List.mem_cons_of_mem _ (List.mem_cons_of_mem _ (List.mem_cons_of_mem _ (List.mem_cons_of_mem _ (List.mem_cons_of_mem _ (List.mem_cons_of_mem _ (List.mem_cons_of_mem _ (List.mem_cons_of_mem _ (List.mem_cons_of_mem _ (List.mem_cons_self)))))))))))))))))))))))))
theorem u_9_0 : (Cond.fieldLink RX8 52 "ChainLetters$Trees" "settled" "Z") ∈ uU := uT_8 _ (List.mem_append_left _ (List.mem_cons_self))
theorem u_9_1 : (Cond.methodLink RX9 78 yX4_add) ∈ uU := uT_8 _ (List.mem_append_left _ (List.mem_cons_of_mem _ (List.mem_cons_self)))
theorem u_9_2 : (Cond.instanceMethod yX4_add) ∈ uU := uT_8 _ (List.mem_append_left _ (List.mem_cons_of_mem _ (List.mem_cons_of_mem _ (List.mem_cons_self))))
theorem u_9_3 : (Cond.selects RX4 yX4_add yX4_add) ∈ uU := uT_8 _ (List.mem_append_left _ (List.mem_cons_of_mem _ (List.mem_cons_of_mem _ (List.mem_cons_of_mem _ (List.mem_cons_self)))))
theorem u_9_4 : (Cond.code yX4_add cX4_add 4 (some .int)) ∈ uU := uT_8 _ (List.mem_append_left _ (List.mem_cons_of_mem _ (List.mem_cons_of_mem _ (List.mem_cons_of_mem _ (List.mem_cons_of_mem _ (List.mem_cons_self))))))
theorem u_9_5 : (Cond.fieldLink RX4 27 "ChainLetters$Letters" "count" "I") ∈ uU := uT_8 _ (List.mem_append_left _ (List.mem_cons_of_mem _ (List.mem_cons_of_mem _ (List.mem_cons_of_mem _ (List.mem_cons_of_mem _ (List.mem_cons_of_mem _ (List.mem_cons_self)))))))
theorem u_9_6 : (Cond.fieldLink RX4 31 "ChainLetters$Letters" "copiedStands" "Z") ∈ uU := uT_8 _ (List.mem_append_left _ (List.mem_cons_of_mem _ (List.mem_cons_of_mem _ (List.mem_cons_of_mem _ (List.mem_cons_of_mem _ (List.mem_cons_of_mem _ (List.mem_cons_of_mem _ (List.mem_cons_self))))))))
theorem u_9_7 : (Cond.methodLink RL 17 yX10_letter) ∈ uU := uT_8 _ (List.mem_append_left _ (List.mem_cons_of_mem _ (List.mem_cons_of_mem _ (List.mem_cons_of_mem _ (List.mem_cons_of_mem _ (List.mem_cons_of_mem _ (List.mem_cons_of_mem _ (List.mem_cons_of_mem _ (List.mem_cons_self)))))))))
theorem u_9_8 : (Cond.instanceMethod yX10_letter) ∈ uU := uT_8 _ (List.mem_append_left _ (List.mem_cons_of_mem _ (List.mem_cons_of_mem _ (List.mem_cons_of_mem _ (List.mem_cons_of_mem _ (List.mem_cons_of_mem _ (List.mem_cons_of_mem _ (List.mem_cons_of_mem _ (List.mem_cons_of_mem _ (List.mem_cons_self))))))))))
theorem u_9_9 : (Cond.selects RX10 yX10_letter yX10_letter) ∈ uU := uT_8 _ (List.mem_append_left _ (List.mem_cons_of_mem _ (List.mem_cons_of_mem _ (List.mem_cons_of_mem _ (List.mem_cons_of_mem _ (List.mem_cons_of_mem _ (List.mem_cons_of_mem _ (List.mem_cons_of_mem _ (List.mem_cons_of_mem _ (List.mem_cons_of_mem _ (List.mem_cons_self)))))))))))
theorem u_9_10 : (Cond.code yX10_letter cX10_letter 4 (some .int)) ∈ uU := uT_8 _ (List.mem_append_left _ (List.mem_cons_of_mem _ (List.mem_cons_of_mem _ (List.mem_cons_of_mem _ (List.mem_cons_of_mem _ (List.mem_cons_of_mem _ (List.mem_cons_of_mem _ (List.mem_cons_of_mem _ (List.mem_cons_of_mem _ (List.mem_cons_of_mem _ (List.mem_cons_of_mem _ (List.mem_cons_self))))))))))))
theorem u_9_11 : (Cond.constantLong RX10 131 (99)) ∈ uU := uT_8 _ (List.mem_append_left _ (List.mem_cons_of_mem _ (List.mem_cons_of_mem _ (List.mem_cons_of_mem _ (List.mem_cons_of_mem _ (List.mem_cons_of_mem _ (List.mem_cons_of_mem _ (List.mem_cons_of_mem _ (List.mem_cons_of_mem _ (List.mem_cons_of_mem _ (List.mem_cons_of_mem _ (List.mem_cons_of_mem _ (List.mem_cons_self)))))))))))))
theorem u_9_12 : (Cond.fieldLink RX10 127 "ChainLettersModel" "letters" "I") ∈ uU := uT_8 _ (List.mem_append_left _ (List.mem_cons_of_mem _ (List.mem_cons_of_mem _ (List.mem_cons_of_mem _ (List.mem_cons_of_mem _ (List.mem_cons_of_mem _ (List.mem_cons_of_mem _ (List.mem_cons_of_mem _ (List.mem_cons_of_mem _ (List.mem_cons_of_mem _ (List.mem_cons_of_mem _ (List.mem_cons_of_mem _ (List.mem_cons_of_mem _ (List.mem_cons_self))))))))))))))
theorem u_9_13 : (Cond.methodLink RX10 123 yX10_in) ∈ uU := uT_8 _ (List.mem_append_left _ (List.mem_cons_of_mem _ (List.mem_cons_of_mem _ (List.mem_cons_of_mem _ (List.mem_cons_of_mem _ (List.mem_cons_of_mem _ (List.mem_cons_of_mem _ (List.mem_cons_of_mem _ (List.mem_cons_of_mem _ (List.mem_cons_of_mem _ (List.mem_cons_of_mem _ (List.mem_cons_of_mem _ (List.mem_cons_of_mem _ (List.mem_cons_of_mem _ (List.mem_cons_self)))))))))))))))
theorem u_9_14 : (Cond.static yX10_in) ∈ uU := uT_8 _ (List.mem_append_left _ (List.mem_cons_of_mem _ (List.mem_cons_of_mem _ (List.mem_cons_of_mem _ (List.mem_cons_of_mem _ (List.mem_cons_of_mem _ (List.mem_cons_of_mem _ (List.mem_cons_of_mem _ (List.mem_cons_of_mem _ (List.mem_cons_of_mem _ (List.mem_cons_of_mem _ (List.mem_cons_of_mem _ (List.mem_cons_of_mem _ (List.mem_cons_of_mem _ (List.mem_cons_of_mem _ (List.mem_cons_self))))))))))))))))
theorem u_9_15 : (Cond.code yX10_in cX10_in 6 (some .boolean)) ∈ uU := uT_8 _ (List.mem_append_left _ (List.mem_cons_of_mem _ (List.mem_cons_of_mem _ (List.mem_cons_of_mem _ (List.mem_cons_of_mem _ (List.mem_cons_of_mem _ (List.mem_cons_of_mem _ (List.mem_cons_of_mem _ (List.mem_cons_of_mem _ (List.mem_cons_of_mem _ (List.mem_cons_of_mem _ (List.mem_cons_of_mem _ (List.mem_cons_of_mem _ (List.mem_cons_of_mem _ (List.mem_cons_of_mem _ (List.mem_cons_of_mem _ (List.mem_cons_self)))))))))))))))))
theorem u_9_16 : (Cond.methodLink RL 18 yX9_form) ∈ uU := uT_8 _ (List.mem_append_left _ (List.mem_cons_of_mem _ (List.mem_cons_of_mem _ (List.mem_cons_of_mem _ (List.mem_cons_of_mem _ (List.mem_cons_of_mem _ (List.mem_cons_of_mem _ (List.mem_cons_of_mem _ (List.mem_cons_of_mem _ (List.mem_cons_of_mem _ (List.mem_cons_of_mem _ (List.mem_cons_of_mem _ (List.mem_cons_of_mem _ (List.mem_cons_of_mem _ (List.mem_cons_of_mem _ (List.mem_cons_of_mem _ (List.mem_cons_of_mem _ (List.mem_cons_self))))))))))))))))))
theorem u_9_17 : (Cond.instanceMethod yX9_form) ∈ uU := uT_8 _ (List.mem_append_left _ (List.mem_cons_of_mem _ (List.mem_cons_of_mem _ (List.mem_cons_of_mem _ (List.mem_cons_of_mem _ (List.mem_cons_of_mem _ (List.mem_cons_of_mem _ (List.mem_cons_of_mem _ (List.mem_cons_of_mem _ (List.mem_cons_of_mem _ (List.mem_cons_of_mem _ (List.mem_cons_of_mem _ (List.mem_cons_of_mem _ (List.mem_cons_of_mem _ (List.mem_cons_of_mem _ (List.mem_cons_of_mem _ (List.mem_cons_of_mem _ (List.mem_cons_of_mem _ (List.mem_cons_self)))))))))))))))))))
theorem u_9_18 : (Cond.selects RX9 yX9_form yX9_form) ∈ uU := uT_8 _ (List.mem_append_left _ (List.mem_cons_of_mem _ (List.mem_cons_of_mem _ (List.mem_cons_of_mem _ (List.mem_cons_of_mem _ (List.mem_cons_of_mem _ (List.mem_cons_of_mem _ (List.mem_cons_of_mem _ (List.mem_cons_of_mem _ (List.mem_cons_of_mem _ (List.mem_cons_of_mem _ (List.mem_cons_of_mem _ (List.mem_cons_of_mem _ (List.mem_cons_of_mem _ (List.mem_cons_of_mem _ (List.mem_cons_of_mem _ (List.mem_cons_of_mem _ (List.mem_cons_of_mem _ (List.mem_cons_of_mem _ (List.mem_cons_self))))))))))))))))))))
theorem u_9_19 : (Cond.code yX9_form cX9_form 4 (some .int)) ∈ uU := uT_8 _ (List.mem_append_left _ (List.mem_cons_of_mem _ (List.mem_cons_of_mem _ (List.mem_cons_of_mem _ (List.mem_cons_of_mem _ (List.mem_cons_of_mem _ (List.mem_cons_of_mem _ (List.mem_cons_of_mem _ (List.mem_cons_of_mem _ (List.mem_cons_of_mem _ (List.mem_cons_of_mem _ (List.mem_cons_of_mem _ (List.mem_cons_of_mem _ (List.mem_cons_of_mem _ (List.mem_cons_of_mem _ (List.mem_cons_of_mem _ (List.mem_cons_of_mem _ (List.mem_cons_of_mem _ (List.mem_cons_of_mem _ (List.mem_cons_of_mem _ (List.mem_cons_self)))))))))))))))))))))
theorem u_9_20 : (Cond.methodLink RX9 82 yX4_has) ∈ uU := uT_8 _ (List.mem_append_left _ (List.mem_cons_of_mem _ (List.mem_cons_of_mem _ (List.mem_cons_of_mem _ (List.mem_cons_of_mem _ (List.mem_cons_of_mem _ (List.mem_cons_of_mem _ (List.mem_cons_of_mem _ (List.mem_cons_of_mem _ (List.mem_cons_of_mem _ (List.mem_cons_of_mem _ (List.mem_cons_of_mem _ (List.mem_cons_of_mem _ (List.mem_cons_of_mem _ (List.mem_cons_of_mem _ (List.mem_cons_of_mem _ (List.mem_cons_of_mem _ (List.mem_cons_of_mem _ (List.mem_cons_of_mem _ (List.mem_cons_of_mem _ (List.mem_cons_of_mem _ (List.mem_cons_self))))))))))))))))))))))
theorem u_9_21 : (Cond.instanceMethod yX4_has) ∈ uU := uT_8 _ (List.mem_append_left _ (List.mem_cons_of_mem _ (List.mem_cons_of_mem _ (List.mem_cons_of_mem _ (List.mem_cons_of_mem _ (List.mem_cons_of_mem _ (List.mem_cons_of_mem _ (List.mem_cons_of_mem _ (List.mem_cons_of_mem _ (List.mem_cons_of_mem _ (List.mem_cons_of_mem _ (List.mem_cons_of_mem _ (List.mem_cons_of_mem _ (List.mem_cons_of_mem _ (List.mem_cons_of_mem _ (List.mem_cons_of_mem _ (List.mem_cons_of_mem _ (List.mem_cons_of_mem _ (List.mem_cons_of_mem _ (List.mem_cons_of_mem _ (List.mem_cons_of_mem _ (List.mem_cons_of_mem _ (List.mem_cons_self)))))))))))))))))))))))
theorem u_9_22 : (Cond.selects RX4 yX4_has yX4_has) ∈ uU := uT_8 _ (List.mem_append_left _ (List.mem_cons_of_mem _ (List.mem_cons_of_mem _ (List.mem_cons_of_mem _ (List.mem_cons_of_mem _ (List.mem_cons_of_mem _ (List.mem_cons_of_mem _ (List.mem_cons_of_mem _ (List.mem_cons_of_mem _ (List.mem_cons_of_mem _ (List.mem_cons_of_mem _ (List.mem_cons_of_mem _ (List.mem_cons_of_mem _ (List.mem_cons_of_mem _ (List.mem_cons_of_mem _ (List.mem_cons_of_mem _ (List.mem_cons_of_mem _ (List.mem_cons_of_mem _ (List.mem_cons_of_mem _ (List.mem_cons_of_mem _ (List.mem_cons_of_mem _ (List.mem_cons_of_mem _ (List.mem_cons_of_mem _ (List.mem_cons_self))))))))))))))))))))))))
theorem u_9_23 : (Cond.code yX4_has cX4_has 2 (some .boolean)) ∈ uU := uT_8 _ (List.mem_append_left _ (List.mem_cons_of_mem _ (List.mem_cons_of_mem _ (List.mem_cons_of_mem _ (List.mem_cons_of_mem _ (List.mem_cons_of_mem _ (List.mem_cons_of_mem _ (List.mem_cons_of_mem _ (List.mem_cons_of_mem _ (List.mem_cons_of_mem _ (List.mem_cons_of_mem _ (List.mem_cons_of_mem _ (List.mem_cons_of_mem _ (List.mem_cons_of_mem _ (List.mem_cons_of_mem _ (List.mem_cons_of_mem _ (List.mem_cons_of_mem _ (List.mem_cons_of_mem _ (List.mem_cons_of_mem _ (List.mem_cons_of_mem _ (List.mem_cons_of_mem _ (List.mem_cons_of_mem _ (List.mem_cons_of_mem _ (List.mem_cons_of_mem _ (List.mem_cons_self)))))))))))))))))))))))))
theorem u_10_0 : (Cond.methodLink RX9 86 yX4_tellForm) ∈ uU := uT_9 _ (List.mem_append_left _ (List.mem_cons_self))
theorem u_10_1 : (Cond.instanceMethod yX4_tellForm) ∈ uU := uT_9 _ (List.mem_append_left _ (List.mem_cons_of_mem _ (List.mem_cons_self)))
theorem u_10_2 : (Cond.selects RX4 yX4_tellForm yX4_tellForm) ∈ uU := uT_9 _ (List.mem_append_left _ (List.mem_cons_of_mem _ (List.mem_cons_of_mem _ (List.mem_cons_self))))
theorem u_10_3 : (Cond.code yX4_tellForm cX4_tellForm 5 (some .int)) ∈ uU := uT_9 _ (List.mem_append_left _ (List.mem_cons_of_mem _ (List.mem_cons_of_mem _ (List.mem_cons_of_mem _ (List.mem_cons_self)))))
theorem u_10_4 : (Cond.methodLink RL 22 yX10_form) ∈ uU := uT_9 _ (List.mem_append_left _ (List.mem_cons_of_mem _ (List.mem_cons_of_mem _ (List.mem_cons_of_mem _ (List.mem_cons_of_mem _ (List.mem_cons_self))))))
theorem u_10_5 : (Cond.instanceMethod yX10_form) ∈ uU := uT_9 _ (List.mem_append_left _ (List.mem_cons_of_mem _ (List.mem_cons_of_mem _ (List.mem_cons_of_mem _ (List.mem_cons_of_mem _ (List.mem_cons_of_mem _ (List.mem_cons_self)))))))
theorem u_10_6 : (Cond.selects RX10 yX10_form yX10_form) ∈ uU := uT_9 _ (List.mem_append_left _ (List.mem_cons_of_mem _ (List.mem_cons_of_mem _ (List.mem_cons_of_mem _ (List.mem_cons_of_mem _ (List.mem_cons_of_mem _ (List.mem_cons_of_mem _ (List.mem_cons_self))))))))
theorem u_10_7 : (Cond.code yX10_form cX10_form 5 (some .int)) ∈ uU := uT_9 _ (List.mem_append_left _ (List.mem_cons_of_mem _ (List.mem_cons_of_mem _ (List.mem_cons_of_mem _ (List.mem_cons_of_mem _ (List.mem_cons_of_mem _ (List.mem_cons_of_mem _ (List.mem_cons_of_mem _ (List.mem_cons_self)))))))))
theorem u_10_8 : (Cond.constantLong RX10 136 (7)) ∈ uU := uT_9 _ (List.mem_append_left _ (List.mem_cons_of_mem _ (List.mem_cons_of_mem _ (List.mem_cons_of_mem _ (List.mem_cons_of_mem _ (List.mem_cons_of_mem _ (List.mem_cons_of_mem _ (List.mem_cons_of_mem _ (List.mem_cons_of_mem _ (List.mem_cons_self))))))))))
theorem u_10_9 : (Cond.constantLong RX10 138 (-1)) ∈ uU := uT_9 _ (List.mem_append_left _ (List.mem_cons_of_mem _ (List.mem_cons_of_mem _ (List.mem_cons_of_mem _ (List.mem_cons_of_mem _ (List.mem_cons_of_mem _ (List.mem_cons_of_mem _ (List.mem_cons_of_mem _ (List.mem_cons_of_mem _ (List.mem_cons_of_mem _ (List.mem_cons_self)))))))))))
theorem u_10_10 : (Cond.constantLong RX10 140 (9)) ∈ uU := uT_9 _ (List.mem_append_left _ (List.mem_cons_of_mem _ (List.mem_cons_of_mem _ (List.mem_cons_of_mem _ (List.mem_cons_of_mem _ (List.mem_cons_of_mem _ (List.mem_cons_of_mem _ (List.mem_cons_of_mem _ (List.mem_cons_of_mem _ (List.mem_cons_of_mem _ (List.mem_cons_of_mem _ (List.mem_cons_self))))))))))))
theorem u_10_11 : (Cond.methodLink RX10 133 yX10_isLetter) ∈ uU := uT_9 _ (List.mem_append_left _ (List.mem_cons_of_mem _ (List.mem_cons_of_mem _ (List.mem_cons_of_mem _ (List.mem_cons_of_mem _ (List.mem_cons_of_mem _ (List.mem_cons_of_mem _ (List.mem_cons_of_mem _ (List.mem_cons_of_mem _ (List.mem_cons_of_mem _ (List.mem_cons_of_mem _ (List.mem_cons_of_mem _ (List.mem_cons_self)))))))))))))
theorem u_10_12 : (Cond.instanceMethod yX10_isLetter) ∈ uU := uT_9 _ (List.mem_append_left _ (List.mem_cons_of_mem _ (List.mem_cons_of_mem _ (List.mem_cons_of_mem _ (List.mem_cons_of_mem _ (List.mem_cons_of_mem _ (List.mem_cons_of_mem _ (List.mem_cons_of_mem _ (List.mem_cons_of_mem _ (List.mem_cons_of_mem _ (List.mem_cons_of_mem _ (List.mem_cons_of_mem _ (List.mem_cons_of_mem _ (List.mem_cons_self))))))))))))))
theorem u_10_13 : (Cond.selects RX10 yX10_isLetter yX10_isLetter) ∈ uU := uT_9 _ (List.mem_append_left _ (List.mem_cons_of_mem _ (List.mem_cons_of_mem _ (List.mem_cons_of_mem _ (List.mem_cons_of_mem _ (List.mem_cons_of_mem _ (List.mem_cons_of_mem _ (List.mem_cons_of_mem _ (List.mem_cons_of_mem _ (List.mem_cons_of_mem _ (List.mem_cons_of_mem _ (List.mem_cons_of_mem _ (List.mem_cons_of_mem _ (List.mem_cons_of_mem _ (List.mem_cons_self)))))))))))))))
theorem u_10_14 : (Cond.code yX10_isLetter cX10_isLetter 2 (some .boolean)) ∈ uU := uT_9 _ (List.mem_append_left _ (List.mem_cons_of_mem _ (List.mem_cons_of_mem _ (List.mem_cons_of_mem _ (List.mem_cons_of_mem _ (List.mem_cons_of_mem _ (List.mem_cons_of_mem _ (List.mem_cons_of_mem _ (List.mem_cons_of_mem _ (List.mem_cons_of_mem _ (List.mem_cons_of_mem _ (List.mem_cons_of_mem _ (List.mem_cons_of_mem _ (List.mem_cons_of_mem _ (List.mem_cons_of_mem _ (List.mem_cons_self))))))))))))))))
theorem u_10_15 : (Cond.methodLink RL 23 yX9_cost) ∈ uU := uT_9 _ (List.mem_append_left _ (List.mem_cons_of_mem _ (List.mem_cons_of_mem _ (List.mem_cons_of_mem _ (List.mem_cons_of_mem _ (List.mem_cons_of_mem _ (List.mem_cons_of_mem _ (List.mem_cons_of_mem _ (List.mem_cons_of_mem _ (List.mem_cons_of_mem _ (List.mem_cons_of_mem _ (List.mem_cons_of_mem _ (List.mem_cons_of_mem _ (List.mem_cons_of_mem _ (List.mem_cons_of_mem _ (List.mem_cons_of_mem _ (List.mem_cons_self)))))))))))))))))
theorem u_10_16 : (Cond.instanceMethod yX9_cost) ∈ uU := uT_9 _ (List.mem_append_left _ (List.mem_cons_of_mem _ (List.mem_cons_of_mem _ (List.mem_cons_of_mem _ (List.mem_cons_of_mem _ (List.mem_cons_of_mem _ (List.mem_cons_of_mem _ (List.mem_cons_of_mem _ (List.mem_cons_of_mem _ (List.mem_cons_of_mem _ (List.mem_cons_of_mem _ (List.mem_cons_of_mem _ (List.mem_cons_of_mem _ (List.mem_cons_of_mem _ (List.mem_cons_of_mem _ (List.mem_cons_of_mem _ (List.mem_cons_of_mem _ (List.mem_cons_self))))))))))))))))))
theorem u_10_17 : (Cond.selects RX9 yX9_cost yX9_cost) ∈ uU := uT_9 _ (List.mem_append_left _ (List.mem_cons_of_mem _ (List.mem_cons_of_mem _ (List.mem_cons_of_mem _ (List.mem_cons_of_mem _ (List.mem_cons_of_mem _ (List.mem_cons_of_mem _ (List.mem_cons_of_mem _ (List.mem_cons_of_mem _ (List.mem_cons_of_mem _ (List.mem_cons_of_mem _ (List.mem_cons_of_mem _ (List.mem_cons_of_mem _ (List.mem_cons_of_mem _ (List.mem_cons_of_mem _ (List.mem_cons_of_mem _ (List.mem_cons_of_mem _ (List.mem_cons_of_mem _ (List.mem_cons_self)))))))))))))))))))
theorem u_10_18 : (Cond.code yX9_cost cX9_cost 3 (some .int)) ∈ uU := uT_9 _ (List.mem_append_left _ (List.mem_cons_of_mem _ (List.mem_cons_of_mem _ (List.mem_cons_of_mem _ (List.mem_cons_of_mem _ (List.mem_cons_of_mem _ (List.mem_cons_of_mem _ (List.mem_cons_of_mem _ (List.mem_cons_of_mem _ (List.mem_cons_of_mem _ (List.mem_cons_of_mem _ (List.mem_cons_of_mem _ (List.mem_cons_of_mem _ (List.mem_cons_of_mem _ (List.mem_cons_of_mem _ (List.mem_cons_of_mem _ (List.mem_cons_of_mem _ (List.mem_cons_of_mem _ (List.mem_cons_of_mem _ (List.mem_cons_self))))))))))))))))))))
theorem u_10_19 : (Cond.methodLink RX9 90 yX4_tellCost) ∈ uU := uT_9 _ (List.mem_append_left _ (List.mem_cons_of_mem _ (List.mem_cons_of_mem _ (List.mem_cons_of_mem _ (List.mem_cons_of_mem _ (List.mem_cons_of_mem _ (List.mem_cons_of_mem _ (List.mem_cons_of_mem _ (List.mem_cons_of_mem _ (List.mem_cons_of_mem _ (List.mem_cons_of_mem _ (List.mem_cons_of_mem _ (List.mem_cons_of_mem _ (List.mem_cons_of_mem _ (List.mem_cons_of_mem _ (List.mem_cons_of_mem _ (List.mem_cons_of_mem _ (List.mem_cons_of_mem _ (List.mem_cons_of_mem _ (List.mem_cons_of_mem _ (List.mem_cons_self)))))))))))))))))))))
theorem u_10_20 : (Cond.instanceMethod yX4_tellCost) ∈ uU := uT_9 _ (List.mem_append_left _ (List.mem_cons_of_mem _ (List.mem_cons_of_mem _ (List.mem_cons_of_mem _ (List.mem_cons_of_mem _ (List.mem_cons_of_mem _ (List.mem_cons_of_mem _ (List.mem_cons_of_mem _ (List.mem_cons_of_mem _ (List.mem_cons_of_mem _ (List.mem_cons_of_mem _ (List.mem_cons_of_mem _ (List.mem_cons_of_mem _ (List.mem_cons_of_mem _ (List.mem_cons_of_mem _ (List.mem_cons_of_mem _ (List.mem_cons_of_mem _ (List.mem_cons_of_mem _ (List.mem_cons_of_mem _ (List.mem_cons_of_mem _ (List.mem_cons_of_mem _ (List.mem_cons_self))))))))))))))))))))))
theorem u_10_21 : (Cond.selects RX4 yX4_tellCost yX4_tellCost) ∈ uU := uT_9 _ (List.mem_append_left _ (List.mem_cons_of_mem _ (List.mem_cons_of_mem _ (List.mem_cons_of_mem _ (List.mem_cons_of_mem _ (List.mem_cons_of_mem _ (List.mem_cons_of_mem _ (List.mem_cons_of_mem _ (List.mem_cons_of_mem _ (List.mem_cons_of_mem _ (List.mem_cons_of_mem _ (List.mem_cons_of_mem _ (List.mem_cons_of_mem _ (List.mem_cons_of_mem _ (List.mem_cons_of_mem _ (List.mem_cons_of_mem _ (List.mem_cons_of_mem _ (List.mem_cons_of_mem _ (List.mem_cons_of_mem _ (List.mem_cons_of_mem _ (List.mem_cons_of_mem _ (List.mem_cons_of_mem _ (List.mem_cons_self)))))))))))))))))))))))
theorem u_10_22 : (Cond.code yX4_tellCost cX4_tellCost 4 (some .int)) ∈ uU := uT_9 _ (List.mem_append_left _ (List.mem_cons_of_mem _ (List.mem_cons_of_mem _ (List.mem_cons_of_mem _ (List.mem_cons_of_mem _ (List.mem_cons_of_mem _ (List.mem_cons_of_mem _ (List.mem_cons_of_mem _ (List.mem_cons_of_mem _ (List.mem_cons_of_mem _ (List.mem_cons_of_mem _ (List.mem_cons_of_mem _ (List.mem_cons_of_mem _ (List.mem_cons_of_mem _ (List.mem_cons_of_mem _ (List.mem_cons_of_mem _ (List.mem_cons_of_mem _ (List.mem_cons_of_mem _ (List.mem_cons_of_mem _ (List.mem_cons_of_mem _ (List.mem_cons_of_mem _ (List.mem_cons_of_mem _ (List.mem_cons_of_mem _ (List.mem_cons_self))))))))))))))))))))))))
theorem u_10_23 : (Cond.methodLink RL 26 yX10_cost) ∈ uU := uT_9 _ (List.mem_append_left _ (List.mem_cons_of_mem _ (List.mem_cons_of_mem _ (List.mem_cons_of_mem _ (List.mem_cons_of_mem _ (List.mem_cons_of_mem _ (List.mem_cons_of_mem _ (List.mem_cons_of_mem _ (List.mem_cons_of_mem _ (List.mem_cons_of_mem _ (List.mem_cons_of_mem _ (List.mem_cons_of_mem _ (List.mem_cons_of_mem _ (List.mem_cons_of_mem _ (List.mem_cons_of_mem _ (List.mem_cons_of_mem _ (List.mem_cons_of_mem _ (List.mem_cons_of_mem _ (List.mem_cons_of_mem _ (List.mem_cons_of_mem _ (List.mem_cons_of_mem _ (List.mem_cons_of_mem _ (List.mem_cons_of_mem _ (List.mem_cons_of_mem _ (List.mem_cons_self)))))))))))))))))))))))))
theorem u_11_0 : (Cond.instanceMethod yX10_cost) ∈ uU := uT_10 _ (List.mem_append_left _ (List.mem_cons_self))
theorem u_11_1 : (Cond.selects RX10 yX10_cost yX10_cost) ∈ uU := uT_10 _ (List.mem_append_left _ (List.mem_cons_of_mem _ (List.mem_cons_self)))
theorem u_11_2 : (Cond.code yX10_cost cX10_cost 4 (some .int)) ∈ uU := uT_10 _ (List.mem_append_left _ (List.mem_cons_of_mem _ (List.mem_cons_of_mem _ (List.mem_cons_self))))
theorem u_11_3 : (Cond.constantLong RX10 142 (4)) ∈ uU := uT_10 _ (List.mem_append_left _ (List.mem_cons_of_mem _ (List.mem_cons_of_mem _ (List.mem_cons_of_mem _ (List.mem_cons_self)))))
theorem u_11_4 : (Cond.methodLink RL 27 yX9_price) ∈ uU := uT_10 _ (List.mem_append_left _ (List.mem_cons_of_mem _ (List.mem_cons_of_mem _ (List.mem_cons_of_mem _ (List.mem_cons_of_mem _ (List.mem_cons_self))))))
theorem u_11_5 : (Cond.instanceMethod yX9_price) ∈ uU := uT_10 _ (List.mem_append_left _ (List.mem_cons_of_mem _ (List.mem_cons_of_mem _ (List.mem_cons_of_mem _ (List.mem_cons_of_mem _ (List.mem_cons_of_mem _ (List.mem_cons_self)))))))
theorem u_11_6 : (Cond.selects RX9 yX9_price yX9_price) ∈ uU := uT_10 _ (List.mem_append_left _ (List.mem_cons_of_mem _ (List.mem_cons_of_mem _ (List.mem_cons_of_mem _ (List.mem_cons_of_mem _ (List.mem_cons_of_mem _ (List.mem_cons_of_mem _ (List.mem_cons_self))))))))
theorem u_11_7 : (Cond.code yX9_price cX9_price 3 (some .int)) ∈ uU := uT_10 _ (List.mem_append_left _ (List.mem_cons_of_mem _ (List.mem_cons_of_mem _ (List.mem_cons_of_mem _ (List.mem_cons_of_mem _ (List.mem_cons_of_mem _ (List.mem_cons_of_mem _ (List.mem_cons_of_mem _ (List.mem_cons_self)))))))))
theorem u_11_8 : (Cond.methodLink RX9 93 yX4_sources) ∈ uU := uT_10 _ (List.mem_append_left _ (List.mem_cons_of_mem _ (List.mem_cons_of_mem _ (List.mem_cons_of_mem _ (List.mem_cons_of_mem _ (List.mem_cons_of_mem _ (List.mem_cons_of_mem _ (List.mem_cons_of_mem _ (List.mem_cons_of_mem _ (List.mem_cons_self))))))))))
theorem u_11_9 : (Cond.instanceMethod yX4_sources) ∈ uU := uT_10 _ (List.mem_append_left _ (List.mem_cons_of_mem _ (List.mem_cons_of_mem _ (List.mem_cons_of_mem _ (List.mem_cons_of_mem _ (List.mem_cons_of_mem _ (List.mem_cons_of_mem _ (List.mem_cons_of_mem _ (List.mem_cons_of_mem _ (List.mem_cons_of_mem _ (List.mem_cons_self)))))))))))
theorem u_11_10 : (Cond.selects RX4 yX4_sources yX4_sources) ∈ uU := uT_10 _ (List.mem_append_left _ (List.mem_cons_of_mem _ (List.mem_cons_of_mem _ (List.mem_cons_of_mem _ (List.mem_cons_of_mem _ (List.mem_cons_of_mem _ (List.mem_cons_of_mem _ (List.mem_cons_of_mem _ (List.mem_cons_of_mem _ (List.mem_cons_of_mem _ (List.mem_cons_of_mem _ (List.mem_cons_self))))))))))))
theorem u_11_11 : (Cond.code yX4_sources cX4_sources 6 (some .int)) ∈ uU := uT_10 _ (List.mem_append_left _ (List.mem_cons_of_mem _ (List.mem_cons_of_mem _ (List.mem_cons_of_mem _ (List.mem_cons_of_mem _ (List.mem_cons_of_mem _ (List.mem_cons_of_mem _ (List.mem_cons_of_mem _ (List.mem_cons_of_mem _ (List.mem_cons_of_mem _ (List.mem_cons_of_mem _ (List.mem_cons_of_mem _ (List.mem_cons_self)))))))))))))
theorem u_11_12 : (Cond.methodLink RX4 35 yX4_has) ∈ uU := uT_10 _ (List.mem_append_left _ (List.mem_cons_of_mem _ (List.mem_cons_of_mem _ (List.mem_cons_of_mem _ (List.mem_cons_of_mem _ (List.mem_cons_of_mem _ (List.mem_cons_of_mem _ (List.mem_cons_of_mem _ (List.mem_cons_of_mem _ (List.mem_cons_of_mem _ (List.mem_cons_of_mem _ (List.mem_cons_of_mem _ (List.mem_cons_of_mem _ (List.mem_cons_self))))))))))))))
theorem u_11_13 : (Cond.methodLink RX4 39 yX4_isOther) ∈ uU := uT_10 _ (List.mem_append_left _ (List.mem_cons_of_mem _ (List.mem_cons_of_mem _ (List.mem_cons_of_mem _ (List.mem_cons_of_mem _ (List.mem_cons_of_mem _ (List.mem_cons_of_mem _ (List.mem_cons_of_mem _ (List.mem_cons_of_mem _ (List.mem_cons_of_mem _ (List.mem_cons_of_mem _ (List.mem_cons_of_mem _ (List.mem_cons_of_mem _ (List.mem_cons_of_mem _ (List.mem_cons_self)))))))))))))))
theorem u_11_14 : (Cond.instanceMethod yX4_isOther) ∈ uU := uT_10 _ (List.mem_append_left _ (List.mem_cons_of_mem _ (List.mem_cons_of_mem _ (List.mem_cons_of_mem _ (List.mem_cons_of_mem _ (List.mem_cons_of_mem _ (List.mem_cons_of_mem _ (List.mem_cons_of_mem _ (List.mem_cons_of_mem _ (List.mem_cons_of_mem _ (List.mem_cons_of_mem _ (List.mem_cons_of_mem _ (List.mem_cons_of_mem _ (List.mem_cons_of_mem _ (List.mem_cons_of_mem _ (List.mem_cons_self))))))))))))))))
theorem u_11_15 : (Cond.selects RX4 yX4_isOther yX4_isOther) ∈ uU := uT_10 _ (List.mem_append_left _ (List.mem_cons_of_mem _ (List.mem_cons_of_mem _ (List.mem_cons_of_mem _ (List.mem_cons_of_mem _ (List.mem_cons_of_mem _ (List.mem_cons_of_mem _ (List.mem_cons_of_mem _ (List.mem_cons_of_mem _ (List.mem_cons_of_mem _ (List.mem_cons_of_mem _ (List.mem_cons_of_mem _ (List.mem_cons_of_mem _ (List.mem_cons_of_mem _ (List.mem_cons_of_mem _ (List.mem_cons_of_mem _ (List.mem_cons_self)))))))))))))))))
theorem u_11_16 : (Cond.code yX4_isOther cX4_isOther 3 (some .boolean)) ∈ uU := uT_10 _ (List.mem_append_left _ (List.mem_cons_of_mem _ (List.mem_cons_of_mem _ (List.mem_cons_of_mem _ (List.mem_cons_of_mem _ (List.mem_cons_of_mem _ (List.mem_cons_of_mem _ (List.mem_cons_of_mem _ (List.mem_cons_of_mem _ (List.mem_cons_of_mem _ (List.mem_cons_of_mem _ (List.mem_cons_of_mem _ (List.mem_cons_of_mem _ (List.mem_cons_of_mem _ (List.mem_cons_of_mem _ (List.mem_cons_of_mem _ (List.mem_cons_of_mem _ (List.mem_cons_self))))))))))))))))))
theorem u_11_17 : (Cond.methodLink RX9 96 yX4_refresh) ∈ uU := uT_10 _ (List.mem_append_left _ (List.mem_cons_of_mem _ (List.mem_cons_of_mem _ (List.mem_cons_of_mem _ (List.mem_cons_of_mem _ (List.mem_cons_of_mem _ (List.mem_cons_of_mem _ (List.mem_cons_of_mem _ (List.mem_cons_of_mem _ (List.mem_cons_of_mem _ (List.mem_cons_of_mem _ (List.mem_cons_of_mem _ (List.mem_cons_of_mem _ (List.mem_cons_of_mem _ (List.mem_cons_of_mem _ (List.mem_cons_of_mem _ (List.mem_cons_of_mem _ (List.mem_cons_of_mem _ (List.mem_cons_self)))))))))))))))))))
theorem u_11_18 : (Cond.instanceMethod yX4_refresh) ∈ uU := uT_10 _ (List.mem_append_left _ (List.mem_cons_of_mem _ (List.mem_cons_of_mem _ (List.mem_cons_of_mem _ (List.mem_cons_of_mem _ (List.mem_cons_of_mem _ (List.mem_cons_of_mem _ (List.mem_cons_of_mem _ (List.mem_cons_of_mem _ (List.mem_cons_of_mem _ (List.mem_cons_of_mem _ (List.mem_cons_of_mem _ (List.mem_cons_of_mem _ (List.mem_cons_of_mem _ (List.mem_cons_of_mem _ (List.mem_cons_of_mem _ (List.mem_cons_of_mem _ (List.mem_cons_of_mem _ (List.mem_cons_of_mem _ (List.mem_cons_self))))))))))))))))))))
theorem u_11_19 : (Cond.selects RX4 yX4_refresh yX4_refresh) ∈ uU := uT_10 _ (List.mem_append_left _ (List.mem_cons_of_mem _ (List.mem_cons_of_mem _ (List.mem_cons_of_mem _ (List.mem_cons_of_mem _ (List.mem_cons_of_mem _ (List.mem_cons_of_mem _ (List.mem_cons_of_mem _ (List.mem_cons_of_mem _ (List.mem_cons_of_mem _ (List.mem_cons_of_mem _ (List.mem_cons_of_mem _ (List.mem_cons_of_mem _ (List.mem_cons_of_mem _ (List.mem_cons_of_mem _ (List.mem_cons_of_mem _ (List.mem_cons_of_mem _ (List.mem_cons_of_mem _ (List.mem_cons_of_mem _ (List.mem_cons_of_mem _ (List.mem_cons_self)))))))))))))))))))))
theorem u_11_20 : (Cond.code yX4_refresh cX4_refresh 3 none) ∈ uU := uT_10 _ (List.mem_append_left _ (List.mem_cons_of_mem _ (List.mem_cons_of_mem _ (List.mem_cons_of_mem _ (List.mem_cons_of_mem _ (List.mem_cons_of_mem _ (List.mem_cons_of_mem _ (List.mem_cons_of_mem _ (List.mem_cons_of_mem _ (List.mem_cons_of_mem _ (List.mem_cons_of_mem _ (List.mem_cons_of_mem _ (List.mem_cons_of_mem _ (List.mem_cons_of_mem _ (List.mem_cons_of_mem _ (List.mem_cons_of_mem _ (List.mem_cons_of_mem _ (List.mem_cons_of_mem _ (List.mem_cons_of_mem _ (List.mem_cons_of_mem _ (List.mem_cons_of_mem _ (List.mem_cons_self))))))))))))))))))))))
theorem u_11_21 : (Cond.methodLink RX4 55 yX4_sumUp) ∈ uU := uT_10 _ (List.mem_append_left _ (List.mem_cons_of_mem _ (List.mem_cons_of_mem _ (List.mem_cons_of_mem _ (List.mem_cons_of_mem _ (List.mem_cons_of_mem _ (List.mem_cons_of_mem _ (List.mem_cons_of_mem _ (List.mem_cons_of_mem _ (List.mem_cons_of_mem _ (List.mem_cons_of_mem _ (List.mem_cons_of_mem _ (List.mem_cons_of_mem _ (List.mem_cons_of_mem _ (List.mem_cons_of_mem _ (List.mem_cons_of_mem _ (List.mem_cons_of_mem _ (List.mem_cons_of_mem _ (List.mem_cons_of_mem _ (List.mem_cons_of_mem _ (List.mem_cons_of_mem _ (List.mem_cons_of_mem _ (List.mem_cons_self)))))))))))))))))))))))
theorem u_11_22 : (Cond.instanceMethod yX4_sumUp) ∈ uU := uT_10 _ (List.mem_append_left _ (List.mem_cons_of_mem _ (List.mem_cons_of_mem _ (List.mem_cons_of_mem _ (List.mem_cons_of_mem _ (List.mem_cons_of_mem _ (List.mem_cons_of_mem _ (List.mem_cons_of_mem _ (List.mem_cons_of_mem _ (List.mem_cons_of_mem _ (List.mem_cons_of_mem _ (List.mem_cons_of_mem _ (List.mem_cons_of_mem _ (List.mem_cons_of_mem _ (List.mem_cons_of_mem _ (List.mem_cons_of_mem _ (List.mem_cons_of_mem _ (List.mem_cons_of_mem _ (List.mem_cons_of_mem _ (List.mem_cons_of_mem _ (List.mem_cons_of_mem _ (List.mem_cons_of_mem _ (List.mem_cons_of_mem _ (List.mem_cons_self))))))))))))))))))))))))
theorem u_11_23 : (Cond.selects RX4 yX4_sumUp yX4_sumUp) ∈ uU := uT_10 _ (List.mem_append_left _ (List.mem_cons_of_mem _ (List.mem_cons_of_mem _ (List.mem_cons_of_mem _ (List.mem_cons_of_mem _ (List.mem_cons_of_mem _ (List.mem_cons_of_mem _ (List.mem_cons_of_mem _ (List.mem_cons_of_mem _ (List.mem_cons_of_mem _ (List.mem_cons_of_mem _ (List.mem_cons_of_mem _ (List.mem_cons_of_mem _ (List.mem_cons_of_mem _ (List.mem_cons_of_mem _ (List.mem_cons_of_mem _ (List.mem_cons_of_mem _ (List.mem_cons_of_mem _ (List.mem_cons_of_mem _ (List.mem_cons_of_mem _ (List.mem_cons_of_mem _ (List.mem_cons_of_mem _ (List.mem_cons_of_mem _ (List.mem_cons_of_mem _ (List.mem_cons_self)))))))))))))))))))))))))
theorem u_12_0 : (Cond.code yX4_sumUp cX4_sumUp 6 none) ∈ uU := uT_11 _ (List.mem_append_left _ (List.mem_cons_self))
theorem u_12_1 : (Cond.methodLink RX4 59 yX4_costOfSentence) ∈ uU := uT_11 _ (List.mem_append_left _ (List.mem_cons_of_mem _ (List.mem_cons_self)))
theorem u_12_2 : (Cond.instanceMethod yX4_costOfSentence) ∈ uU := uT_11 _ (List.mem_append_left _ (List.mem_cons_of_mem _ (List.mem_cons_of_mem _ (List.mem_cons_self))))
theorem u_12_3 : (Cond.selects RX4 yX4_costOfSentence yX4_costOfSentence) ∈ uU := uT_11 _ (List.mem_append_left _ (List.mem_cons_of_mem _ (List.mem_cons_of_mem _ (List.mem_cons_of_mem _ (List.mem_cons_self)))))
theorem u_12_4 : (Cond.code yX4_costOfSentence cX4_costOfSentence 3 (some .int)) ∈ uU := uT_11 _ (List.mem_append_left _ (List.mem_cons_of_mem _ (List.mem_cons_of_mem _ (List.mem_cons_of_mem _ (List.mem_cons_of_mem _ (List.mem_cons_self))))))
theorem u_12_5 : (Cond.methodLink RX9 99 yX4_priceOf) ∈ uU := uT_11 _ (List.mem_append_left _ (List.mem_cons_of_mem _ (List.mem_cons_of_mem _ (List.mem_cons_of_mem _ (List.mem_cons_of_mem _ (List.mem_cons_of_mem _ (List.mem_cons_self)))))))
theorem u_12_6 : (Cond.instanceMethod yX4_priceOf) ∈ uU := uT_11 _ (List.mem_append_left _ (List.mem_cons_of_mem _ (List.mem_cons_of_mem _ (List.mem_cons_of_mem _ (List.mem_cons_of_mem _ (List.mem_cons_of_mem _ (List.mem_cons_of_mem _ (List.mem_cons_self))))))))
theorem u_12_7 : (Cond.selects RX4 yX4_priceOf yX4_priceOf) ∈ uU := uT_11 _ (List.mem_append_left _ (List.mem_cons_of_mem _ (List.mem_cons_of_mem _ (List.mem_cons_of_mem _ (List.mem_cons_of_mem _ (List.mem_cons_of_mem _ (List.mem_cons_of_mem _ (List.mem_cons_of_mem _ (List.mem_cons_self)))))))))
theorem u_12_8 : (Cond.code yX4_priceOf cX4_priceOf 6 (some .int)) ∈ uU := uT_11 _ (List.mem_append_left _ (List.mem_cons_of_mem _ (List.mem_cons_of_mem _ (List.mem_cons_of_mem _ (List.mem_cons_of_mem _ (List.mem_cons_of_mem _ (List.mem_cons_of_mem _ (List.mem_cons_of_mem _ (List.mem_cons_of_mem _ (List.mem_cons_self))))))))))
theorem u_12_9 : (Cond.methodLink RX4 43 yX4_priceFirst) ∈ uU := uT_11 _ (List.mem_append_left _ (List.mem_cons_of_mem _ (List.mem_cons_of_mem _ (List.mem_cons_of_mem _ (List.mem_cons_of_mem _ (List.mem_cons_of_mem _ (List.mem_cons_of_mem _ (List.mem_cons_of_mem _ (List.mem_cons_of_mem _ (List.mem_cons_of_mem _ (List.mem_cons_self)))))))))))
theorem u_12_10 : (Cond.instanceMethod yX4_priceFirst) ∈ uU := uT_11 _ (List.mem_append_left _ (List.mem_cons_of_mem _ (List.mem_cons_of_mem _ (List.mem_cons_of_mem _ (List.mem_cons_of_mem _ (List.mem_cons_of_mem _ (List.mem_cons_of_mem _ (List.mem_cons_of_mem _ (List.mem_cons_of_mem _ (List.mem_cons_of_mem _ (List.mem_cons_of_mem _ (List.mem_cons_self))))))))))))
theorem u_12_11 : (Cond.selects RX4 yX4_priceFirst yX4_priceFirst) ∈ uU := uT_11 _ (List.mem_append_left _ (List.mem_cons_of_mem _ (List.mem_cons_of_mem _ (List.mem_cons_of_mem _ (List.mem_cons_of_mem _ (List.mem_cons_of_mem _ (List.mem_cons_of_mem _ (List.mem_cons_of_mem _ (List.mem_cons_of_mem _ (List.mem_cons_of_mem _ (List.mem_cons_of_mem _ (List.mem_cons_of_mem _ (List.mem_cons_self)))))))))))))
theorem u_12_12 : (Cond.code yX4_priceFirst cX4_priceFirst 4 (some .int)) ∈ uU := uT_11 _ (List.mem_append_left _ (List.mem_cons_of_mem _ (List.mem_cons_of_mem _ (List.mem_cons_of_mem _ (List.mem_cons_of_mem _ (List.mem_cons_of_mem _ (List.mem_cons_of_mem _ (List.mem_cons_of_mem _ (List.mem_cons_of_mem _ (List.mem_cons_of_mem _ (List.mem_cons_of_mem _ (List.mem_cons_of_mem _ (List.mem_cons_of_mem _ (List.mem_cons_self))))))))))))))
theorem u_12_13 : (Cond.methodLink RX4 47 yX4_priceCopied) ∈ uU := uT_11 _ (List.mem_append_left _ (List.mem_cons_of_mem _ (List.mem_cons_of_mem _ (List.mem_cons_of_mem _ (List.mem_cons_of_mem _ (List.mem_cons_of_mem _ (List.mem_cons_of_mem _ (List.mem_cons_of_mem _ (List.mem_cons_of_mem _ (List.mem_cons_of_mem _ (List.mem_cons_of_mem _ (List.mem_cons_of_mem _ (List.mem_cons_of_mem _ (List.mem_cons_of_mem _ (List.mem_cons_self)))))))))))))))
theorem u_12_14 : (Cond.instanceMethod yX4_priceCopied) ∈ uU := uT_11 _ (List.mem_append_left _ (List.mem_cons_of_mem _ (List.mem_cons_of_mem _ (List.mem_cons_of_mem _ (List.mem_cons_of_mem _ (List.mem_cons_of_mem _ (List.mem_cons_of_mem _ (List.mem_cons_of_mem _ (List.mem_cons_of_mem _ (List.mem_cons_of_mem _ (List.mem_cons_of_mem _ (List.mem_cons_of_mem _ (List.mem_cons_of_mem _ (List.mem_cons_of_mem _ (List.mem_cons_of_mem _ (List.mem_cons_self))))))))))))))))
theorem u_12_15 : (Cond.selects RX4 yX4_priceCopied yX4_priceCopied) ∈ uU := uT_11 _ (List.mem_append_left _ (List.mem_cons_of_mem _ (List.mem_cons_of_mem _ (List.mem_cons_of_mem _ (List.mem_cons_of_mem _ (List.mem_cons_of_mem _ (List.mem_cons_of_mem _ (List.mem_cons_of_mem _ (List.mem_cons_of_mem _ (List.mem_cons_of_mem _ (List.mem_cons_of_mem _ (List.mem_cons_of_mem _ (List.mem_cons_of_mem _ (List.mem_cons_of_mem _ (List.mem_cons_of_mem _ (List.mem_cons_of_mem _ (List.mem_cons_self)))))))))))))))))
theorem u_12_16 : (Cond.code yX4_priceCopied cX4_priceCopied 3 (some .int)) ∈ uU := uT_11 _ (List.mem_append_left _ (List.mem_cons_of_mem _ (List.mem_cons_of_mem _ (List.mem_cons_of_mem _ (List.mem_cons_of_mem _ (List.mem_cons_of_mem _ (List.mem_cons_of_mem _ (List.mem_cons_of_mem _ (List.mem_cons_of_mem _ (List.mem_cons_of_mem _ (List.mem_cons_of_mem _ (List.mem_cons_of_mem _ (List.mem_cons_of_mem _ (List.mem_cons_of_mem _ (List.mem_cons_of_mem _ (List.mem_cons_of_mem _ (List.mem_cons_of_mem _ (List.mem_cons_self))))))))))))))))))
theorem u_12_17 : (Cond.methodLink RX4 51 yX4_priceJoined) ∈ uU := uT_11 _ (List.mem_append_left _ (List.mem_cons_of_mem _ (List.mem_cons_of_mem _ (List.mem_cons_of_mem _ (List.mem_cons_of_mem _ (List.mem_cons_of_mem _ (List.mem_cons_of_mem _ (List.mem_cons_of_mem _ (List.mem_cons_of_mem _ (List.mem_cons_of_mem _ (List.mem_cons_of_mem _ (List.mem_cons_of_mem _ (List.mem_cons_of_mem _ (List.mem_cons_of_mem _ (List.mem_cons_of_mem _ (List.mem_cons_of_mem _ (List.mem_cons_of_mem _ (List.mem_cons_of_mem _ (List.mem_cons_self)))))))))))))))))))
theorem u_12_18 : (Cond.instanceMethod yX4_priceJoined) ∈ uU := uT_11 _ (List.mem_append_left _ (List.mem_cons_of_mem _ (List.mem_cons_of_mem _ (List.mem_cons_of_mem _ (List.mem_cons_of_mem _ (List.mem_cons_of_mem _ (List.mem_cons_of_mem _ (List.mem_cons_of_mem _ (List.mem_cons_of_mem _ (List.mem_cons_of_mem _ (List.mem_cons_of_mem _ (List.mem_cons_of_mem _ (List.mem_cons_of_mem _ (List.mem_cons_of_mem _ (List.mem_cons_of_mem _ (List.mem_cons_of_mem _ (List.mem_cons_of_mem _ (List.mem_cons_of_mem _ (List.mem_cons_of_mem _ (List.mem_cons_self))))))))))))))))))))
theorem u_12_19 : (Cond.selects RX4 yX4_priceJoined yX4_priceJoined) ∈ uU := uT_11 _ (List.mem_append_left _ (List.mem_cons_of_mem _ (List.mem_cons_of_mem _ (List.mem_cons_of_mem _ (List.mem_cons_of_mem _ (List.mem_cons_of_mem _ (List.mem_cons_of_mem _ (List.mem_cons_of_mem _ (List.mem_cons_of_mem _ (List.mem_cons_of_mem _ (List.mem_cons_of_mem _ (List.mem_cons_of_mem _ (List.mem_cons_of_mem _ (List.mem_cons_of_mem _ (List.mem_cons_of_mem _ (List.mem_cons_of_mem _ (List.mem_cons_of_mem _ (List.mem_cons_of_mem _ (List.mem_cons_of_mem _ (List.mem_cons_of_mem _ (List.mem_cons_self)))))))))))))))))))))
theorem u_12_20 : (Cond.code yX4_priceJoined cX4_priceJoined 7 (some .int)) ∈ uU := uT_11 _ (List.mem_append_left _ (List.mem_cons_of_mem _ (List.mem_cons_of_mem _ (List.mem_cons_of_mem _ (List.mem_cons_of_mem _ (List.mem_cons_of_mem _ (List.mem_cons_of_mem _ (List.mem_cons_of_mem _ (List.mem_cons_of_mem _ (List.mem_cons_of_mem _ (List.mem_cons_of_mem _ (List.mem_cons_of_mem _ (List.mem_cons_of_mem _ (List.mem_cons_of_mem _ (List.mem_cons_of_mem _ (List.mem_cons_of_mem _ (List.mem_cons_of_mem _ (List.mem_cons_of_mem _ (List.mem_cons_of_mem _ (List.mem_cons_of_mem _ (List.mem_cons_of_mem _ (List.mem_cons_self))))))))))))))))))))))
theorem u_12_21 : (Cond.methodLink RL 30 yX10_price) ∈ uU := uT_11 _ (List.mem_append_left _ (List.mem_cons_of_mem _ (List.mem_cons_of_mem _ (List.mem_cons_of_mem _ (List.mem_cons_of_mem _ (List.mem_cons_of_mem _ (List.mem_cons_of_mem _ (List.mem_cons_of_mem _ (List.mem_cons_of_mem _ (List.mem_cons_of_mem _ (List.mem_cons_of_mem _ (List.mem_cons_of_mem _ (List.mem_cons_of_mem _ (List.mem_cons_of_mem _ (List.mem_cons_of_mem _ (List.mem_cons_of_mem _ (List.mem_cons_of_mem _ (List.mem_cons_of_mem _ (List.mem_cons_of_mem _ (List.mem_cons_of_mem _ (List.mem_cons_of_mem _ (List.mem_cons_of_mem _ (List.mem_cons_self)))))))))))))))))))))))
theorem u_12_22 : (Cond.instanceMethod yX10_price) ∈ uU := uT_11 _ (List.mem_append_left _ (List.mem_cons_of_mem _ (List.mem_cons_of_mem _ (List.mem_cons_of_mem _ (List.mem_cons_of_mem _ (List.mem_cons_of_mem _ (List.mem_cons_of_mem _ (List.mem_cons_of_mem _ (List.mem_cons_of_mem _ (List.mem_cons_of_mem _ (List.mem_cons_of_mem _ (List.mem_cons_of_mem _ (List.mem_cons_of_mem _ (List.mem_cons_of_mem _ (List.mem_cons_of_mem _ (List.mem_cons_of_mem _ (List.mem_cons_of_mem _ (List.mem_cons_of_mem _ (List.mem_cons_of_mem _ (List.mem_cons_of_mem _ (List.mem_cons_of_mem _ (List.mem_cons_of_mem _ (List.mem_cons_of_mem _ (List.mem_cons_self))))))))))))))))))))))))
theorem u_12_23 : (Cond.selects RX10 yX10_price yX10_price) ∈ uU := uT_11 _ (List.mem_append_left _ (List.mem_cons_of_mem _ (List.mem_cons_of_mem _ (List.mem_cons_of_mem _ (List.mem_cons_of_mem _ (List.mem_cons_of_mem _ (List.mem_cons_of_mem _ (List.mem_cons_of_mem _ (List.mem_cons_of_mem _ (List.mem_cons_of_mem _ (List.mem_cons_of_mem _ (List.mem_cons_of_mem _ (List.mem_cons_of_mem _ (List.mem_cons_of_mem _ (List.mem_cons_of_mem _ (List.mem_cons_of_mem _ (List.mem_cons_of_mem _ (List.mem_cons_of_mem _ (List.mem_cons_of_mem _ (List.mem_cons_of_mem _ (List.mem_cons_of_mem _ (List.mem_cons_of_mem _ (List.mem_cons_of_mem _ (List.mem_cons_of_mem _ (List.mem_cons_self)))))))))))))))))))))))))
theorem u_13_0 : (Cond.code yX10_price cX10_price 3 (some .int)) ∈ uU := uT_12 _ (List.mem_append_left _ (List.mem_cons_self))
theorem u_13_1 : (Cond.methodLink RX10 164 yX10_isWay) ∈ uU := uT_12 _ (List.mem_append_left _ (List.mem_cons_of_mem _ (List.mem_cons_self)))
theorem u_13_2 : (Cond.instanceMethod yX10_isWay) ∈ uU := uT_12 _ (List.mem_append_left _ (List.mem_cons_of_mem _ (List.mem_cons_of_mem _ (List.mem_cons_self))))
theorem u_13_3 : (Cond.selects RX10 yX10_isWay yX10_isWay) ∈ uU := uT_12 _ (List.mem_append_left _ (List.mem_cons_of_mem _ (List.mem_cons_of_mem _ (List.mem_cons_of_mem _ (List.mem_cons_self)))))
theorem u_13_4 : (Cond.code yX10_isWay cX10_isWay 6 (some .boolean)) ∈ uU := uT_12 _ (List.mem_append_left _ (List.mem_cons_of_mem _ (List.mem_cons_of_mem _ (List.mem_cons_of_mem _ (List.mem_cons_of_mem _ (List.mem_cons_self))))))
theorem u_13_5 : (Cond.constantLong RX10 144 (8)) ∈ uU := uT_12 _ (List.mem_append_left _ (List.mem_cons_of_mem _ (List.mem_cons_of_mem _ (List.mem_cons_of_mem _ (List.mem_cons_of_mem _ (List.mem_cons_of_mem _ (List.mem_cons_self)))))))
theorem u_13_6 : (Cond.constantLong RX10 146 (20)) ∈ uU := uT_12 _ (List.mem_append_left _ (List.mem_cons_of_mem _ (List.mem_cons_of_mem _ (List.mem_cons_of_mem _ (List.mem_cons_of_mem _ (List.mem_cons_of_mem _ (List.mem_cons_of_mem _ (List.mem_cons_self))))))))
theorem u_13_7 : (Cond.constantLong RX10 148 (531)) ∈ uU := uT_12 _ (List.mem_append_left _ (List.mem_cons_of_mem _ (List.mem_cons_of_mem _ (List.mem_cons_of_mem _ (List.mem_cons_of_mem _ (List.mem_cons_of_mem _ (List.mem_cons_of_mem _ (List.mem_cons_of_mem _ (List.mem_cons_self)))))))))
theorem u_13_8 : (Cond.methodLink RX10 150 yX10_firstOf) ∈ uU := uT_12 _ (List.mem_append_left _ (List.mem_cons_of_mem _ (List.mem_cons_of_mem _ (List.mem_cons_of_mem _ (List.mem_cons_of_mem _ (List.mem_cons_of_mem _ (List.mem_cons_of_mem _ (List.mem_cons_of_mem _ (List.mem_cons_of_mem _ (List.mem_cons_self))))))))))
theorem u_13_9 : (Cond.instanceMethod yX10_firstOf) ∈ uU := uT_12 _ (List.mem_append_left _ (List.mem_cons_of_mem _ (List.mem_cons_of_mem _ (List.mem_cons_of_mem _ (List.mem_cons_of_mem _ (List.mem_cons_of_mem _ (List.mem_cons_of_mem _ (List.mem_cons_of_mem _ (List.mem_cons_of_mem _ (List.mem_cons_of_mem _ (List.mem_cons_self)))))))))))
theorem u_13_10 : (Cond.selects RX10 yX10_firstOf yX10_firstOf) ∈ uU := uT_12 _ (List.mem_append_left _ (List.mem_cons_of_mem _ (List.mem_cons_of_mem _ (List.mem_cons_of_mem _ (List.mem_cons_of_mem _ (List.mem_cons_of_mem _ (List.mem_cons_of_mem _ (List.mem_cons_of_mem _ (List.mem_cons_of_mem _ (List.mem_cons_of_mem _ (List.mem_cons_of_mem _ (List.mem_cons_self))))))))))))
theorem u_13_11 : (Cond.code yX10_firstOf cX10_firstOf 2 (some .int)) ∈ uU := uT_12 _ (List.mem_append_left _ (List.mem_cons_of_mem _ (List.mem_cons_of_mem _ (List.mem_cons_of_mem _ (List.mem_cons_of_mem _ (List.mem_cons_of_mem _ (List.mem_cons_of_mem _ (List.mem_cons_of_mem _ (List.mem_cons_of_mem _ (List.mem_cons_of_mem _ (List.mem_cons_of_mem _ (List.mem_cons_of_mem _ (List.mem_cons_self)))))))))))))
theorem u_13_12 : (Cond.methodLink RX10 154 yX10_secondOf) ∈ uU := uT_12 _ (List.mem_append_left _ (List.mem_cons_of_mem _ (List.mem_cons_of_mem _ (List.mem_cons_of_mem _ (List.mem_cons_of_mem _ (List.mem_cons_of_mem _ (List.mem_cons_of_mem _ (List.mem_cons_of_mem _ (List.mem_cons_of_mem _ (List.mem_cons_of_mem _ (List.mem_cons_of_mem _ (List.mem_cons_of_mem _ (List.mem_cons_of_mem _ (List.mem_cons_self))))))))))))))
theorem u_13_13 : (Cond.instanceMethod yX10_secondOf) ∈ uU := uT_12 _ (List.mem_append_left _ (List.mem_cons_of_mem _ (List.mem_cons_of_mem _ (List.mem_cons_of_mem _ (List.mem_cons_of_mem _ (List.mem_cons_of_mem _ (List.mem_cons_of_mem _ (List.mem_cons_of_mem _ (List.mem_cons_of_mem _ (List.mem_cons_of_mem _ (List.mem_cons_of_mem _ (List.mem_cons_of_mem _ (List.mem_cons_of_mem _ (List.mem_cons_of_mem _ (List.mem_cons_self)))))))))))))))
theorem u_13_14 : (Cond.selects RX10 yX10_secondOf yX10_secondOf) ∈ uU := uT_12 _ (List.mem_append_left _ (List.mem_cons_of_mem _ (List.mem_cons_of_mem _ (List.mem_cons_of_mem _ (List.mem_cons_of_mem _ (List.mem_cons_of_mem _ (List.mem_cons_of_mem _ (List.mem_cons_of_mem _ (List.mem_cons_of_mem _ (List.mem_cons_of_mem _ (List.mem_cons_of_mem _ (List.mem_cons_of_mem _ (List.mem_cons_of_mem _ (List.mem_cons_of_mem _ (List.mem_cons_of_mem _ (List.mem_cons_self))))))))))))))))
theorem u_13_15 : (Cond.code yX10_secondOf cX10_secondOf 2 (some .int)) ∈ uU := uT_12 _ (List.mem_append_left _ (List.mem_cons_of_mem _ (List.mem_cons_of_mem _ (List.mem_cons_of_mem _ (List.mem_cons_of_mem _ (List.mem_cons_of_mem _ (List.mem_cons_of_mem _ (List.mem_cons_of_mem _ (List.mem_cons_of_mem _ (List.mem_cons_of_mem _ (List.mem_cons_of_mem _ (List.mem_cons_of_mem _ (List.mem_cons_of_mem _ (List.mem_cons_of_mem _ (List.mem_cons_of_mem _ (List.mem_cons_of_mem _ (List.mem_cons_self)))))))))))))))))
theorem u_13_16 : (Cond.methodLink RX10 157 yX10_cutOf) ∈ uU := uT_12 _ (List.mem_append_left _ (List.mem_cons_of_mem _ (List.mem_cons_of_mem _ (List.mem_cons_of_mem _ (List.mem_cons_of_mem _ (List.mem_cons_of_mem _ (List.mem_cons_of_mem _ (List.mem_cons_of_mem _ (List.mem_cons_of_mem _ (List.mem_cons_of_mem _ (List.mem_cons_of_mem _ (List.mem_cons_of_mem _ (List.mem_cons_of_mem _ (List.mem_cons_of_mem _ (List.mem_cons_of_mem _ (List.mem_cons_of_mem _ (List.mem_cons_of_mem _ (List.mem_cons_self))))))))))))))))))
theorem u_13_17 : (Cond.static yX10_cutOf) ∈ uU := uT_12 _ (List.mem_append_left _ (List.mem_cons_of_mem _ (List.mem_cons_of_mem _ (List.mem_cons_of_mem _ (List.mem_cons_of_mem _ (List.mem_cons_of_mem _ (List.mem_cons_of_mem _ (List.mem_cons_of_mem _ (List.mem_cons_of_mem _ (List.mem_cons_of_mem _ (List.mem_cons_of_mem _ (List.mem_cons_of_mem _ (List.mem_cons_of_mem _ (List.mem_cons_of_mem _ (List.mem_cons_of_mem _ (List.mem_cons_of_mem _ (List.mem_cons_of_mem _ (List.mem_cons_of_mem _ (List.mem_cons_self)))))))))))))))))))
theorem u_13_18 : (Cond.code yX10_cutOf cX10_cutOf 1 (some .int)) ∈ uU := uT_12 _ (List.mem_append_left _ (List.mem_cons_of_mem _ (List.mem_cons_of_mem _ (List.mem_cons_of_mem _ (List.mem_cons_of_mem _ (List.mem_cons_of_mem _ (List.mem_cons_of_mem _ (List.mem_cons_of_mem _ (List.mem_cons_of_mem _ (List.mem_cons_of_mem _ (List.mem_cons_of_mem _ (List.mem_cons_of_mem _ (List.mem_cons_of_mem _ (List.mem_cons_of_mem _ (List.mem_cons_of_mem _ (List.mem_cons_of_mem _ (List.mem_cons_of_mem _ (List.mem_cons_of_mem _ (List.mem_cons_of_mem _ (List.mem_cons_self))))))))))))))))))))
theorem u_13_19 : (Cond.methodLink RX10 168 yX10_priceOf) ∈ uU := uT_12 _ (List.mem_append_left _ (List.mem_cons_of_mem _ (List.mem_cons_of_mem _ (List.mem_cons_of_mem _ (List.mem_cons_of_mem _ (List.mem_cons_of_mem _ (List.mem_cons_of_mem _ (List.mem_cons_of_mem _ (List.mem_cons_of_mem _ (List.mem_cons_of_mem _ (List.mem_cons_of_mem _ (List.mem_cons_of_mem _ (List.mem_cons_of_mem _ (List.mem_cons_of_mem _ (List.mem_cons_of_mem _ (List.mem_cons_of_mem _ (List.mem_cons_of_mem _ (List.mem_cons_of_mem _ (List.mem_cons_of_mem _ (List.mem_cons_of_mem _ (List.mem_cons_self)))))))))))))))))))))
theorem u_13_20 : (Cond.instanceMethod yX10_priceOf) ∈ uU := uT_12 _ (List.mem_append_left _ (List.mem_cons_of_mem _ (List.mem_cons_of_mem _ (List.mem_cons_of_mem _ (List.mem_cons_of_mem _ (List.mem_cons_of_mem _ (List.mem_cons_of_mem _ (List.mem_cons_of_mem _ (List.mem_cons_of_mem _ (List.mem_cons_of_mem _ (List.mem_cons_of_mem _ (List.mem_cons_of_mem _ (List.mem_cons_of_mem _ (List.mem_cons_of_mem _ (List.mem_cons_of_mem _ (List.mem_cons_of_mem _ (List.mem_cons_of_mem _ (List.mem_cons_of_mem _ (List.mem_cons_of_mem _ (List.mem_cons_of_mem _ (List.mem_cons_of_mem _ (List.mem_cons_self))))))))))))))))))))))
theorem u_13_21 : (Cond.selects RX10 yX10_priceOf yX10_priceOf) ∈ uU := uT_12 _ (List.mem_append_left _ (List.mem_cons_of_mem _ (List.mem_cons_of_mem _ (List.mem_cons_of_mem _ (List.mem_cons_of_mem _ (List.mem_cons_of_mem _ (List.mem_cons_of_mem _ (List.mem_cons_of_mem _ (List.mem_cons_of_mem _ (List.mem_cons_of_mem _ (List.mem_cons_of_mem _ (List.mem_cons_of_mem _ (List.mem_cons_of_mem _ (List.mem_cons_of_mem _ (List.mem_cons_of_mem _ (List.mem_cons_of_mem _ (List.mem_cons_of_mem _ (List.mem_cons_of_mem _ (List.mem_cons_of_mem _ (List.mem_cons_of_mem _ (List.mem_cons_of_mem _ (List.mem_cons_of_mem _ (List.mem_cons_self)))))))))))))))))))))))
theorem u_13_22 : (Cond.code yX10_priceOf cX10_priceOf 5 (some .int)) ∈ uU := uT_12 _ (List.mem_append_left _ (List.mem_cons_of_mem _ (List.mem_cons_of_mem _ (List.mem_cons_of_mem _ (List.mem_cons_of_mem _ (List.mem_cons_of_mem _ (List.mem_cons_of_mem _ (List.mem_cons_of_mem _ (List.mem_cons_of_mem _ (List.mem_cons_of_mem _ (List.mem_cons_of_mem _ (List.mem_cons_of_mem _ (List.mem_cons_of_mem _ (List.mem_cons_of_mem _ (List.mem_cons_of_mem _ (List.mem_cons_of_mem _ (List.mem_cons_of_mem _ (List.mem_cons_of_mem _ (List.mem_cons_of_mem _ (List.mem_cons_of_mem _ (List.mem_cons_of_mem _ (List.mem_cons_of_mem _ (List.mem_cons_of_mem _ (List.mem_cons_self))))))))))))))))))))))))
theorem u_13_23 : (Cond.methodLink RX10 160 yX10_copied) ∈ uU := uT_12 _ (List.mem_append_left _ (List.mem_cons_of_mem _ (List.mem_cons_of_mem _ (List.mem_cons_of_mem _ (List.mem_cons_of_mem _ (List.mem_cons_of_mem _ (List.mem_cons_of_mem _ (List.mem_cons_of_mem _ (List.mem_cons_of_mem _ (List.mem_cons_of_mem _ (List.mem_cons_of_mem _ (List.mem_cons_of_mem _ (List.mem_cons_of_mem _ (List.mem_cons_of_mem _ (List.mem_cons_of_mem _ (List.mem_cons_of_mem _ (List.mem_cons_of_mem _ (List.mem_cons_of_mem _ (List.mem_cons_of_mem _ (List.mem_cons_of_mem _ (List.mem_cons_of_mem _ (List.mem_cons_of_mem _ (List.mem_cons_of_mem _ (List.mem_cons_of_mem _ (List.mem_cons_self)))))))))))))))))))))))))
theorem u_14_0 : (Cond.instanceMethod yX10_copied) ∈ uU := uT_13 _ (List.mem_append_left _ (List.mem_cons_self))
theorem u_14_1 : (Cond.selects RX10 yX10_copied yX10_copied) ∈ uU := uT_13 _ (List.mem_append_left _ (List.mem_cons_of_mem _ (List.mem_cons_self)))
theorem u_14_2 : (Cond.code yX10_copied cX10_copied 9 (some .int)) ∈ uU := uT_13 _ (List.mem_append_left _ (List.mem_cons_of_mem _ (List.mem_cons_of_mem _ (List.mem_cons_self))))
theorem u_14_3 : (Cond.methodLink RL 31 yX9_least) ∈ uU := uT_13 _ (List.mem_append_left _ (List.mem_cons_of_mem _ (List.mem_cons_of_mem _ (List.mem_cons_of_mem _ (List.mem_cons_self)))))
theorem u_14_4 : (Cond.instanceMethod yX9_least) ∈ uU := uT_13 _ (List.mem_append_left _ (List.mem_cons_of_mem _ (List.mem_cons_of_mem _ (List.mem_cons_of_mem _ (List.mem_cons_of_mem _ (List.mem_cons_self))))))
theorem u_14_5 : (Cond.selects RX9 yX9_least yX9_least) ∈ uU := uT_13 _ (List.mem_append_left _ (List.mem_cons_of_mem _ (List.mem_cons_of_mem _ (List.mem_cons_of_mem _ (List.mem_cons_of_mem _ (List.mem_cons_of_mem _ (List.mem_cons_self)))))))
theorem u_14_6 : (Cond.code yX9_least cX9_least 1 (some .int)) ∈ uU := uT_13 _ (List.mem_append_left _ (List.mem_cons_of_mem _ (List.mem_cons_of_mem _ (List.mem_cons_of_mem _ (List.mem_cons_of_mem _ (List.mem_cons_of_mem _ (List.mem_cons_of_mem _ (List.mem_cons_self))))))))
theorem u_14_7 : (Cond.methodLink RX9 102 yX8_leastCost) ∈ uU := uT_13 _ (List.mem_append_left _ (List.mem_cons_of_mem _ (List.mem_cons_of_mem _ (List.mem_cons_of_mem _ (List.mem_cons_of_mem _ (List.mem_cons_of_mem _ (List.mem_cons_of_mem _ (List.mem_cons_of_mem _ (List.mem_cons_self)))))))))
theorem u_14_8 : (Cond.instanceMethod yX8_leastCost) ∈ uU := uT_13 _ (List.mem_append_left _ (List.mem_cons_of_mem _ (List.mem_cons_of_mem _ (List.mem_cons_of_mem _ (List.mem_cons_of_mem _ (List.mem_cons_of_mem _ (List.mem_cons_of_mem _ (List.mem_cons_of_mem _ (List.mem_cons_of_mem _ (List.mem_cons_self))))))))))
theorem u_14_9 : (Cond.selects RX8 yX8_leastCost yX8_leastCost) ∈ uU := uT_13 _ (List.mem_append_left _ (List.mem_cons_of_mem _ (List.mem_cons_of_mem _ (List.mem_cons_of_mem _ (List.mem_cons_of_mem _ (List.mem_cons_of_mem _ (List.mem_cons_of_mem _ (List.mem_cons_of_mem _ (List.mem_cons_of_mem _ (List.mem_cons_of_mem _ (List.mem_cons_self)))))))))))
theorem u_14_10 : (Cond.code yX8_leastCost cX8_leastCost 2 (some .int)) ∈ uU := uT_13 _ (List.mem_append_left _ (List.mem_cons_of_mem _ (List.mem_cons_of_mem _ (List.mem_cons_of_mem _ (List.mem_cons_of_mem _ (List.mem_cons_of_mem _ (List.mem_cons_of_mem _ (List.mem_cons_of_mem _ (List.mem_cons_of_mem _ (List.mem_cons_of_mem _ (List.mem_cons_of_mem _ (List.mem_cons_self))))))))))))
theorem u_14_11 : (Cond.fieldLink RX8 58 "ChainLetters$Letters" "count" "I") ∈ uU := uT_13 _ (List.mem_append_left _ (List.mem_cons_of_mem _ (List.mem_cons_of_mem _ (List.mem_cons_of_mem _ (List.mem_cons_of_mem _ (List.mem_cons_of_mem _ (List.mem_cons_of_mem _ (List.mem_cons_of_mem _ (List.mem_cons_of_mem _ (List.mem_cons_of_mem _ (List.mem_cons_of_mem _ (List.mem_cons_of_mem _ (List.mem_cons_self)))))))))))))
theorem u_14_12 : (Cond.fieldLink RX8 76 "ChainLetters$Trees" "cost" "I") ∈ uU := uT_13 _ (List.mem_append_left _ (List.mem_cons_of_mem _ (List.mem_cons_of_mem _ (List.mem_cons_of_mem _ (List.mem_cons_of_mem _ (List.mem_cons_of_mem _ (List.mem_cons_of_mem _ (List.mem_cons_of_mem _ (List.mem_cons_of_mem _ (List.mem_cons_of_mem _ (List.mem_cons_of_mem _ (List.mem_cons_of_mem _ (List.mem_cons_of_mem _ (List.mem_cons_self))))))))))))))
theorem u_14_13 : (Cond.methodLink RX8 55 yX4_refresh) ∈ uU := uT_13 _ (List.mem_append_left _ (List.mem_cons_of_mem _ (List.mem_cons_of_mem _ (List.mem_cons_of_mem _ (List.mem_cons_of_mem _ (List.mem_cons_of_mem _ (List.mem_cons_of_mem _ (List.mem_cons_of_mem _ (List.mem_cons_of_mem _ (List.mem_cons_of_mem _ (List.mem_cons_of_mem _ (List.mem_cons_of_mem _ (List.mem_cons_of_mem _ (List.mem_cons_of_mem _ (List.mem_cons_self)))))))))))))))
theorem u_14_14 : (Cond.methodLink RX8 62 yX8_fillSteps) ∈ uU := uT_13 _ (List.mem_append_left _ (List.mem_cons_of_mem _ (List.mem_cons_of_mem _ (List.mem_cons_of_mem _ (List.mem_cons_of_mem _ (List.mem_cons_of_mem _ (List.mem_cons_of_mem _ (List.mem_cons_of_mem _ (List.mem_cons_of_mem _ (List.mem_cons_of_mem _ (List.mem_cons_of_mem _ (List.mem_cons_of_mem _ (List.mem_cons_of_mem _ (List.mem_cons_of_mem _ (List.mem_cons_of_mem _ (List.mem_cons_self))))))))))))))))
theorem u_14_15 : (Cond.instanceMethod yX8_fillSteps) ∈ uU := uT_13 _ (List.mem_append_left _ (List.mem_cons_of_mem _ (List.mem_cons_of_mem _ (List.mem_cons_of_mem _ (List.mem_cons_of_mem _ (List.mem_cons_of_mem _ (List.mem_cons_of_mem _ (List.mem_cons_of_mem _ (List.mem_cons_of_mem _ (List.mem_cons_of_mem _ (List.mem_cons_of_mem _ (List.mem_cons_of_mem _ (List.mem_cons_of_mem _ (List.mem_cons_of_mem _ (List.mem_cons_of_mem _ (List.mem_cons_of_mem _ (List.mem_cons_self)))))))))))))))))
theorem u_14_16 : (Cond.selects RX8 yX8_fillSteps yX8_fillSteps) ∈ uU := uT_13 _ (List.mem_append_left _ (List.mem_cons_of_mem _ (List.mem_cons_of_mem _ (List.mem_cons_of_mem _ (List.mem_cons_of_mem _ (List.mem_cons_of_mem _ (List.mem_cons_of_mem _ (List.mem_cons_of_mem _ (List.mem_cons_of_mem _ (List.mem_cons_of_mem _ (List.mem_cons_of_mem _ (List.mem_cons_of_mem _ (List.mem_cons_of_mem _ (List.mem_cons_of_mem _ (List.mem_cons_of_mem _ (List.mem_cons_of_mem _ (List.mem_cons_of_mem _ (List.mem_cons_self))))))))))))))))))
theorem u_14_17 : (Cond.code yX8_fillSteps cX8_fillSteps 9 none) ∈ uU := uT_13 _ (List.mem_append_left _ (List.mem_cons_of_mem _ (List.mem_cons_of_mem _ (List.mem_cons_of_mem _ (List.mem_cons_of_mem _ (List.mem_cons_of_mem _ (List.mem_cons_of_mem _ (List.mem_cons_of_mem _ (List.mem_cons_of_mem _ (List.mem_cons_of_mem _ (List.mem_cons_of_mem _ (List.mem_cons_of_mem _ (List.mem_cons_of_mem _ (List.mem_cons_of_mem _ (List.mem_cons_of_mem _ (List.mem_cons_of_mem _ (List.mem_cons_of_mem _ (List.mem_cons_of_mem _ (List.mem_cons_self)))))))))))))))))))
theorem u_14_18 : (Cond.methodLink RX8 109 Lib.Math.min.name) ∈ uU := uT_13 _ (List.mem_append_left _ (List.mem_cons_of_mem _ (List.mem_cons_of_mem _ (List.mem_cons_of_mem _ (List.mem_cons_of_mem _ (List.mem_cons_of_mem _ (List.mem_cons_of_mem _ (List.mem_cons_of_mem _ (List.mem_cons_of_mem _ (List.mem_cons_of_mem _ (List.mem_cons_of_mem _ (List.mem_cons_of_mem _ (List.mem_cons_of_mem _ (List.mem_cons_of_mem _ (List.mem_cons_of_mem _ (List.mem_cons_of_mem _ (List.mem_cons_of_mem _ (List.mem_cons_of_mem _ (List.mem_cons_of_mem _ (List.mem_cons_self))))))))))))))))))))
theorem u_14_19 : (Cond.static Lib.Math.min.name) ∈ uU := uT_13 _ (List.mem_append_left _ (List.mem_cons_of_mem _ (List.mem_cons_of_mem _ (List.mem_cons_of_mem _ (List.mem_cons_of_mem _ (List.mem_cons_of_mem _ (List.mem_cons_of_mem _ (List.mem_cons_of_mem _ (List.mem_cons_of_mem _ (List.mem_cons_of_mem _ (List.mem_cons_of_mem _ (List.mem_cons_of_mem _ (List.mem_cons_of_mem _ (List.mem_cons_of_mem _ (List.mem_cons_of_mem _ (List.mem_cons_of_mem _ (List.mem_cons_of_mem _ (List.mem_cons_of_mem _ (List.mem_cons_of_mem _ (List.mem_cons_of_mem _ (List.mem_cons_self)))))))))))))))))))))
theorem u_14_20 : (Cond.initialized "java/lang/Math") ∈ uU := uT_13 _ (List.mem_append_left _ (List.mem_cons_of_mem _ (List.mem_cons_of_mem _ (List.mem_cons_of_mem _ (List.mem_cons_of_mem _ (List.mem_cons_of_mem _ (List.mem_cons_of_mem _ (List.mem_cons_of_mem _ (List.mem_cons_of_mem _ (List.mem_cons_of_mem _ (List.mem_cons_of_mem _ (List.mem_cons_of_mem _ (List.mem_cons_of_mem _ (List.mem_cons_of_mem _ (List.mem_cons_of_mem _ (List.mem_cons_of_mem _ (List.mem_cons_of_mem _ (List.mem_cons_of_mem _ (List.mem_cons_of_mem _ (List.mem_cons_of_mem _ (List.mem_cons_of_mem _ (List.mem_cons_self))))))))))))))))))))))
theorem u_14_21 : (Cond.code Lib.Math.min.name Lib.Math.min.code 2 (some .int)) ∈ uU := uT_13 _ (List.mem_append_left _ (List.mem_cons_of_mem _ (List.mem_cons_of_mem _ (List.mem_cons_of_mem _ (List.mem_cons_of_mem _ (List.mem_cons_of_mem _ (List.mem_cons_of_mem _ (List.mem_cons_of_mem _ (List.mem_cons_of_mem _ (List.mem_cons_of_mem _ (List.mem_cons_of_mem _ (List.mem_cons_of_mem _ (List.mem_cons_of_mem _ (List.mem_cons_of_mem _ (List.mem_cons_of_mem _ (List.mem_cons_of_mem _ (List.mem_cons_of_mem _ (List.mem_cons_of_mem _ (List.mem_cons_of_mem _ (List.mem_cons_of_mem _ (List.mem_cons_of_mem _ (List.mem_cons_of_mem _ (List.mem_cons_self)))))))))))))))))))))))
theorem u_14_22 : (Cond.methodLink RX8 95 yX8_fillPairs) ∈ uU := uT_13 _ (List.mem_append_left _ (List.mem_cons_of_mem _ (List.mem_cons_of_mem _ (List.mem_cons_of_mem _ (List.mem_cons_of_mem _ (List.mem_cons_of_mem _ (List.mem_cons_of_mem _ (List.mem_cons_of_mem _ (List.mem_cons_of_mem _ (List.mem_cons_of_mem _ (List.mem_cons_of_mem _ (List.mem_cons_of_mem _ (List.mem_cons_of_mem _ (List.mem_cons_of_mem _ (List.mem_cons_of_mem _ (List.mem_cons_of_mem _ (List.mem_cons_of_mem _ (List.mem_cons_of_mem _ (List.mem_cons_of_mem _ (List.mem_cons_of_mem _ (List.mem_cons_of_mem _ (List.mem_cons_of_mem _ (List.mem_cons_of_mem _ (List.mem_cons_self))))))))))))))))))))))))
theorem u_14_23 : (Cond.instanceMethod yX8_fillPairs) ∈ uU := uT_13 _ (List.mem_append_left _ (List.mem_cons_of_mem _ (List.mem_cons_of_mem _ (List.mem_cons_of_mem _ (List.mem_cons_of_mem _ (List.mem_cons_of_mem _ (List.mem_cons_of_mem _ (List.mem_cons_of_mem _ (List.mem_cons_of_mem _ (List.mem_cons_of_mem _ (List.mem_cons_of_mem _ (List.mem_cons_of_mem _ (List.mem_cons_of_mem _ (List.mem_cons_of_mem _ (List.mem_cons_of_mem _ (List.mem_cons_of_mem _ (List.mem_cons_of_mem _ (List.mem_cons_of_mem _ (List.mem_cons_of_mem _ (List.mem_cons_of_mem _ (List.mem_cons_of_mem _ (List.mem_cons_of_mem _ (List.mem_cons_of_mem _ (List.mem_cons_of_mem _ (List.mem_cons_self)))))))))))))))))))))))))
theorem u_15_0 : (Cond.selects RX8 yX8_fillPairs yX8_fillPairs) ∈ uU := uT_14 _ (List.mem_append_left _ (List.mem_cons_self))
theorem u_15_1 : (Cond.code yX8_fillPairs cX8_fillPairs 6 none) ∈ uU := uT_14 _ (List.mem_append_left _ (List.mem_cons_of_mem _ (List.mem_cons_self)))
theorem u_15_2 : (Cond.constant RX8 114 (1048576)) ∈ uU := uT_14 _ (List.mem_append_left _ (List.mem_cons_of_mem _ (List.mem_cons_of_mem _ (List.mem_cons_self))))
theorem u_15_3 : (Cond.methodLink RX8 115 yX4_priceJoined) ∈ uU := uT_14 _ (List.mem_append_left _ (List.mem_cons_of_mem _ (List.mem_cons_of_mem _ (List.mem_cons_of_mem _ (List.mem_cons_self)))))
theorem u_15_4 : (Cond.methodLink RX8 72 yX8_everyone) ∈ uU := uT_14 _ (List.mem_append_left _ (List.mem_cons_of_mem _ (List.mem_cons_of_mem _ (List.mem_cons_of_mem _ (List.mem_cons_of_mem _ (List.mem_cons_self))))))
theorem u_15_5 : (Cond.instanceMethod yX8_everyone) ∈ uU := uT_14 _ (List.mem_append_left _ (List.mem_cons_of_mem _ (List.mem_cons_of_mem _ (List.mem_cons_of_mem _ (List.mem_cons_of_mem _ (List.mem_cons_of_mem _ (List.mem_cons_self)))))))
theorem u_15_6 : (Cond.selects RX8 yX8_everyone yX8_everyone) ∈ uU := uT_14 _ (List.mem_append_left _ (List.mem_cons_of_mem _ (List.mem_cons_of_mem _ (List.mem_cons_of_mem _ (List.mem_cons_of_mem _ (List.mem_cons_of_mem _ (List.mem_cons_of_mem _ (List.mem_cons_self))))))))
theorem u_15_7 : (Cond.code yX8_everyone cX8_everyone 1 (some .int)) ∈ uU := uT_14 _ (List.mem_append_left _ (List.mem_cons_of_mem _ (List.mem_cons_of_mem _ (List.mem_cons_of_mem _ (List.mem_cons_of_mem _ (List.mem_cons_of_mem _ (List.mem_cons_of_mem _ (List.mem_cons_of_mem _ (List.mem_cons_self)))))))))
theorem u_15_8 : (Cond.methodLink RX8 98 yX4_priceFirst) ∈ uU := uT_14 _ (List.mem_append_left _ (List.mem_cons_of_mem _ (List.mem_cons_of_mem _ (List.mem_cons_of_mem _ (List.mem_cons_of_mem _ (List.mem_cons_of_mem _ (List.mem_cons_of_mem _ (List.mem_cons_of_mem _ (List.mem_cons_of_mem _ (List.mem_cons_self))))))))))
theorem u_15_9 : (Cond.methodLink RX8 102 yX8_lowestOf) ∈ uU := uT_14 _ (List.mem_append_left _ (List.mem_cons_of_mem _ (List.mem_cons_of_mem _ (List.mem_cons_of_mem _ (List.mem_cons_of_mem _ (List.mem_cons_of_mem _ (List.mem_cons_of_mem _ (List.mem_cons_of_mem _ (List.mem_cons_of_mem _ (List.mem_cons_of_mem _ (List.mem_cons_self)))))))))))
theorem u_15_10 : (Cond.instanceMethod yX8_lowestOf) ∈ uU := uT_14 _ (List.mem_append_left _ (List.mem_cons_of_mem _ (List.mem_cons_of_mem _ (List.mem_cons_of_mem _ (List.mem_cons_of_mem _ (List.mem_cons_of_mem _ (List.mem_cons_of_mem _ (List.mem_cons_of_mem _ (List.mem_cons_of_mem _ (List.mem_cons_of_mem _ (List.mem_cons_of_mem _ (List.mem_cons_self))))))))))))
theorem u_15_11 : (Cond.selects RX8 yX8_lowestOf yX8_lowestOf) ∈ uU := uT_14 _ (List.mem_append_left _ (List.mem_cons_of_mem _ (List.mem_cons_of_mem _ (List.mem_cons_of_mem _ (List.mem_cons_of_mem _ (List.mem_cons_of_mem _ (List.mem_cons_of_mem _ (List.mem_cons_of_mem _ (List.mem_cons_of_mem _ (List.mem_cons_of_mem _ (List.mem_cons_of_mem _ (List.mem_cons_of_mem _ (List.mem_cons_self)))))))))))))
theorem u_15_12 : (Cond.code yX8_lowestOf cX8_lowestOf 3 (some .int)) ∈ uU := uT_14 _ (List.mem_append_left _ (List.mem_cons_of_mem _ (List.mem_cons_of_mem _ (List.mem_cons_of_mem _ (List.mem_cons_of_mem _ (List.mem_cons_of_mem _ (List.mem_cons_of_mem _ (List.mem_cons_of_mem _ (List.mem_cons_of_mem _ (List.mem_cons_of_mem _ (List.mem_cons_of_mem _ (List.mem_cons_of_mem _ (List.mem_cons_of_mem _ (List.mem_cons_self))))))))))))))
theorem u_15_13 : (Cond.methodLink RX8 105 yX4_priceCopied) ∈ uU := uT_14 _ (List.mem_append_left _ (List.mem_cons_of_mem _ (List.mem_cons_of_mem _ (List.mem_cons_of_mem _ (List.mem_cons_of_mem _ (List.mem_cons_of_mem _ (List.mem_cons_of_mem _ (List.mem_cons_of_mem _ (List.mem_cons_of_mem _ (List.mem_cons_of_mem _ (List.mem_cons_of_mem _ (List.mem_cons_of_mem _ (List.mem_cons_of_mem _ (List.mem_cons_of_mem _ (List.mem_cons_self)))))))))))))))
theorem u_15_14 : (Cond.methodLink RX8 66 yX8_freeAll) ∈ uU := uT_14 _ (List.mem_append_left _ (List.mem_cons_of_mem _ (List.mem_cons_of_mem _ (List.mem_cons_of_mem _ (List.mem_cons_of_mem _ (List.mem_cons_of_mem _ (List.mem_cons_of_mem _ (List.mem_cons_of_mem _ (List.mem_cons_of_mem _ (List.mem_cons_of_mem _ (List.mem_cons_of_mem _ (List.mem_cons_of_mem _ (List.mem_cons_of_mem _ (List.mem_cons_of_mem _ (List.mem_cons_of_mem _ (List.mem_cons_self))))))))))))))))
theorem u_15_15 : (Cond.instanceMethod yX8_freeAll) ∈ uU := uT_14 _ (List.mem_append_left _ (List.mem_cons_of_mem _ (List.mem_cons_of_mem _ (List.mem_cons_of_mem _ (List.mem_cons_of_mem _ (List.mem_cons_of_mem _ (List.mem_cons_of_mem _ (List.mem_cons_of_mem _ (List.mem_cons_of_mem _ (List.mem_cons_of_mem _ (List.mem_cons_of_mem _ (List.mem_cons_of_mem _ (List.mem_cons_of_mem _ (List.mem_cons_of_mem _ (List.mem_cons_of_mem _ (List.mem_cons_of_mem _ (List.mem_cons_self)))))))))))))))))
theorem u_15_16 : (Cond.selects RX8 yX8_freeAll yX8_freeAll) ∈ uU := uT_14 _ (List.mem_append_left _ (List.mem_cons_of_mem _ (List.mem_cons_of_mem _ (List.mem_cons_of_mem _ (List.mem_cons_of_mem _ (List.mem_cons_of_mem _ (List.mem_cons_of_mem _ (List.mem_cons_of_mem _ (List.mem_cons_of_mem _ (List.mem_cons_of_mem _ (List.mem_cons_of_mem _ (List.mem_cons_of_mem _ (List.mem_cons_of_mem _ (List.mem_cons_of_mem _ (List.mem_cons_of_mem _ (List.mem_cons_of_mem _ (List.mem_cons_of_mem _ (List.mem_cons_self))))))))))))))))))
theorem u_15_17 : (Cond.code yX8_freeAll cX8_freeAll 2 none) ∈ uU := uT_14 _ (List.mem_append_left _ (List.mem_cons_of_mem _ (List.mem_cons_of_mem _ (List.mem_cons_of_mem _ (List.mem_cons_of_mem _ (List.mem_cons_of_mem _ (List.mem_cons_of_mem _ (List.mem_cons_of_mem _ (List.mem_cons_of_mem _ (List.mem_cons_of_mem _ (List.mem_cons_of_mem _ (List.mem_cons_of_mem _ (List.mem_cons_of_mem _ (List.mem_cons_of_mem _ (List.mem_cons_of_mem _ (List.mem_cons_of_mem _ (List.mem_cons_of_mem _ (List.mem_cons_of_mem _ (List.mem_cons_self)))))))))))))))))))
theorem u_15_18 : (Cond.methodLink RX8 69 yX8_fillBuilt) ∈ uU := uT_14 _ (List.mem_append_left _ (List.mem_cons_of_mem _ (List.mem_cons_of_mem _ (List.mem_cons_of_mem _ (List.mem_cons_of_mem _ (List.mem_cons_of_mem _ (List.mem_cons_of_mem _ (List.mem_cons_of_mem _ (List.mem_cons_of_mem _ (List.mem_cons_of_mem _ (List.mem_cons_of_mem _ (List.mem_cons_of_mem _ (List.mem_cons_of_mem _ (List.mem_cons_of_mem _ (List.mem_cons_of_mem _ (List.mem_cons_of_mem _ (List.mem_cons_of_mem _ (List.mem_cons_of_mem _ (List.mem_cons_of_mem _ (List.mem_cons_self))))))))))))))))))))
theorem u_15_19 : (Cond.instanceMethod yX8_fillBuilt) ∈ uU := uT_14 _ (List.mem_append_left _ (List.mem_cons_of_mem _ (List.mem_cons_of_mem _ (List.mem_cons_of_mem _ (List.mem_cons_of_mem _ (List.mem_cons_of_mem _ (List.mem_cons_of_mem _ (List.mem_cons_of_mem _ (List.mem_cons_of_mem _ (List.mem_cons_of_mem _ (List.mem_cons_of_mem _ (List.mem_cons_of_mem _ (List.mem_cons_of_mem _ (List.mem_cons_of_mem _ (List.mem_cons_of_mem _ (List.mem_cons_of_mem _ (List.mem_cons_of_mem _ (List.mem_cons_of_mem _ (List.mem_cons_of_mem _ (List.mem_cons_of_mem _ (List.mem_cons_self)))))))))))))))))))))
theorem u_15_20 : (Cond.selects RX8 yX8_fillBuilt yX8_fillBuilt) ∈ uU := uT_14 _ (List.mem_append_left _ (List.mem_cons_of_mem _ (List.mem_cons_of_mem _ (List.mem_cons_of_mem _ (List.mem_cons_of_mem _ (List.mem_cons_of_mem _ (List.mem_cons_of_mem _ (List.mem_cons_of_mem _ (List.mem_cons_of_mem _ (List.mem_cons_of_mem _ (List.mem_cons_of_mem _ (List.mem_cons_of_mem _ (List.mem_cons_of_mem _ (List.mem_cons_of_mem _ (List.mem_cons_of_mem _ (List.mem_cons_of_mem _ (List.mem_cons_of_mem _ (List.mem_cons_of_mem _ (List.mem_cons_of_mem _ (List.mem_cons_of_mem _ (List.mem_cons_of_mem _ (List.mem_cons_self))))))))))))))))))))))
theorem u_15_21 : (Cond.code yX8_fillBuilt cX8_fillBuilt 6 none) ∈ uU := uT_14 _ (List.mem_append_left _ (List.mem_cons_of_mem _ (List.mem_cons_of_mem _ (List.mem_cons_of_mem _ (List.mem_cons_of_mem _ (List.mem_cons_of_mem _ (List.mem_cons_of_mem _ (List.mem_cons_of_mem _ (List.mem_cons_of_mem _ (List.mem_cons_of_mem _ (List.mem_cons_of_mem _ (List.mem_cons_of_mem _ (List.mem_cons_of_mem _ (List.mem_cons_of_mem _ (List.mem_cons_of_mem _ (List.mem_cons_of_mem _ (List.mem_cons_of_mem _ (List.mem_cons_of_mem _ (List.mem_cons_of_mem _ (List.mem_cons_of_mem _ (List.mem_cons_of_mem _ (List.mem_cons_of_mem _ (List.mem_cons_self)))))))))))))))))))))))
theorem u_15_22 : (Cond.methodLink RX8 119 yX8_stepBehind) ∈ uU := uT_14 _ (List.mem_append_left _ (List.mem_cons_of_mem _ (List.mem_cons_of_mem _ (List.mem_cons_of_mem _ (List.mem_cons_of_mem _ (List.mem_cons_of_mem _ (List.mem_cons_of_mem _ (List.mem_cons_of_mem _ (List.mem_cons_of_mem _ (List.mem_cons_of_mem _ (List.mem_cons_of_mem _ (List.mem_cons_of_mem _ (List.mem_cons_of_mem _ (List.mem_cons_of_mem _ (List.mem_cons_of_mem _ (List.mem_cons_of_mem _ (List.mem_cons_of_mem _ (List.mem_cons_of_mem _ (List.mem_cons_of_mem _ (List.mem_cons_of_mem _ (List.mem_cons_of_mem _ (List.mem_cons_of_mem _ (List.mem_cons_of_mem _ (List.mem_cons_self))))))))))))))))))))))))
theorem u_15_23 : (Cond.instanceMethod yX8_stepBehind) ∈ uU := uT_14 _ (List.mem_append_left _ (List.mem_cons_of_mem _ (List.mem_cons_of_mem _ (List.mem_cons_of_mem _ (List.mem_cons_of_mem _ (List.mem_cons_of_mem _ (List.mem_cons_of_mem _ (List.mem_cons_of_mem _ (List.mem_cons_of_mem _ (List.mem_cons_of_mem _ (List.mem_cons_of_mem _ (List.mem_cons_of_mem _ (List.mem_cons_of_mem _ (List.mem_cons_of_mem _ (List.mem_cons_of_mem _ (List.mem_cons_of_mem _ (List.mem_cons_of_mem _ (List.mem_cons_of_mem _ (List.mem_cons_of_mem _ (List.mem_cons_of_mem _ (List.mem_cons_of_mem _ (List.mem_cons_of_mem _ (List.mem_cons_of_mem _ (List.mem_cons_of_mem _ (List.mem_cons_self)))))))))))))))))))))))))
theorem u_16_0 : (Cond.selects RX8 yX8_stepBehind yX8_stepBehind) ∈ uU := uT_15 _ (List.mem_append_left _ (List.mem_cons_self))
theorem u_16_1 : (Cond.code yX8_stepBehind cX8_stepBehind 3 (some .int)) ∈ uU := uT_15 _ (List.mem_append_left _ (List.mem_cons_of_mem _ (List.mem_cons_self)))
theorem u_16_2 : (Cond.methodLink RL 35 yX10_least) ∈ uU := uT_15 _ (List.mem_append_left _ (List.mem_cons_of_mem _ (List.mem_cons_of_mem _ (List.mem_cons_self))))
theorem u_16_3 : (Cond.instanceMethod yX10_least) ∈ uU := uT_15 _ (List.mem_append_left _ (List.mem_cons_of_mem _ (List.mem_cons_of_mem _ (List.mem_cons_of_mem _ (List.mem_cons_self)))))
theorem u_16_4 : (Cond.selects RX10 yX10_least yX10_least) ∈ uU := uT_15 _ (List.mem_append_left _ (List.mem_cons_of_mem _ (List.mem_cons_of_mem _ (List.mem_cons_of_mem _ (List.mem_cons_of_mem _ (List.mem_cons_self))))))
theorem u_16_5 : (Cond.code yX10_least cX10_least 1 (some .int)) ∈ uU := uT_15 _ (List.mem_append_left _ (List.mem_cons_of_mem _ (List.mem_cons_of_mem _ (List.mem_cons_of_mem _ (List.mem_cons_of_mem _ (List.mem_cons_of_mem _ (List.mem_cons_self)))))))
theorem u_16_6 : (Cond.methodLink RX10 182 yX10_leastAll) ∈ uU := uT_15 _ (List.mem_append_left _ (List.mem_cons_of_mem _ (List.mem_cons_of_mem _ (List.mem_cons_of_mem _ (List.mem_cons_of_mem _ (List.mem_cons_of_mem _ (List.mem_cons_of_mem _ (List.mem_cons_self))))))))
theorem u_16_7 : (Cond.instanceMethod yX10_leastAll) ∈ uU := uT_15 _ (List.mem_append_left _ (List.mem_cons_of_mem _ (List.mem_cons_of_mem _ (List.mem_cons_of_mem _ (List.mem_cons_of_mem _ (List.mem_cons_of_mem _ (List.mem_cons_of_mem _ (List.mem_cons_of_mem _ (List.mem_cons_self)))))))))
theorem u_16_8 : (Cond.selects RX10 yX10_leastAll yX10_leastAll) ∈ uU := uT_15 _ (List.mem_append_left _ (List.mem_cons_of_mem _ (List.mem_cons_of_mem _ (List.mem_cons_of_mem _ (List.mem_cons_of_mem _ (List.mem_cons_of_mem _ (List.mem_cons_of_mem _ (List.mem_cons_of_mem _ (List.mem_cons_of_mem _ (List.mem_cons_self))))))))))
theorem u_16_9 : (Cond.code yX10_leastAll cX10_leastAll 1 (some .int)) ∈ uU := uT_15 _ (List.mem_append_left _ (List.mem_cons_of_mem _ (List.mem_cons_of_mem _ (List.mem_cons_of_mem _ (List.mem_cons_of_mem _ (List.mem_cons_of_mem _ (List.mem_cons_of_mem _ (List.mem_cons_of_mem _ (List.mem_cons_of_mem _ (List.mem_cons_of_mem _ (List.mem_cons_self)))))))))))
theorem u_16_10 : (Cond.methodLink RX10 175 yX10_prices) ∈ uU := uT_15 _ (List.mem_append_left _ (List.mem_cons_of_mem _ (List.mem_cons_of_mem _ (List.mem_cons_of_mem _ (List.mem_cons_of_mem _ (List.mem_cons_of_mem _ (List.mem_cons_of_mem _ (List.mem_cons_of_mem _ (List.mem_cons_of_mem _ (List.mem_cons_of_mem _ (List.mem_cons_of_mem _ (List.mem_cons_self))))))))))))
theorem u_16_11 : (Cond.instanceMethod yX10_prices) ∈ uU := uT_15 _ (List.mem_append_left _ (List.mem_cons_of_mem _ (List.mem_cons_of_mem _ (List.mem_cons_of_mem _ (List.mem_cons_of_mem _ (List.mem_cons_of_mem _ (List.mem_cons_of_mem _ (List.mem_cons_of_mem _ (List.mem_cons_of_mem _ (List.mem_cons_of_mem _ (List.mem_cons_of_mem _ (List.mem_cons_of_mem _ (List.mem_cons_self)))))))))))))
theorem u_16_12 : (Cond.selects RX10 yX10_prices yX10_prices) ∈ uU := uT_15 _ (List.mem_append_left _ (List.mem_cons_of_mem _ (List.mem_cons_of_mem _ (List.mem_cons_of_mem _ (List.mem_cons_of_mem _ (List.mem_cons_of_mem _ (List.mem_cons_of_mem _ (List.mem_cons_of_mem _ (List.mem_cons_of_mem _ (List.mem_cons_of_mem _ (List.mem_cons_of_mem _ (List.mem_cons_of_mem _ (List.mem_cons_of_mem _ (List.mem_cons_self))))))))))))))
theorem u_16_13 : (Cond.code yX10_prices cX10_prices 5 none) ∈ uU := uT_15 _ (List.mem_append_left _ (List.mem_cons_of_mem _ (List.mem_cons_of_mem _ (List.mem_cons_of_mem _ (List.mem_cons_of_mem _ (List.mem_cons_of_mem _ (List.mem_cons_of_mem _ (List.mem_cons_of_mem _ (List.mem_cons_of_mem _ (List.mem_cons_of_mem _ (List.mem_cons_of_mem _ (List.mem_cons_of_mem _ (List.mem_cons_of_mem _ (List.mem_cons_of_mem _ (List.mem_cons_self)))))))))))))))
theorem u_16_14 : (Cond.constant RX10 174 (1000000)) ∈ uU := uT_15 _ (List.mem_append_left _ (List.mem_cons_of_mem _ (List.mem_cons_of_mem _ (List.mem_cons_of_mem _ (List.mem_cons_of_mem _ (List.mem_cons_of_mem _ (List.mem_cons_of_mem _ (List.mem_cons_of_mem _ (List.mem_cons_of_mem _ (List.mem_cons_of_mem _ (List.mem_cons_of_mem _ (List.mem_cons_of_mem _ (List.mem_cons_of_mem _ (List.mem_cons_of_mem _ (List.mem_cons_of_mem _ (List.mem_cons_self))))))))))))))))
theorem u_16_15 : (Cond.methodLink RX10 171 yX10_sources) ∈ uU := uT_15 _ (List.mem_append_left _ (List.mem_cons_of_mem _ (List.mem_cons_of_mem _ (List.mem_cons_of_mem _ (List.mem_cons_of_mem _ (List.mem_cons_of_mem _ (List.mem_cons_of_mem _ (List.mem_cons_of_mem _ (List.mem_cons_of_mem _ (List.mem_cons_of_mem _ (List.mem_cons_of_mem _ (List.mem_cons_of_mem _ (List.mem_cons_of_mem _ (List.mem_cons_of_mem _ (List.mem_cons_of_mem _ (List.mem_cons_of_mem _ (List.mem_cons_self)))))))))))))))))
theorem u_16_16 : (Cond.instanceMethod yX10_sources) ∈ uU := uT_15 _ (List.mem_append_left _ (List.mem_cons_of_mem _ (List.mem_cons_of_mem _ (List.mem_cons_of_mem _ (List.mem_cons_of_mem _ (List.mem_cons_of_mem _ (List.mem_cons_of_mem _ (List.mem_cons_of_mem _ (List.mem_cons_of_mem _ (List.mem_cons_of_mem _ (List.mem_cons_of_mem _ (List.mem_cons_of_mem _ (List.mem_cons_of_mem _ (List.mem_cons_of_mem _ (List.mem_cons_of_mem _ (List.mem_cons_of_mem _ (List.mem_cons_of_mem _ (List.mem_cons_self))))))))))))))))))
theorem u_16_17 : (Cond.selects RX10 yX10_sources yX10_sources) ∈ uU := uT_15 _ (List.mem_append_left _ (List.mem_cons_of_mem _ (List.mem_cons_of_mem _ (List.mem_cons_of_mem _ (List.mem_cons_of_mem _ (List.mem_cons_of_mem _ (List.mem_cons_of_mem _ (List.mem_cons_of_mem _ (List.mem_cons_of_mem _ (List.mem_cons_of_mem _ (List.mem_cons_of_mem _ (List.mem_cons_of_mem _ (List.mem_cons_of_mem _ (List.mem_cons_of_mem _ (List.mem_cons_of_mem _ (List.mem_cons_of_mem _ (List.mem_cons_of_mem _ (List.mem_cons_of_mem _ (List.mem_cons_self)))))))))))))))))))
theorem u_16_18 : (Cond.code yX10_sources cX10_sources 2 (some .int)) ∈ uU := uT_15 _ (List.mem_append_left _ (List.mem_cons_of_mem _ (List.mem_cons_of_mem _ (List.mem_cons_of_mem _ (List.mem_cons_of_mem _ (List.mem_cons_of_mem _ (List.mem_cons_of_mem _ (List.mem_cons_of_mem _ (List.mem_cons_of_mem _ (List.mem_cons_of_mem _ (List.mem_cons_of_mem _ (List.mem_cons_of_mem _ (List.mem_cons_of_mem _ (List.mem_cons_of_mem _ (List.mem_cons_of_mem _ (List.mem_cons_of_mem _ (List.mem_cons_of_mem _ (List.mem_cons_of_mem _ (List.mem_cons_of_mem _ (List.mem_cons_self))))))))))))))))))))
theorem u_16_19 : (Cond.methodLink RX10 178 yX10_leastOf) ∈ uU := uT_15 _ (List.mem_append_left _ (List.mem_cons_of_mem _ (List.mem_cons_of_mem _ (List.mem_cons_of_mem _ (List.mem_cons_of_mem _ (List.mem_cons_of_mem _ (List.mem_cons_of_mem _ (List.mem_cons_of_mem _ (List.mem_cons_of_mem _ (List.mem_cons_of_mem _ (List.mem_cons_of_mem _ (List.mem_cons_of_mem _ (List.mem_cons_of_mem _ (List.mem_cons_of_mem _ (List.mem_cons_of_mem _ (List.mem_cons_of_mem _ (List.mem_cons_of_mem _ (List.mem_cons_of_mem _ (List.mem_cons_of_mem _ (List.mem_cons_of_mem _ (List.mem_cons_self)))))))))))))))))))))
theorem u_16_20 : (Cond.instanceMethod yX10_leastOf) ∈ uU := uT_15 _ (List.mem_append_left _ (List.mem_cons_of_mem _ (List.mem_cons_of_mem _ (List.mem_cons_of_mem _ (List.mem_cons_of_mem _ (List.mem_cons_of_mem _ (List.mem_cons_of_mem _ (List.mem_cons_of_mem _ (List.mem_cons_of_mem _ (List.mem_cons_of_mem _ (List.mem_cons_of_mem _ (List.mem_cons_of_mem _ (List.mem_cons_of_mem _ (List.mem_cons_of_mem _ (List.mem_cons_of_mem _ (List.mem_cons_of_mem _ (List.mem_cons_of_mem _ (List.mem_cons_of_mem _ (List.mem_cons_of_mem _ (List.mem_cons_of_mem _ (List.mem_cons_of_mem _ (List.mem_cons_self))))))))))))))))))))))
theorem u_16_21 : (Cond.selects RX10 yX10_leastOf yX10_leastOf) ∈ uU := uT_15 _ (List.mem_append_left _ (List.mem_cons_of_mem _ (List.mem_cons_of_mem _ (List.mem_cons_of_mem _ (List.mem_cons_of_mem _ (List.mem_cons_of_mem _ (List.mem_cons_of_mem _ (List.mem_cons_of_mem _ (List.mem_cons_of_mem _ (List.mem_cons_of_mem _ (List.mem_cons_of_mem _ (List.mem_cons_of_mem _ (List.mem_cons_of_mem _ (List.mem_cons_of_mem _ (List.mem_cons_of_mem _ (List.mem_cons_of_mem _ (List.mem_cons_of_mem _ (List.mem_cons_of_mem _ (List.mem_cons_of_mem _ (List.mem_cons_of_mem _ (List.mem_cons_of_mem _ (List.mem_cons_of_mem _ (List.mem_cons_self)))))))))))))))))))))))
theorem u_16_22 : (Cond.code yX10_leastOf cX10_leastOf 8 (some .int)) ∈ uU := uT_15 _ (List.mem_append_left _ (List.mem_cons_of_mem _ (List.mem_cons_of_mem _ (List.mem_cons_of_mem _ (List.mem_cons_of_mem _ (List.mem_cons_of_mem _ (List.mem_cons_of_mem _ (List.mem_cons_of_mem _ (List.mem_cons_of_mem _ (List.mem_cons_of_mem _ (List.mem_cons_of_mem _ (List.mem_cons_of_mem _ (List.mem_cons_of_mem _ (List.mem_cons_of_mem _ (List.mem_cons_of_mem _ (List.mem_cons_of_mem _ (List.mem_cons_of_mem _ (List.mem_cons_of_mem _ (List.mem_cons_of_mem _ (List.mem_cons_of_mem _ (List.mem_cons_of_mem _ (List.mem_cons_of_mem _ (List.mem_cons_of_mem _ (List.mem_cons_self))))))))))))))))))))))))
theorem u_16_23 : (Cond.methodLink RL 36 yX9_way) ∈ uU := uT_15 _ (List.mem_append_left _ (List.mem_cons_of_mem _ (List.mem_cons_of_mem _ (List.mem_cons_of_mem _ (List.mem_cons_of_mem _ (List.mem_cons_of_mem _ (List.mem_cons_of_mem _ (List.mem_cons_of_mem _ (List.mem_cons_of_mem _ (List.mem_cons_of_mem _ (List.mem_cons_of_mem _ (List.mem_cons_of_mem _ (List.mem_cons_of_mem _ (List.mem_cons_of_mem _ (List.mem_cons_of_mem _ (List.mem_cons_of_mem _ (List.mem_cons_of_mem _ (List.mem_cons_of_mem _ (List.mem_cons_of_mem _ (List.mem_cons_of_mem _ (List.mem_cons_of_mem _ (List.mem_cons_of_mem _ (List.mem_cons_of_mem _ (List.mem_cons_of_mem _ (List.mem_cons_self)))))))))))))))))))))))))
theorem u_17_0 : (Cond.instanceMethod yX9_way) ∈ uU := uT_16 _ (List.mem_append_left _ (List.mem_cons_self))
theorem u_17_1 : (Cond.selects RX9 yX9_way yX9_way) ∈ uU := uT_16 _ (List.mem_append_left _ (List.mem_cons_of_mem _ (List.mem_cons_self)))
theorem u_17_2 : (Cond.code yX9_way cX9_way 2 (some .int)) ∈ uU := uT_16 _ (List.mem_append_left _ (List.mem_cons_of_mem _ (List.mem_cons_of_mem _ (List.mem_cons_self))))
theorem u_17_3 : (Cond.methodLink RX9 106 yX8_wayOf) ∈ uU := uT_16 _ (List.mem_append_left _ (List.mem_cons_of_mem _ (List.mem_cons_of_mem _ (List.mem_cons_of_mem _ (List.mem_cons_self)))))
theorem u_17_4 : (Cond.instanceMethod yX8_wayOf) ∈ uU := uT_16 _ (List.mem_append_left _ (List.mem_cons_of_mem _ (List.mem_cons_of_mem _ (List.mem_cons_of_mem _ (List.mem_cons_of_mem _ (List.mem_cons_self))))))
theorem u_17_5 : (Cond.selects RX8 yX8_wayOf yX8_wayOf) ∈ uU := uT_16 _ (List.mem_append_left _ (List.mem_cons_of_mem _ (List.mem_cons_of_mem _ (List.mem_cons_of_mem _ (List.mem_cons_of_mem _ (List.mem_cons_of_mem _ (List.mem_cons_self)))))))
theorem u_17_6 : (Cond.code yX8_wayOf cX8_wayOf 2 (some .int)) ∈ uU := uT_16 _ (List.mem_append_left _ (List.mem_cons_of_mem _ (List.mem_cons_of_mem _ (List.mem_cons_of_mem _ (List.mem_cons_of_mem _ (List.mem_cons_of_mem _ (List.mem_cons_of_mem _ (List.mem_cons_self))))))))
theorem u_17_7 : (Cond.methodLink RX8 79 yX8_settle) ∈ uU := uT_16 _ (List.mem_append_left _ (List.mem_cons_of_mem _ (List.mem_cons_of_mem _ (List.mem_cons_of_mem _ (List.mem_cons_of_mem _ (List.mem_cons_of_mem _ (List.mem_cons_of_mem _ (List.mem_cons_of_mem _ (List.mem_cons_self)))))))))
theorem u_17_8 : (Cond.instanceMethod yX8_settle) ∈ uU := uT_16 _ (List.mem_append_left _ (List.mem_cons_of_mem _ (List.mem_cons_of_mem _ (List.mem_cons_of_mem _ (List.mem_cons_of_mem _ (List.mem_cons_of_mem _ (List.mem_cons_of_mem _ (List.mem_cons_of_mem _ (List.mem_cons_of_mem _ (List.mem_cons_self))))))))))
theorem u_17_9 : (Cond.selects RX8 yX8_settle yX8_settle) ∈ uU := uT_16 _ (List.mem_append_left _ (List.mem_cons_of_mem _ (List.mem_cons_of_mem _ (List.mem_cons_of_mem _ (List.mem_cons_of_mem _ (List.mem_cons_of_mem _ (List.mem_cons_of_mem _ (List.mem_cons_of_mem _ (List.mem_cons_of_mem _ (List.mem_cons_of_mem _ (List.mem_cons_self)))))))))))
theorem u_17_10 : (Cond.code yX8_settle cX8_settle 3 none) ∈ uU := uT_16 _ (List.mem_append_left _ (List.mem_cons_of_mem _ (List.mem_cons_of_mem _ (List.mem_cons_of_mem _ (List.mem_cons_of_mem _ (List.mem_cons_of_mem _ (List.mem_cons_of_mem _ (List.mem_cons_of_mem _ (List.mem_cons_of_mem _ (List.mem_cons_of_mem _ (List.mem_cons_of_mem _ (List.mem_cons_self))))))))))))
theorem u_17_11 : (Cond.methodLink RX8 82 yX8_leastCost) ∈ uU := uT_16 _ (List.mem_append_left _ (List.mem_cons_of_mem _ (List.mem_cons_of_mem _ (List.mem_cons_of_mem _ (List.mem_cons_of_mem _ (List.mem_cons_of_mem _ (List.mem_cons_of_mem _ (List.mem_cons_of_mem _ (List.mem_cons_of_mem _ (List.mem_cons_of_mem _ (List.mem_cons_of_mem _ (List.mem_cons_of_mem _ (List.mem_cons_self)))))))))))))
theorem u_17_12 : (Cond.methodLink RX8 85 yX8_weigh) ∈ uU := uT_16 _ (List.mem_append_left _ (List.mem_cons_of_mem _ (List.mem_cons_of_mem _ (List.mem_cons_of_mem _ (List.mem_cons_of_mem _ (List.mem_cons_of_mem _ (List.mem_cons_of_mem _ (List.mem_cons_of_mem _ (List.mem_cons_of_mem _ (List.mem_cons_of_mem _ (List.mem_cons_of_mem _ (List.mem_cons_of_mem _ (List.mem_cons_of_mem _ (List.mem_cons_self))))))))))))))
theorem u_17_13 : (Cond.instanceMethod yX8_weigh) ∈ uU := uT_16 _ (List.mem_append_left _ (List.mem_cons_of_mem _ (List.mem_cons_of_mem _ (List.mem_cons_of_mem _ (List.mem_cons_of_mem _ (List.mem_cons_of_mem _ (List.mem_cons_of_mem _ (List.mem_cons_of_mem _ (List.mem_cons_of_mem _ (List.mem_cons_of_mem _ (List.mem_cons_of_mem _ (List.mem_cons_of_mem _ (List.mem_cons_of_mem _ (List.mem_cons_of_mem _ (List.mem_cons_self)))))))))))))))
theorem u_17_14 : (Cond.selects RX8 yX8_weigh yX8_weigh) ∈ uU := uT_16 _ (List.mem_append_left _ (List.mem_cons_of_mem _ (List.mem_cons_of_mem _ (List.mem_cons_of_mem _ (List.mem_cons_of_mem _ (List.mem_cons_of_mem _ (List.mem_cons_of_mem _ (List.mem_cons_of_mem _ (List.mem_cons_of_mem _ (List.mem_cons_of_mem _ (List.mem_cons_of_mem _ (List.mem_cons_of_mem _ (List.mem_cons_of_mem _ (List.mem_cons_of_mem _ (List.mem_cons_of_mem _ (List.mem_cons_self))))))))))))))))
theorem u_17_15 : (Cond.code yX8_weigh cX8_weigh 6 none) ∈ uU := uT_16 _ (List.mem_append_left _ (List.mem_cons_of_mem _ (List.mem_cons_of_mem _ (List.mem_cons_of_mem _ (List.mem_cons_of_mem _ (List.mem_cons_of_mem _ (List.mem_cons_of_mem _ (List.mem_cons_of_mem _ (List.mem_cons_of_mem _ (List.mem_cons_of_mem _ (List.mem_cons_of_mem _ (List.mem_cons_of_mem _ (List.mem_cons_of_mem _ (List.mem_cons_of_mem _ (List.mem_cons_of_mem _ (List.mem_cons_of_mem _ (List.mem_cons_self)))))))))))))))))
theorem u_17_16 : (Cond.methodLink RX8 122 yX8_fillRest) ∈ uU := uT_16 _ (List.mem_append_left _ (List.mem_cons_of_mem _ (List.mem_cons_of_mem _ (List.mem_cons_of_mem _ (List.mem_cons_of_mem _ (List.mem_cons_of_mem _ (List.mem_cons_of_mem _ (List.mem_cons_of_mem _ (List.mem_cons_of_mem _ (List.mem_cons_of_mem _ (List.mem_cons_of_mem _ (List.mem_cons_of_mem _ (List.mem_cons_of_mem _ (List.mem_cons_of_mem _ (List.mem_cons_of_mem _ (List.mem_cons_of_mem _ (List.mem_cons_of_mem _ (List.mem_cons_self))))))))))))))))))
theorem u_17_17 : (Cond.instanceMethod yX8_fillRest) ∈ uU := uT_16 _ (List.mem_append_left _ (List.mem_cons_of_mem _ (List.mem_cons_of_mem _ (List.mem_cons_of_mem _ (List.mem_cons_of_mem _ (List.mem_cons_of_mem _ (List.mem_cons_of_mem _ (List.mem_cons_of_mem _ (List.mem_cons_of_mem _ (List.mem_cons_of_mem _ (List.mem_cons_of_mem _ (List.mem_cons_of_mem _ (List.mem_cons_of_mem _ (List.mem_cons_of_mem _ (List.mem_cons_of_mem _ (List.mem_cons_of_mem _ (List.mem_cons_of_mem _ (List.mem_cons_of_mem _ (List.mem_cons_self)))))))))))))))))))
theorem u_17_18 : (Cond.selects RX8 yX8_fillRest yX8_fillRest) ∈ uU := uT_16 _ (List.mem_append_left _ (List.mem_cons_of_mem _ (List.mem_cons_of_mem _ (List.mem_cons_of_mem _ (List.mem_cons_of_mem _ (List.mem_cons_of_mem _ (List.mem_cons_of_mem _ (List.mem_cons_of_mem _ (List.mem_cons_of_mem _ (List.mem_cons_of_mem _ (List.mem_cons_of_mem _ (List.mem_cons_of_mem _ (List.mem_cons_of_mem _ (List.mem_cons_of_mem _ (List.mem_cons_of_mem _ (List.mem_cons_of_mem _ (List.mem_cons_of_mem _ (List.mem_cons_of_mem _ (List.mem_cons_of_mem _ (List.mem_cons_self))))))))))))))))))))
theorem u_17_19 : (Cond.code yX8_fillRest cX8_fillRest 5 none) ∈ uU := uT_16 _ (List.mem_append_left _ (List.mem_cons_of_mem _ (List.mem_cons_of_mem _ (List.mem_cons_of_mem _ (List.mem_cons_of_mem _ (List.mem_cons_of_mem _ (List.mem_cons_of_mem _ (List.mem_cons_of_mem _ (List.mem_cons_of_mem _ (List.mem_cons_of_mem _ (List.mem_cons_of_mem _ (List.mem_cons_of_mem _ (List.mem_cons_of_mem _ (List.mem_cons_of_mem _ (List.mem_cons_of_mem _ (List.mem_cons_of_mem _ (List.mem_cons_of_mem _ (List.mem_cons_of_mem _ (List.mem_cons_of_mem _ (List.mem_cons_of_mem _ (List.mem_cons_self)))))))))))))))))))))
theorem u_17_20 : (Cond.methodLink RX8 131 yX8_leastWayThatFits) ∈ uU := uT_16 _ (List.mem_append_left _ (List.mem_cons_of_mem _ (List.mem_cons_of_mem _ (List.mem_cons_of_mem _ (List.mem_cons_of_mem _ (List.mem_cons_of_mem _ (List.mem_cons_of_mem _ (List.mem_cons_of_mem _ (List.mem_cons_of_mem _ (List.mem_cons_of_mem _ (List.mem_cons_of_mem _ (List.mem_cons_of_mem _ (List.mem_cons_of_mem _ (List.mem_cons_of_mem _ (List.mem_cons_of_mem _ (List.mem_cons_of_mem _ (List.mem_cons_of_mem _ (List.mem_cons_of_mem _ (List.mem_cons_of_mem _ (List.mem_cons_of_mem _ (List.mem_cons_of_mem _ (List.mem_cons_self))))))))))))))))))))))
theorem u_17_21 : (Cond.instanceMethod yX8_leastWayThatFits) ∈ uU := uT_16 _ (List.mem_append_left _ (List.mem_cons_of_mem _ (List.mem_cons_of_mem _ (List.mem_cons_of_mem _ (List.mem_cons_of_mem _ (List.mem_cons_of_mem _ (List.mem_cons_of_mem _ (List.mem_cons_of_mem _ (List.mem_cons_of_mem _ (List.mem_cons_of_mem _ (List.mem_cons_of_mem _ (List.mem_cons_of_mem _ (List.mem_cons_of_mem _ (List.mem_cons_of_mem _ (List.mem_cons_of_mem _ (List.mem_cons_of_mem _ (List.mem_cons_of_mem _ (List.mem_cons_of_mem _ (List.mem_cons_of_mem _ (List.mem_cons_of_mem _ (List.mem_cons_of_mem _ (List.mem_cons_of_mem _ (List.mem_cons_self)))))))))))))))))))))))
theorem u_17_22 : (Cond.selects RX8 yX8_leastWayThatFits yX8_leastWayThatFits) ∈ uU := uT_16 _ (List.mem_append_left _ (List.mem_cons_of_mem _ (List.mem_cons_of_mem _ (List.mem_cons_of_mem _ (List.mem_cons_of_mem _ (List.mem_cons_of_mem _ (List.mem_cons_of_mem _ (List.mem_cons_of_mem _ (List.mem_cons_of_mem _ (List.mem_cons_of_mem _ (List.mem_cons_of_mem _ (List.mem_cons_of_mem _ (List.mem_cons_of_mem _ (List.mem_cons_of_mem _ (List.mem_cons_of_mem _ (List.mem_cons_of_mem _ (List.mem_cons_of_mem _ (List.mem_cons_of_mem _ (List.mem_cons_of_mem _ (List.mem_cons_of_mem _ (List.mem_cons_of_mem _ (List.mem_cons_of_mem _ (List.mem_cons_of_mem _ (List.mem_cons_self))))))))))))))))))))))))
theorem u_17_23 : (Cond.code yX8_leastWayThatFits cX8_leastWayThatFits 3 (some .int)) ∈ uU := uT_16 _ (List.mem_append_left _ (List.mem_cons_of_mem _ (List.mem_cons_of_mem _ (List.mem_cons_of_mem _ (List.mem_cons_of_mem _ (List.mem_cons_of_mem _ (List.mem_cons_of_mem _ (List.mem_cons_of_mem _ (List.mem_cons_of_mem _ (List.mem_cons_of_mem _ (List.mem_cons_of_mem _ (List.mem_cons_of_mem _ (List.mem_cons_of_mem _ (List.mem_cons_of_mem _ (List.mem_cons_of_mem _ (List.mem_cons_of_mem _ (List.mem_cons_of_mem _ (List.mem_cons_of_mem _ (List.mem_cons_of_mem _ (List.mem_cons_of_mem _ (List.mem_cons_of_mem _ (List.mem_cons_of_mem _ (List.mem_cons_of_mem _ (List.mem_cons_of_mem _ (List.mem_cons_self)))))))))))))))))))))))))
theorem u_18_0 : (Cond.methodLink RX8 88 yX8_fits) ∈ uU := uT_17 _ (List.mem_append_left _ (List.mem_cons_self))
theorem u_18_1 : (Cond.instanceMethod yX8_fits) ∈ uU := uT_17 _ (List.mem_append_left _ (List.mem_cons_of_mem _ (List.mem_cons_self)))
theorem u_18_2 : (Cond.selects RX8 yX8_fits yX8_fits) ∈ uU := uT_17 _ (List.mem_append_left _ (List.mem_cons_of_mem _ (List.mem_cons_of_mem _ (List.mem_cons_self))))
theorem u_18_3 : (Cond.code yX8_fits cX8_fits 4 (some .boolean)) ∈ uU := uT_17 _ (List.mem_append_left _ (List.mem_cons_of_mem _ (List.mem_cons_of_mem _ (List.mem_cons_of_mem _ (List.mem_cons_self)))))
theorem u_18_4 : (Cond.methodLink RX8 125 yX4_sources) ∈ uU := uT_17 _ (List.mem_append_left _ (List.mem_cons_of_mem _ (List.mem_cons_of_mem _ (List.mem_cons_of_mem _ (List.mem_cons_of_mem _ (List.mem_cons_self))))))
theorem u_18_5 : (Cond.methodLink RX8 128 yX4_priceOf) ∈ uU := uT_17 _ (List.mem_append_left _ (List.mem_cons_of_mem _ (List.mem_cons_of_mem _ (List.mem_cons_of_mem _ (List.mem_cons_of_mem _ (List.mem_cons_of_mem _ (List.mem_cons_self)))))))
theorem u_18_6 : (Cond.methodLink RX8 134 yX8_datesOfTheHeld) ∈ uU := uT_17 _ (List.mem_append_left _ (List.mem_cons_of_mem _ (List.mem_cons_of_mem _ (List.mem_cons_of_mem _ (List.mem_cons_of_mem _ (List.mem_cons_of_mem _ (List.mem_cons_of_mem _ (List.mem_cons_self))))))))
theorem u_18_7 : (Cond.instanceMethod yX8_datesOfTheHeld) ∈ uU := uT_17 _ (List.mem_append_left _ (List.mem_cons_of_mem _ (List.mem_cons_of_mem _ (List.mem_cons_of_mem _ (List.mem_cons_of_mem _ (List.mem_cons_of_mem _ (List.mem_cons_of_mem _ (List.mem_cons_of_mem _ (List.mem_cons_self)))))))))
theorem u_18_8 : (Cond.selects RX8 yX8_datesOfTheHeld yX8_datesOfTheHeld) ∈ uU := uT_17 _ (List.mem_append_left _ (List.mem_cons_of_mem _ (List.mem_cons_of_mem _ (List.mem_cons_of_mem _ (List.mem_cons_of_mem _ (List.mem_cons_of_mem _ (List.mem_cons_of_mem _ (List.mem_cons_of_mem _ (List.mem_cons_of_mem _ (List.mem_cons_self))))))))))
theorem u_18_9 : (Cond.code yX8_datesOfTheHeld cX8_datesOfTheHeld 3 none) ∈ uU := uT_17 _ (List.mem_append_left _ (List.mem_cons_of_mem _ (List.mem_cons_of_mem _ (List.mem_cons_of_mem _ (List.mem_cons_of_mem _ (List.mem_cons_of_mem _ (List.mem_cons_of_mem _ (List.mem_cons_of_mem _ (List.mem_cons_of_mem _ (List.mem_cons_of_mem _ (List.mem_cons_self)))))))))))
theorem u_18_10 : (Cond.fieldLink RX8 92 "ChainLetters$Trees" "quarrel" "Z") ∈ uU := uT_17 _ (List.mem_append_left _ (List.mem_cons_of_mem _ (List.mem_cons_of_mem _ (List.mem_cons_of_mem _ (List.mem_cons_of_mem _ (List.mem_cons_of_mem _ (List.mem_cons_of_mem _ (List.mem_cons_of_mem _ (List.mem_cons_of_mem _ (List.mem_cons_of_mem _ (List.mem_cons_of_mem _ (List.mem_cons_self))))))))))))
theorem u_18_11 : (Cond.methodLink RX8 137 yX4_firstYear) ∈ uU := uT_17 _ (List.mem_append_left _ (List.mem_cons_of_mem _ (List.mem_cons_of_mem _ (List.mem_cons_of_mem _ (List.mem_cons_of_mem _ (List.mem_cons_of_mem _ (List.mem_cons_of_mem _ (List.mem_cons_of_mem _ (List.mem_cons_of_mem _ (List.mem_cons_of_mem _ (List.mem_cons_of_mem _ (List.mem_cons_of_mem _ (List.mem_cons_self)))))))))))))
theorem u_18_12 : (Cond.instanceMethod yX4_firstYear) ∈ uU := uT_17 _ (List.mem_append_left _ (List.mem_cons_of_mem _ (List.mem_cons_of_mem _ (List.mem_cons_of_mem _ (List.mem_cons_of_mem _ (List.mem_cons_of_mem _ (List.mem_cons_of_mem _ (List.mem_cons_of_mem _ (List.mem_cons_of_mem _ (List.mem_cons_of_mem _ (List.mem_cons_of_mem _ (List.mem_cons_of_mem _ (List.mem_cons_of_mem _ (List.mem_cons_self))))))))))))))
theorem u_18_13 : (Cond.selects RX4 yX4_firstYear yX4_firstYear) ∈ uU := uT_17 _ (List.mem_append_left _ (List.mem_cons_of_mem _ (List.mem_cons_of_mem _ (List.mem_cons_of_mem _ (List.mem_cons_of_mem _ (List.mem_cons_of_mem _ (List.mem_cons_of_mem _ (List.mem_cons_of_mem _ (List.mem_cons_of_mem _ (List.mem_cons_of_mem _ (List.mem_cons_of_mem _ (List.mem_cons_of_mem _ (List.mem_cons_of_mem _ (List.mem_cons_of_mem _ (List.mem_cons_self)))))))))))))))
theorem u_18_14 : (Cond.code yX4_firstYear cX4_firstYear 2 (some .int)) ∈ uU := uT_17 _ (List.mem_append_left _ (List.mem_cons_of_mem _ (List.mem_cons_of_mem _ (List.mem_cons_of_mem _ (List.mem_cons_of_mem _ (List.mem_cons_of_mem _ (List.mem_cons_of_mem _ (List.mem_cons_of_mem _ (List.mem_cons_of_mem _ (List.mem_cons_of_mem _ (List.mem_cons_of_mem _ (List.mem_cons_of_mem _ (List.mem_cons_of_mem _ (List.mem_cons_of_mem _ (List.mem_cons_of_mem _ (List.mem_cons_self))))))))))))))))
theorem u_18_15 : (Cond.methodLink RX8 140 yX4_lastYear) ∈ uU := uT_17 _ (List.mem_append_left _ (List.mem_cons_of_mem _ (List.mem_cons_of_mem _ (List.mem_cons_of_mem _ (List.mem_cons_of_mem _ (List.mem_cons_of_mem _ (List.mem_cons_of_mem _ (List.mem_cons_of_mem _ (List.mem_cons_of_mem _ (List.mem_cons_of_mem _ (List.mem_cons_of_mem _ (List.mem_cons_of_mem _ (List.mem_cons_of_mem _ (List.mem_cons_of_mem _ (List.mem_cons_of_mem _ (List.mem_cons_of_mem _ (List.mem_cons_self)))))))))))))))))
theorem u_18_16 : (Cond.instanceMethod yX4_lastYear) ∈ uU := uT_17 _ (List.mem_append_left _ (List.mem_cons_of_mem _ (List.mem_cons_of_mem _ (List.mem_cons_of_mem _ (List.mem_cons_of_mem _ (List.mem_cons_of_mem _ (List.mem_cons_of_mem _ (List.mem_cons_of_mem _ (List.mem_cons_of_mem _ (List.mem_cons_of_mem _ (List.mem_cons_of_mem _ (List.mem_cons_of_mem _ (List.mem_cons_of_mem _ (List.mem_cons_of_mem _ (List.mem_cons_of_mem _ (List.mem_cons_of_mem _ (List.mem_cons_of_mem _ (List.mem_cons_self))))))))))))))))))
theorem u_18_17 : (Cond.selects RX4 yX4_lastYear yX4_lastYear) ∈ uU := uT_17 _ (List.mem_append_left _ (List.mem_cons_of_mem _ (List.mem_cons_of_mem _ (List.mem_cons_of_mem _ (List.mem_cons_of_mem _ (List.mem_cons_of_mem _ (List.mem_cons_of_mem _ (List.mem_cons_of_mem _ (List.mem_cons_of_mem _ (List.mem_cons_of_mem _ (List.mem_cons_of_mem _ (List.mem_cons_of_mem _ (List.mem_cons_of_mem _ (List.mem_cons_of_mem _ (List.mem_cons_of_mem _ (List.mem_cons_of_mem _ (List.mem_cons_of_mem _ (List.mem_cons_of_mem _ (List.mem_cons_self)))))))))))))))))))
theorem u_18_18 : (Cond.code yX4_lastYear cX4_lastYear 2 (some .int)) ∈ uU := uT_17 _ (List.mem_append_left _ (List.mem_cons_of_mem _ (List.mem_cons_of_mem _ (List.mem_cons_of_mem _ (List.mem_cons_of_mem _ (List.mem_cons_of_mem _ (List.mem_cons_of_mem _ (List.mem_cons_of_mem _ (List.mem_cons_of_mem _ (List.mem_cons_of_mem _ (List.mem_cons_of_mem _ (List.mem_cons_of_mem _ (List.mem_cons_of_mem _ (List.mem_cons_of_mem _ (List.mem_cons_of_mem _ (List.mem_cons_of_mem _ (List.mem_cons_of_mem _ (List.mem_cons_of_mem _ (List.mem_cons_of_mem _ (List.mem_cons_self))))))))))))))))))))
theorem u_18_19 : (Cond.methodLink RX8 143 yX8_pushYears) ∈ uU := uT_17 _ (List.mem_append_left _ (List.mem_cons_of_mem _ (List.mem_cons_of_mem _ (List.mem_cons_of_mem _ (List.mem_cons_of_mem _ (List.mem_cons_of_mem _ (List.mem_cons_of_mem _ (List.mem_cons_of_mem _ (List.mem_cons_of_mem _ (List.mem_cons_of_mem _ (List.mem_cons_of_mem _ (List.mem_cons_of_mem _ (List.mem_cons_of_mem _ (List.mem_cons_of_mem _ (List.mem_cons_of_mem _ (List.mem_cons_of_mem _ (List.mem_cons_of_mem _ (List.mem_cons_of_mem _ (List.mem_cons_of_mem _ (List.mem_cons_of_mem _ (List.mem_cons_self)))))))))))))))))))))
theorem u_18_20 : (Cond.instanceMethod yX8_pushYears) ∈ uU := uT_17 _ (List.mem_append_left _ (List.mem_cons_of_mem _ (List.mem_cons_of_mem _ (List.mem_cons_of_mem _ (List.mem_cons_of_mem _ (List.mem_cons_of_mem _ (List.mem_cons_of_mem _ (List.mem_cons_of_mem _ (List.mem_cons_of_mem _ (List.mem_cons_of_mem _ (List.mem_cons_of_mem _ (List.mem_cons_of_mem _ (List.mem_cons_of_mem _ (List.mem_cons_of_mem _ (List.mem_cons_of_mem _ (List.mem_cons_of_mem _ (List.mem_cons_of_mem _ (List.mem_cons_of_mem _ (List.mem_cons_of_mem _ (List.mem_cons_of_mem _ (List.mem_cons_of_mem _ (List.mem_cons_self))))))))))))))))))))))
theorem u_18_21 : (Cond.selects RX8 yX8_pushYears yX8_pushYears) ∈ uU := uT_17 _ (List.mem_append_left _ (List.mem_cons_of_mem _ (List.mem_cons_of_mem _ (List.mem_cons_of_mem _ (List.mem_cons_of_mem _ (List.mem_cons_of_mem _ (List.mem_cons_of_mem _ (List.mem_cons_of_mem _ (List.mem_cons_of_mem _ (List.mem_cons_of_mem _ (List.mem_cons_of_mem _ (List.mem_cons_of_mem _ (List.mem_cons_of_mem _ (List.mem_cons_of_mem _ (List.mem_cons_of_mem _ (List.mem_cons_of_mem _ (List.mem_cons_of_mem _ (List.mem_cons_of_mem _ (List.mem_cons_of_mem _ (List.mem_cons_of_mem _ (List.mem_cons_of_mem _ (List.mem_cons_of_mem _ (List.mem_cons_self)))))))))))))))))))))))
theorem u_18_22 : (Cond.code yX8_pushYears cX8_pushYears 3 none) ∈ uU := uT_17 _ (List.mem_append_left _ (List.mem_cons_of_mem _ (List.mem_cons_of_mem _ (List.mem_cons_of_mem _ (List.mem_cons_of_mem _ (List.mem_cons_of_mem _ (List.mem_cons_of_mem _ (List.mem_cons_of_mem _ (List.mem_cons_of_mem _ (List.mem_cons_of_mem _ (List.mem_cons_of_mem _ (List.mem_cons_of_mem _ (List.mem_cons_of_mem _ (List.mem_cons_of_mem _ (List.mem_cons_of_mem _ (List.mem_cons_of_mem _ (List.mem_cons_of_mem _ (List.mem_cons_of_mem _ (List.mem_cons_of_mem _ (List.mem_cons_of_mem _ (List.mem_cons_of_mem _ (List.mem_cons_of_mem _ (List.mem_cons_of_mem _ (List.mem_cons_self))))))))))))))))))))))))
theorem u_18_23 : (Cond.methodLink RX8 146 Lib.Math.max.name) ∈ uU := uT_17 _ (List.mem_append_left _ (List.mem_cons_of_mem _ (List.mem_cons_of_mem _ (List.mem_cons_of_mem _ (List.mem_cons_of_mem _ (List.mem_cons_of_mem _ (List.mem_cons_of_mem _ (List.mem_cons_of_mem _ (List.mem_cons_of_mem _ (List.mem_cons_of_mem _ (List.mem_cons_of_mem _ (List.mem_cons_of_mem _ (List.mem_cons_of_mem _ (List.mem_cons_of_mem _ (List.mem_cons_of_mem _ (List.mem_cons_of_mem _ (List.mem_cons_of_mem _ (List.mem_cons_of_mem _ (List.mem_cons_of_mem _ (List.mem_cons_of_mem _ (List.mem_cons_of_mem _ (List.mem_cons_of_mem _ (List.mem_cons_of_mem _ (List.mem_cons_of_mem _ (List.mem_cons_self)))))))))))))))))))))))))
theorem u_19_0 : (Cond.static Lib.Math.max.name) ∈ uU := uT_18 _ (List.mem_append_left _ (List.mem_cons_self))
theorem u_19_1 : (Cond.code Lib.Math.max.name Lib.Math.max.code 2 (some .int)) ∈ uU := uT_18 _ (List.mem_append_left _ (List.mem_cons_of_mem _ (List.mem_cons_self)))
theorem u_19_2 : (Cond.methodLink RL 40 yX10_way) ∈ uU := uT_18 _ (List.mem_append_left _ (List.mem_cons_of_mem _ (List.mem_cons_of_mem _ (List.mem_cons_self))))
theorem u_19_3 : (Cond.instanceMethod yX10_way) ∈ uU := uT_18 _ (List.mem_append_left _ (List.mem_cons_of_mem _ (List.mem_cons_of_mem _ (List.mem_cons_of_mem _ (List.mem_cons_self)))))
theorem u_19_4 : (Cond.selects RX10 yX10_way yX10_way) ∈ uU := uT_18 _ (List.mem_append_left _ (List.mem_cons_of_mem _ (List.mem_cons_of_mem _ (List.mem_cons_of_mem _ (List.mem_cons_of_mem _ (List.mem_cons_self))))))
theorem u_19_5 : (Cond.code yX10_way cX10_way 2 (some .int)) ∈ uU := uT_18 _ (List.mem_append_left _ (List.mem_cons_of_mem _ (List.mem_cons_of_mem _ (List.mem_cons_of_mem _ (List.mem_cons_of_mem _ (List.mem_cons_of_mem _ (List.mem_cons_self)))))))
theorem u_19_6 : (Cond.methodLink RX10 185 yX10_plants) ∈ uU := uT_18 _ (List.mem_append_left _ (List.mem_cons_of_mem _ (List.mem_cons_of_mem _ (List.mem_cons_of_mem _ (List.mem_cons_of_mem _ (List.mem_cons_of_mem _ (List.mem_cons_of_mem _ (List.mem_cons_self))))))))
theorem u_19_7 : (Cond.instanceMethod yX10_plants) ∈ uU := uT_18 _ (List.mem_append_left _ (List.mem_cons_of_mem _ (List.mem_cons_of_mem _ (List.mem_cons_of_mem _ (List.mem_cons_of_mem _ (List.mem_cons_of_mem _ (List.mem_cons_of_mem _ (List.mem_cons_of_mem _ (List.mem_cons_self)))))))))
theorem u_19_8 : (Cond.selects RX10 yX10_plants yX10_plants) ∈ uU := uT_18 _ (List.mem_append_left _ (List.mem_cons_of_mem _ (List.mem_cons_of_mem _ (List.mem_cons_of_mem _ (List.mem_cons_of_mem _ (List.mem_cons_of_mem _ (List.mem_cons_of_mem _ (List.mem_cons_of_mem _ (List.mem_cons_of_mem _ (List.mem_cons_self))))))))))
theorem u_19_9 : (Cond.code yX10_plants cX10_plants 5 none) ∈ uU := uT_18 _ (List.mem_append_left _ (List.mem_cons_of_mem _ (List.mem_cons_of_mem _ (List.mem_cons_of_mem _ (List.mem_cons_of_mem _ (List.mem_cons_of_mem _ (List.mem_cons_of_mem _ (List.mem_cons_of_mem _ (List.mem_cons_of_mem _ (List.mem_cons_of_mem _ (List.mem_cons_self)))))))))))
theorem u_19_10 : (Cond.methodLink RL 41 yX9_may) ∈ uU := uT_18 _ (List.mem_append_left _ (List.mem_cons_of_mem _ (List.mem_cons_of_mem _ (List.mem_cons_of_mem _ (List.mem_cons_of_mem _ (List.mem_cons_of_mem _ (List.mem_cons_of_mem _ (List.mem_cons_of_mem _ (List.mem_cons_of_mem _ (List.mem_cons_of_mem _ (List.mem_cons_of_mem _ (List.mem_cons_self))))))))))))
theorem u_19_11 : (Cond.instanceMethod yX9_may) ∈ uU := uT_18 _ (List.mem_append_left _ (List.mem_cons_of_mem _ (List.mem_cons_of_mem _ (List.mem_cons_of_mem _ (List.mem_cons_of_mem _ (List.mem_cons_of_mem _ (List.mem_cons_of_mem _ (List.mem_cons_of_mem _ (List.mem_cons_of_mem _ (List.mem_cons_of_mem _ (List.mem_cons_of_mem _ (List.mem_cons_of_mem _ (List.mem_cons_self)))))))))))))
theorem u_19_12 : (Cond.selects RX9 yX9_may yX9_may) ∈ uU := uT_18 _ (List.mem_append_left _ (List.mem_cons_of_mem _ (List.mem_cons_of_mem _ (List.mem_cons_of_mem _ (List.mem_cons_of_mem _ (List.mem_cons_of_mem _ (List.mem_cons_of_mem _ (List.mem_cons_of_mem _ (List.mem_cons_of_mem _ (List.mem_cons_of_mem _ (List.mem_cons_of_mem _ (List.mem_cons_of_mem _ (List.mem_cons_of_mem _ (List.mem_cons_self))))))))))))))
theorem u_19_13 : (Cond.code yX9_may cX9_may 3 (some .int)) ∈ uU := uT_18 _ (List.mem_append_left _ (List.mem_cons_of_mem _ (List.mem_cons_of_mem _ (List.mem_cons_of_mem _ (List.mem_cons_of_mem _ (List.mem_cons_of_mem _ (List.mem_cons_of_mem _ (List.mem_cons_of_mem _ (List.mem_cons_of_mem _ (List.mem_cons_of_mem _ (List.mem_cons_of_mem _ (List.mem_cons_of_mem _ (List.mem_cons_of_mem _ (List.mem_cons_of_mem _ (List.mem_cons_self)))))))))))))))
theorem u_19_14 : (Cond.methodLink RX9 110 yX8_mayHave) ∈ uU := uT_18 _ (List.mem_append_left _ (List.mem_cons_of_mem _ (List.mem_cons_of_mem _ (List.mem_cons_of_mem _ (List.mem_cons_of_mem _ (List.mem_cons_of_mem _ (List.mem_cons_of_mem _ (List.mem_cons_of_mem _ (List.mem_cons_of_mem _ (List.mem_cons_of_mem _ (List.mem_cons_of_mem _ (List.mem_cons_of_mem _ (List.mem_cons_of_mem _ (List.mem_cons_of_mem _ (List.mem_cons_of_mem _ (List.mem_cons_self))))))))))))))))
theorem u_19_15 : (Cond.instanceMethod yX8_mayHave) ∈ uU := uT_18 _ (List.mem_append_left _ (List.mem_cons_of_mem _ (List.mem_cons_of_mem _ (List.mem_cons_of_mem _ (List.mem_cons_of_mem _ (List.mem_cons_of_mem _ (List.mem_cons_of_mem _ (List.mem_cons_of_mem _ (List.mem_cons_of_mem _ (List.mem_cons_of_mem _ (List.mem_cons_of_mem _ (List.mem_cons_of_mem _ (List.mem_cons_of_mem _ (List.mem_cons_of_mem _ (List.mem_cons_of_mem _ (List.mem_cons_of_mem _ (List.mem_cons_self)))))))))))))))))
theorem u_19_16 : (Cond.selects RX8 yX8_mayHave yX8_mayHave) ∈ uU := uT_18 _ (List.mem_append_left _ (List.mem_cons_of_mem _ (List.mem_cons_of_mem _ (List.mem_cons_of_mem _ (List.mem_cons_of_mem _ (List.mem_cons_of_mem _ (List.mem_cons_of_mem _ (List.mem_cons_of_mem _ (List.mem_cons_of_mem _ (List.mem_cons_of_mem _ (List.mem_cons_of_mem _ (List.mem_cons_of_mem _ (List.mem_cons_of_mem _ (List.mem_cons_of_mem _ (List.mem_cons_of_mem _ (List.mem_cons_of_mem _ (List.mem_cons_of_mem _ (List.mem_cons_self))))))))))))))))))
theorem u_19_17 : (Cond.code yX8_mayHave cX8_mayHave 3 (some .boolean)) ∈ uU := uT_18 _ (List.mem_append_left _ (List.mem_cons_of_mem _ (List.mem_cons_of_mem _ (List.mem_cons_of_mem _ (List.mem_cons_of_mem _ (List.mem_cons_of_mem _ (List.mem_cons_of_mem _ (List.mem_cons_of_mem _ (List.mem_cons_of_mem _ (List.mem_cons_of_mem _ (List.mem_cons_of_mem _ (List.mem_cons_of_mem _ (List.mem_cons_of_mem _ (List.mem_cons_of_mem _ (List.mem_cons_of_mem _ (List.mem_cons_of_mem _ (List.mem_cons_of_mem _ (List.mem_cons_of_mem _ (List.mem_cons_self)))))))))))))))))))
theorem u_19_18 : (Cond.methodLink RL 44 yX10_may) ∈ uU := uT_18 _ (List.mem_append_left _ (List.mem_cons_of_mem _ (List.mem_cons_of_mem _ (List.mem_cons_of_mem _ (List.mem_cons_of_mem _ (List.mem_cons_of_mem _ (List.mem_cons_of_mem _ (List.mem_cons_of_mem _ (List.mem_cons_of_mem _ (List.mem_cons_of_mem _ (List.mem_cons_of_mem _ (List.mem_cons_of_mem _ (List.mem_cons_of_mem _ (List.mem_cons_of_mem _ (List.mem_cons_of_mem _ (List.mem_cons_of_mem _ (List.mem_cons_of_mem _ (List.mem_cons_of_mem _ (List.mem_cons_of_mem _ (List.mem_cons_self))))))))))))))))))))
theorem u_19_19 : (Cond.instanceMethod yX10_may) ∈ uU := uT_18 _ (List.mem_append_left _ (List.mem_cons_of_mem _ (List.mem_cons_of_mem _ (List.mem_cons_of_mem _ (List.mem_cons_of_mem _ (List.mem_cons_of_mem _ (List.mem_cons_of_mem _ (List.mem_cons_of_mem _ (List.mem_cons_of_mem _ (List.mem_cons_of_mem _ (List.mem_cons_of_mem _ (List.mem_cons_of_mem _ (List.mem_cons_of_mem _ (List.mem_cons_of_mem _ (List.mem_cons_of_mem _ (List.mem_cons_of_mem _ (List.mem_cons_of_mem _ (List.mem_cons_of_mem _ (List.mem_cons_of_mem _ (List.mem_cons_of_mem _ (List.mem_cons_self)))))))))))))))))))))
theorem u_19_20 : (Cond.selects RX10 yX10_may yX10_may) ∈ uU := uT_18 _ (List.mem_append_left _ (List.mem_cons_of_mem _ (List.mem_cons_of_mem _ (List.mem_cons_of_mem _ (List.mem_cons_of_mem _ (List.mem_cons_of_mem _ (List.mem_cons_of_mem _ (List.mem_cons_of_mem _ (List.mem_cons_of_mem _ (List.mem_cons_of_mem _ (List.mem_cons_of_mem _ (List.mem_cons_of_mem _ (List.mem_cons_of_mem _ (List.mem_cons_of_mem _ (List.mem_cons_of_mem _ (List.mem_cons_of_mem _ (List.mem_cons_of_mem _ (List.mem_cons_of_mem _ (List.mem_cons_of_mem _ (List.mem_cons_of_mem _ (List.mem_cons_of_mem _ (List.mem_cons_self))))))))))))))))))))))
theorem u_19_21 : (Cond.code yX10_may cX10_may 4 (some .int)) ∈ uU := uT_18 _ (List.mem_append_left _ (List.mem_cons_of_mem _ (List.mem_cons_of_mem _ (List.mem_cons_of_mem _ (List.mem_cons_of_mem _ (List.mem_cons_of_mem _ (List.mem_cons_of_mem _ (List.mem_cons_of_mem _ (List.mem_cons_of_mem _ (List.mem_cons_of_mem _ (List.mem_cons_of_mem _ (List.mem_cons_of_mem _ (List.mem_cons_of_mem _ (List.mem_cons_of_mem _ (List.mem_cons_of_mem _ (List.mem_cons_of_mem _ (List.mem_cons_of_mem _ (List.mem_cons_of_mem _ (List.mem_cons_of_mem _ (List.mem_cons_of_mem _ (List.mem_cons_of_mem _ (List.mem_cons_of_mem _ (List.mem_cons_self)))))))))))))))))))))))
theorem u_19_22 : (Cond.methodLink RL 45 yX9_sure) ∈ uU := uT_18 _ (List.mem_append_left _ (List.mem_cons_of_mem _ (List.mem_cons_of_mem _ (List.mem_cons_of_mem _ (List.mem_cons_of_mem _ (List.mem_cons_of_mem _ (List.mem_cons_of_mem _ (List.mem_cons_of_mem _ (List.mem_cons_of_mem _ (List.mem_cons_of_mem _ (List.mem_cons_of_mem _ (List.mem_cons_of_mem _ (List.mem_cons_of_mem _ (List.mem_cons_of_mem _ (List.mem_cons_of_mem _ (List.mem_cons_of_mem _ (List.mem_cons_of_mem _ (List.mem_cons_of_mem _ (List.mem_cons_of_mem _ (List.mem_cons_of_mem _ (List.mem_cons_of_mem _ (List.mem_cons_of_mem _ (List.mem_cons_of_mem _ (List.mem_cons_self))))))))))))))))))))))))
theorem u_19_23 : (Cond.instanceMethod yX9_sure) ∈ uU := uT_18 _ (List.mem_append_left _ (List.mem_cons_of_mem _ (List.mem_cons_of_mem _ (List.mem_cons_of_mem _ (List.mem_cons_of_mem _ (List.mem_cons_of_mem _ (List.mem_cons_of_mem _ (List.mem_cons_of_mem _ (List.mem_cons_of_mem _ (List.mem_cons_of_mem _ (List.mem_cons_of_mem _ (List.mem_cons_of_mem _ (List.mem_cons_of_mem _ (List.mem_cons_of_mem _ (List.mem_cons_of_mem _ (List.mem_cons_of_mem _ (List.mem_cons_of_mem _ (List.mem_cons_of_mem _ (List.mem_cons_of_mem _ (List.mem_cons_of_mem _ (List.mem_cons_of_mem _ (List.mem_cons_of_mem _ (List.mem_cons_of_mem _ (List.mem_cons_of_mem _ (List.mem_cons_self)))))))))))))))))))))))))
theorem u_20_0 : (Cond.selects RX9 yX9_sure yX9_sure) ∈ uU := uT_19 _ (List.mem_append_left _ (List.mem_cons_self))
theorem u_20_1 : (Cond.code yX9_sure cX9_sure 2 (some .int)) ∈ uU := uT_19 _ (List.mem_append_left _ (List.mem_cons_of_mem _ (List.mem_cons_self)))
theorem u_20_2 : (Cond.methodLink RX9 114 yX8_waysThatMayBe) ∈ uU := uT_19 _ (List.mem_append_left _ (List.mem_cons_of_mem _ (List.mem_cons_of_mem _ (List.mem_cons_self))))
theorem u_20_3 : (Cond.instanceMethod yX8_waysThatMayBe) ∈ uU := uT_19 _ (List.mem_append_left _ (List.mem_cons_of_mem _ (List.mem_cons_of_mem _ (List.mem_cons_of_mem _ (List.mem_cons_self)))))
theorem u_20_4 : (Cond.selects RX8 yX8_waysThatMayBe yX8_waysThatMayBe) ∈ uU := uT_19 _ (List.mem_append_left _ (List.mem_cons_of_mem _ (List.mem_cons_of_mem _ (List.mem_cons_of_mem _ (List.mem_cons_of_mem _ (List.mem_cons_self))))))
theorem u_20_5 : (Cond.code yX8_waysThatMayBe cX8_waysThatMayBe 4 (some .int)) ∈ uU := uT_19 _ (List.mem_append_left _ (List.mem_cons_of_mem _ (List.mem_cons_of_mem _ (List.mem_cons_of_mem _ (List.mem_cons_of_mem _ (List.mem_cons_of_mem _ (List.mem_cons_self)))))))
theorem u_20_6 : (Cond.methodLink RL 48 yX10_sure) ∈ uU := uT_19 _ (List.mem_append_left _ (List.mem_cons_of_mem _ (List.mem_cons_of_mem _ (List.mem_cons_of_mem _ (List.mem_cons_of_mem _ (List.mem_cons_of_mem _ (List.mem_cons_of_mem _ (List.mem_cons_self))))))))
theorem u_20_7 : (Cond.instanceMethod yX10_sure) ∈ uU := uT_19 _ (List.mem_append_left _ (List.mem_cons_of_mem _ (List.mem_cons_of_mem _ (List.mem_cons_of_mem _ (List.mem_cons_of_mem _ (List.mem_cons_of_mem _ (List.mem_cons_of_mem _ (List.mem_cons_of_mem _ (List.mem_cons_self)))))))))
theorem u_20_8 : (Cond.selects RX10 yX10_sure yX10_sure) ∈ uU := uT_19 _ (List.mem_append_left _ (List.mem_cons_of_mem _ (List.mem_cons_of_mem _ (List.mem_cons_of_mem _ (List.mem_cons_of_mem _ (List.mem_cons_of_mem _ (List.mem_cons_of_mem _ (List.mem_cons_of_mem _ (List.mem_cons_of_mem _ (List.mem_cons_self))))))))))
theorem u_20_9 : (Cond.code yX10_sure cX10_sure 5 (some .int)) ∈ uU := uT_19 _ (List.mem_append_left _ (List.mem_cons_of_mem _ (List.mem_cons_of_mem _ (List.mem_cons_of_mem _ (List.mem_cons_of_mem _ (List.mem_cons_of_mem _ (List.mem_cons_of_mem _ (List.mem_cons_of_mem _ (List.mem_cons_of_mem _ (List.mem_cons_of_mem _ (List.mem_cons_self)))))))))))
theorem u_20_10 : (Cond.methodLink RL 49 yX9_date) ∈ uU := uT_19 _ (List.mem_append_left _ (List.mem_cons_of_mem _ (List.mem_cons_of_mem _ (List.mem_cons_of_mem _ (List.mem_cons_of_mem _ (List.mem_cons_of_mem _ (List.mem_cons_of_mem _ (List.mem_cons_of_mem _ (List.mem_cons_of_mem _ (List.mem_cons_of_mem _ (List.mem_cons_of_mem _ (List.mem_cons_self))))))))))))
theorem u_20_11 : (Cond.instanceMethod yX9_date) ∈ uU := uT_19 _ (List.mem_append_left _ (List.mem_cons_of_mem _ (List.mem_cons_of_mem _ (List.mem_cons_of_mem _ (List.mem_cons_of_mem _ (List.mem_cons_of_mem _ (List.mem_cons_of_mem _ (List.mem_cons_of_mem _ (List.mem_cons_of_mem _ (List.mem_cons_of_mem _ (List.mem_cons_of_mem _ (List.mem_cons_of_mem _ (List.mem_cons_self)))))))))))))
theorem u_20_12 : (Cond.selects RX9 yX9_date yX9_date) ∈ uU := uT_19 _ (List.mem_append_left _ (List.mem_cons_of_mem _ (List.mem_cons_of_mem _ (List.mem_cons_of_mem _ (List.mem_cons_of_mem _ (List.mem_cons_of_mem _ (List.mem_cons_of_mem _ (List.mem_cons_of_mem _ (List.mem_cons_of_mem _ (List.mem_cons_of_mem _ (List.mem_cons_of_mem _ (List.mem_cons_of_mem _ (List.mem_cons_of_mem _ (List.mem_cons_self))))))))))))))
theorem u_20_13 : (Cond.code yX9_date cX9_date 3 (some .int)) ∈ uU := uT_19 _ (List.mem_append_left _ (List.mem_cons_of_mem _ (List.mem_cons_of_mem _ (List.mem_cons_of_mem _ (List.mem_cons_of_mem _ (List.mem_cons_of_mem _ (List.mem_cons_of_mem _ (List.mem_cons_of_mem _ (List.mem_cons_of_mem _ (List.mem_cons_of_mem _ (List.mem_cons_of_mem _ (List.mem_cons_of_mem _ (List.mem_cons_of_mem _ (List.mem_cons_of_mem _ (List.mem_cons_self)))))))))))))))
theorem u_20_14 : (Cond.methodLink RX9 117 yX8_yearOf) ∈ uU := uT_19 _ (List.mem_append_left _ (List.mem_cons_of_mem _ (List.mem_cons_of_mem _ (List.mem_cons_of_mem _ (List.mem_cons_of_mem _ (List.mem_cons_of_mem _ (List.mem_cons_of_mem _ (List.mem_cons_of_mem _ (List.mem_cons_of_mem _ (List.mem_cons_of_mem _ (List.mem_cons_of_mem _ (List.mem_cons_of_mem _ (List.mem_cons_of_mem _ (List.mem_cons_of_mem _ (List.mem_cons_of_mem _ (List.mem_cons_self))))))))))))))))
theorem u_20_15 : (Cond.instanceMethod yX8_yearOf) ∈ uU := uT_19 _ (List.mem_append_left _ (List.mem_cons_of_mem _ (List.mem_cons_of_mem _ (List.mem_cons_of_mem _ (List.mem_cons_of_mem _ (List.mem_cons_of_mem _ (List.mem_cons_of_mem _ (List.mem_cons_of_mem _ (List.mem_cons_of_mem _ (List.mem_cons_of_mem _ (List.mem_cons_of_mem _ (List.mem_cons_of_mem _ (List.mem_cons_of_mem _ (List.mem_cons_of_mem _ (List.mem_cons_of_mem _ (List.mem_cons_of_mem _ (List.mem_cons_self)))))))))))))))))
theorem u_20_16 : (Cond.selects RX8 yX8_yearOf yX8_yearOf) ∈ uU := uT_19 _ (List.mem_append_left _ (List.mem_cons_of_mem _ (List.mem_cons_of_mem _ (List.mem_cons_of_mem _ (List.mem_cons_of_mem _ (List.mem_cons_of_mem _ (List.mem_cons_of_mem _ (List.mem_cons_of_mem _ (List.mem_cons_of_mem _ (List.mem_cons_of_mem _ (List.mem_cons_of_mem _ (List.mem_cons_of_mem _ (List.mem_cons_of_mem _ (List.mem_cons_of_mem _ (List.mem_cons_of_mem _ (List.mem_cons_of_mem _ (List.mem_cons_of_mem _ (List.mem_cons_self))))))))))))))))))
theorem u_20_17 : (Cond.code yX8_yearOf cX8_yearOf 3 (some .int)) ∈ uU := uT_19 _ (List.mem_append_left _ (List.mem_cons_of_mem _ (List.mem_cons_of_mem _ (List.mem_cons_of_mem _ (List.mem_cons_of_mem _ (List.mem_cons_of_mem _ (List.mem_cons_of_mem _ (List.mem_cons_of_mem _ (List.mem_cons_of_mem _ (List.mem_cons_of_mem _ (List.mem_cons_of_mem _ (List.mem_cons_of_mem _ (List.mem_cons_of_mem _ (List.mem_cons_of_mem _ (List.mem_cons_of_mem _ (List.mem_cons_of_mem _ (List.mem_cons_of_mem _ (List.mem_cons_of_mem _ (List.mem_cons_self)))))))))))))))))))
theorem u_20_18 : (Cond.methodLink RL 52 yX10_date) ∈ uU := uT_19 _ (List.mem_append_left _ (List.mem_cons_of_mem _ (List.mem_cons_of_mem _ (List.mem_cons_of_mem _ (List.mem_cons_of_mem _ (List.mem_cons_of_mem _ (List.mem_cons_of_mem _ (List.mem_cons_of_mem _ (List.mem_cons_of_mem _ (List.mem_cons_of_mem _ (List.mem_cons_of_mem _ (List.mem_cons_of_mem _ (List.mem_cons_of_mem _ (List.mem_cons_of_mem _ (List.mem_cons_of_mem _ (List.mem_cons_of_mem _ (List.mem_cons_of_mem _ (List.mem_cons_of_mem _ (List.mem_cons_of_mem _ (List.mem_cons_self))))))))))))))))))))
theorem u_20_19 : (Cond.instanceMethod yX10_date) ∈ uU := uT_19 _ (List.mem_append_left _ (List.mem_cons_of_mem _ (List.mem_cons_of_mem _ (List.mem_cons_of_mem _ (List.mem_cons_of_mem _ (List.mem_cons_of_mem _ (List.mem_cons_of_mem _ (List.mem_cons_of_mem _ (List.mem_cons_of_mem _ (List.mem_cons_of_mem _ (List.mem_cons_of_mem _ (List.mem_cons_of_mem _ (List.mem_cons_of_mem _ (List.mem_cons_of_mem _ (List.mem_cons_of_mem _ (List.mem_cons_of_mem _ (List.mem_cons_of_mem _ (List.mem_cons_of_mem _ (List.mem_cons_of_mem _ (List.mem_cons_of_mem _ (List.mem_cons_self)))))))))))))))))))))
theorem u_20_20 : (Cond.selects RX10 yX10_date yX10_date) ∈ uU := uT_19 _ (List.mem_append_left _ (List.mem_cons_of_mem _ (List.mem_cons_of_mem _ (List.mem_cons_of_mem _ (List.mem_cons_of_mem _ (List.mem_cons_of_mem _ (List.mem_cons_of_mem _ (List.mem_cons_of_mem _ (List.mem_cons_of_mem _ (List.mem_cons_of_mem _ (List.mem_cons_of_mem _ (List.mem_cons_of_mem _ (List.mem_cons_of_mem _ (List.mem_cons_of_mem _ (List.mem_cons_of_mem _ (List.mem_cons_of_mem _ (List.mem_cons_of_mem _ (List.mem_cons_of_mem _ (List.mem_cons_of_mem _ (List.mem_cons_of_mem _ (List.mem_cons_of_mem _ (List.mem_cons_self))))))))))))))))))))))
theorem u_20_21 : (Cond.code yX10_date cX10_date 7 (some .int)) ∈ uU := uT_19 _ (List.mem_append_left _ (List.mem_cons_of_mem _ (List.mem_cons_of_mem _ (List.mem_cons_of_mem _ (List.mem_cons_of_mem _ (List.mem_cons_of_mem _ (List.mem_cons_of_mem _ (List.mem_cons_of_mem _ (List.mem_cons_of_mem _ (List.mem_cons_of_mem _ (List.mem_cons_of_mem _ (List.mem_cons_of_mem _ (List.mem_cons_of_mem _ (List.mem_cons_of_mem _ (List.mem_cons_of_mem _ (List.mem_cons_of_mem _ (List.mem_cons_of_mem _ (List.mem_cons_of_mem _ (List.mem_cons_of_mem _ (List.mem_cons_of_mem _ (List.mem_cons_of_mem _ (List.mem_cons_of_mem _ (List.mem_cons_self)))))))))))))))))))))))
theorem u_20_22 : (Cond.methodLink RL 53 yX9_name) ∈ uU := uT_19 _ (List.mem_append_left _ (List.mem_cons_of_mem _ (List.mem_cons_of_mem _ (List.mem_cons_of_mem _ (List.mem_cons_of_mem _ (List.mem_cons_of_mem _ (List.mem_cons_of_mem _ (List.mem_cons_of_mem _ (List.mem_cons_of_mem _ (List.mem_cons_of_mem _ (List.mem_cons_of_mem _ (List.mem_cons_of_mem _ (List.mem_cons_of_mem _ (List.mem_cons_of_mem _ (List.mem_cons_of_mem _ (List.mem_cons_of_mem _ (List.mem_cons_of_mem _ (List.mem_cons_of_mem _ (List.mem_cons_of_mem _ (List.mem_cons_of_mem _ (List.mem_cons_of_mem _ (List.mem_cons_of_mem _ (List.mem_cons_of_mem _ (List.mem_cons_self))))))))))))))))))))))))
theorem u_20_23 : (Cond.instanceMethod yX9_name) ∈ uU := uT_19 _ (List.mem_append_left _ (List.mem_cons_of_mem _ (List.mem_cons_of_mem _ (List.mem_cons_of_mem _ (List.mem_cons_of_mem _ (List.mem_cons_of_mem _ (List.mem_cons_of_mem _ (List.mem_cons_of_mem _ (List.mem_cons_of_mem _ (List.mem_cons_of_mem _ (List.mem_cons_of_mem _ (List.mem_cons_of_mem _ (List.mem_cons_of_mem _ (List.mem_cons_of_mem _ (List.mem_cons_of_mem _ (List.mem_cons_of_mem _ (List.mem_cons_of_mem _ (List.mem_cons_of_mem _ (List.mem_cons_of_mem _ (List.mem_cons_of_mem _ (List.mem_cons_of_mem _ (List.mem_cons_of_mem _ (List.mem_cons_of_mem _ (List.mem_cons_of_mem _ (List.mem_cons_self)))))))))))))))))))))))))
theorem u_21_0 : (Cond.selects RX9 yX9_name yX9_name) ∈ uU := uT_20 _ (List.mem_append_left _ (List.mem_cons_self))
theorem u_21_1 : (Cond.code yX9_name cX9_name 3 (some .int)) ∈ uU := uT_20 _ (List.mem_append_left _ (List.mem_cons_of_mem _ (List.mem_cons_self)))
theorem u_21_2 : (Cond.fieldLink RX9 124 "ChainLetters$Names" "count" "I") ∈ uU := uT_20 _ (List.mem_append_left _ (List.mem_cons_of_mem _ (List.mem_cons_of_mem _ (List.mem_cons_self))))
theorem u_21_3 : (Cond.methodLink RX9 121 yX5_isName) ∈ uU := uT_20 _ (List.mem_append_left _ (List.mem_cons_of_mem _ (List.mem_cons_of_mem _ (List.mem_cons_of_mem _ (List.mem_cons_self)))))
theorem u_21_4 : (Cond.static yX5_isName) ∈ uU := uT_20 _ (List.mem_append_left _ (List.mem_cons_of_mem _ (List.mem_cons_of_mem _ (List.mem_cons_of_mem _ (List.mem_cons_of_mem _ (List.mem_cons_self))))))
theorem u_21_5 : (Cond.code yX5_isName cX5_isName 4 (some .boolean)) ∈ uU := uT_20 _ (List.mem_append_left _ (List.mem_cons_of_mem _ (List.mem_cons_of_mem _ (List.mem_cons_of_mem _ (List.mem_cons_of_mem _ (List.mem_cons_of_mem _ (List.mem_cons_self)))))))
theorem u_21_6 : (Cond.methodLink RX9 125 yX5_add) ∈ uU := uT_20 _ (List.mem_append_left _ (List.mem_cons_of_mem _ (List.mem_cons_of_mem _ (List.mem_cons_of_mem _ (List.mem_cons_of_mem _ (List.mem_cons_of_mem _ (List.mem_cons_of_mem _ (List.mem_cons_self))))))))
theorem u_21_7 : (Cond.instanceMethod yX5_add) ∈ uU := uT_20 _ (List.mem_append_left _ (List.mem_cons_of_mem _ (List.mem_cons_of_mem _ (List.mem_cons_of_mem _ (List.mem_cons_of_mem _ (List.mem_cons_of_mem _ (List.mem_cons_of_mem _ (List.mem_cons_of_mem _ (List.mem_cons_self)))))))))
theorem u_21_8 : (Cond.selects RX5 yX5_add yX5_add) ∈ uU := uT_20 _ (List.mem_append_left _ (List.mem_cons_of_mem _ (List.mem_cons_of_mem _ (List.mem_cons_of_mem _ (List.mem_cons_of_mem _ (List.mem_cons_of_mem _ (List.mem_cons_of_mem _ (List.mem_cons_of_mem _ (List.mem_cons_of_mem _ (List.mem_cons_self))))))))))
theorem u_21_9 : (Cond.code yX5_add cX5_add 6 (some .int)) ∈ uU := uT_20 _ (List.mem_append_left _ (List.mem_cons_of_mem _ (List.mem_cons_of_mem _ (List.mem_cons_of_mem _ (List.mem_cons_of_mem _ (List.mem_cons_of_mem _ (List.mem_cons_of_mem _ (List.mem_cons_of_mem _ (List.mem_cons_of_mem _ (List.mem_cons_of_mem _ (List.mem_cons_self)))))))))))
theorem u_21_10 : (Cond.fieldLink RX5 33 "ChainLetters$Names" "count" "I") ∈ uU := uT_20 _ (List.mem_append_left _ (List.mem_cons_of_mem _ (List.mem_cons_of_mem _ (List.mem_cons_of_mem _ (List.mem_cons_of_mem _ (List.mem_cons_of_mem _ (List.mem_cons_of_mem _ (List.mem_cons_of_mem _ (List.mem_cons_of_mem _ (List.mem_cons_of_mem _ (List.mem_cons_of_mem _ (List.mem_cons_self))))))))))))
theorem u_21_11 : (Cond.methodLink RX5 37 yX5_compare) ∈ uU := uT_20 _ (List.mem_append_left _ (List.mem_cons_of_mem _ (List.mem_cons_of_mem _ (List.mem_cons_of_mem _ (List.mem_cons_of_mem _ (List.mem_cons_of_mem _ (List.mem_cons_of_mem _ (List.mem_cons_of_mem _ (List.mem_cons_of_mem _ (List.mem_cons_of_mem _ (List.mem_cons_of_mem _ (List.mem_cons_of_mem _ (List.mem_cons_self)))))))))))))
theorem u_21_12 : (Cond.instanceMethod yX5_compare) ∈ uU := uT_20 _ (List.mem_append_left _ (List.mem_cons_of_mem _ (List.mem_cons_of_mem _ (List.mem_cons_of_mem _ (List.mem_cons_of_mem _ (List.mem_cons_of_mem _ (List.mem_cons_of_mem _ (List.mem_cons_of_mem _ (List.mem_cons_of_mem _ (List.mem_cons_of_mem _ (List.mem_cons_of_mem _ (List.mem_cons_of_mem _ (List.mem_cons_of_mem _ (List.mem_cons_self))))))))))))))
theorem u_21_13 : (Cond.selects RX5 yX5_compare yX5_compare) ∈ uU := uT_20 _ (List.mem_append_left _ (List.mem_cons_of_mem _ (List.mem_cons_of_mem _ (List.mem_cons_of_mem _ (List.mem_cons_of_mem _ (List.mem_cons_of_mem _ (List.mem_cons_of_mem _ (List.mem_cons_of_mem _ (List.mem_cons_of_mem _ (List.mem_cons_of_mem _ (List.mem_cons_of_mem _ (List.mem_cons_of_mem _ (List.mem_cons_of_mem _ (List.mem_cons_of_mem _ (List.mem_cons_self)))))))))))))))
theorem u_21_14 : (Cond.code yX5_compare cX5_compare 9 (some .int)) ∈ uU := uT_20 _ (List.mem_append_left _ (List.mem_cons_of_mem _ (List.mem_cons_of_mem _ (List.mem_cons_of_mem _ (List.mem_cons_of_mem _ (List.mem_cons_of_mem _ (List.mem_cons_of_mem _ (List.mem_cons_of_mem _ (List.mem_cons_of_mem _ (List.mem_cons_of_mem _ (List.mem_cons_of_mem _ (List.mem_cons_of_mem _ (List.mem_cons_of_mem _ (List.mem_cons_of_mem _ (List.mem_cons_of_mem _ (List.mem_cons_self))))))))))))))))
theorem u_21_15 : (Cond.methodLink RX5 41 Lib.Math.min.name) ∈ uU := uT_20 _ (List.mem_append_left _ (List.mem_cons_of_mem _ (List.mem_cons_of_mem _ (List.mem_cons_of_mem _ (List.mem_cons_of_mem _ (List.mem_cons_of_mem _ (List.mem_cons_of_mem _ (List.mem_cons_of_mem _ (List.mem_cons_of_mem _ (List.mem_cons_of_mem _ (List.mem_cons_of_mem _ (List.mem_cons_of_mem _ (List.mem_cons_of_mem _ (List.mem_cons_of_mem _ (List.mem_cons_of_mem _ (List.mem_cons_of_mem _ (List.mem_cons_self)))))))))))))))))
theorem u_21_16 : (Cond.methodLink RL 56 yX10_name) ∈ uU := uT_20 _ (List.mem_append_left _ (List.mem_cons_of_mem _ (List.mem_cons_of_mem _ (List.mem_cons_of_mem _ (List.mem_cons_of_mem _ (List.mem_cons_of_mem _ (List.mem_cons_of_mem _ (List.mem_cons_of_mem _ (List.mem_cons_of_mem _ (List.mem_cons_of_mem _ (List.mem_cons_of_mem _ (List.mem_cons_of_mem _ (List.mem_cons_of_mem _ (List.mem_cons_of_mem _ (List.mem_cons_of_mem _ (List.mem_cons_of_mem _ (List.mem_cons_of_mem _ (List.mem_cons_self))))))))))))))))))
theorem u_21_17 : (Cond.instanceMethod yX10_name) ∈ uU := uT_20 _ (List.mem_append_left _ (List.mem_cons_of_mem _ (List.mem_cons_of_mem _ (List.mem_cons_of_mem _ (List.mem_cons_of_mem _ (List.mem_cons_of_mem _ (List.mem_cons_of_mem _ (List.mem_cons_of_mem _ (List.mem_cons_of_mem _ (List.mem_cons_of_mem _ (List.mem_cons_of_mem _ (List.mem_cons_of_mem _ (List.mem_cons_of_mem _ (List.mem_cons_of_mem _ (List.mem_cons_of_mem _ (List.mem_cons_of_mem _ (List.mem_cons_of_mem _ (List.mem_cons_of_mem _ (List.mem_cons_self)))))))))))))))))))
theorem u_21_18 : (Cond.selects RX10 yX10_name yX10_name) ∈ uU := uT_20 _ (List.mem_append_left _ (List.mem_cons_of_mem _ (List.mem_cons_of_mem _ (List.mem_cons_of_mem _ (List.mem_cons_of_mem _ (List.mem_cons_of_mem _ (List.mem_cons_of_mem _ (List.mem_cons_of_mem _ (List.mem_cons_of_mem _ (List.mem_cons_of_mem _ (List.mem_cons_of_mem _ (List.mem_cons_of_mem _ (List.mem_cons_of_mem _ (List.mem_cons_of_mem _ (List.mem_cons_of_mem _ (List.mem_cons_of_mem _ (List.mem_cons_of_mem _ (List.mem_cons_of_mem _ (List.mem_cons_of_mem _ (List.mem_cons_self))))))))))))))))))))
theorem u_21_19 : (Cond.code yX10_name cX10_name 6 (some .int)) ∈ uU := uT_20 _ (List.mem_append_left _ (List.mem_cons_of_mem _ (List.mem_cons_of_mem _ (List.mem_cons_of_mem _ (List.mem_cons_of_mem _ (List.mem_cons_of_mem _ (List.mem_cons_of_mem _ (List.mem_cons_of_mem _ (List.mem_cons_of_mem _ (List.mem_cons_of_mem _ (List.mem_cons_of_mem _ (List.mem_cons_of_mem _ (List.mem_cons_of_mem _ (List.mem_cons_of_mem _ (List.mem_cons_of_mem _ (List.mem_cons_of_mem _ (List.mem_cons_of_mem _ (List.mem_cons_of_mem _ (List.mem_cons_of_mem _ (List.mem_cons_of_mem _ (List.mem_cons_self)))))))))))))))))))))
theorem u_21_20 : (Cond.constantLong RX10 188 (6)) ∈ uU := uT_20 _ (List.mem_append_left _ (List.mem_cons_of_mem _ (List.mem_cons_of_mem _ (List.mem_cons_of_mem _ (List.mem_cons_of_mem _ (List.mem_cons_of_mem _ (List.mem_cons_of_mem _ (List.mem_cons_of_mem _ (List.mem_cons_of_mem _ (List.mem_cons_of_mem _ (List.mem_cons_of_mem _ (List.mem_cons_of_mem _ (List.mem_cons_of_mem _ (List.mem_cons_of_mem _ (List.mem_cons_of_mem _ (List.mem_cons_of_mem _ (List.mem_cons_of_mem _ (List.mem_cons_of_mem _ (List.mem_cons_of_mem _ (List.mem_cons_of_mem _ (List.mem_cons_of_mem _ (List.mem_cons_self))))))))))))))))))))))
theorem u_21_21 : (Cond.fieldLink RX10 190 "ChainLettersModel" "names" "I") ∈ uU := uT_20 _ (List.mem_append_left _ (List.mem_cons_of_mem _ (List.mem_cons_of_mem _ (List.mem_cons_of_mem _ (List.mem_cons_of_mem _ (List.mem_cons_of_mem _ (List.mem_cons_of_mem _ (List.mem_cons_of_mem _ (List.mem_cons_of_mem _ (List.mem_cons_of_mem _ (List.mem_cons_of_mem _ (List.mem_cons_of_mem _ (List.mem_cons_of_mem _ (List.mem_cons_of_mem _ (List.mem_cons_of_mem _ (List.mem_cons_of_mem _ (List.mem_cons_of_mem _ (List.mem_cons_of_mem _ (List.mem_cons_of_mem _ (List.mem_cons_of_mem _ (List.mem_cons_of_mem _ (List.mem_cons_of_mem _ (List.mem_cons_self)))))))))))))))))))))))
theorem u_21_22 : (Cond.methodLink RL 57 yX9_slips) ∈ uU := uT_20 _ (List.mem_append_left _ (List.mem_cons_of_mem _ (List.mem_cons_of_mem _ (List.mem_cons_of_mem _ (List.mem_cons_of_mem _ (List.mem_cons_of_mem _ (List.mem_cons_of_mem _ (List.mem_cons_of_mem _ (List.mem_cons_of_mem _ (List.mem_cons_of_mem _ (List.mem_cons_of_mem _ (List.mem_cons_of_mem _ (List.mem_cons_of_mem _ (List.mem_cons_of_mem _ (List.mem_cons_of_mem _ (List.mem_cons_of_mem _ (List.mem_cons_of_mem _ (List.mem_cons_of_mem _ (List.mem_cons_of_mem _ (List.mem_cons_of_mem _ (List.mem_cons_of_mem _ (List.mem_cons_of_mem _ (List.mem_cons_of_mem _ (List.mem_cons_self))))))))))))))))))))))))
theorem u_21_23 : (Cond.instanceMethod yX9_slips) ∈ uU := uT_20 _ (List.mem_append_left _ (List.mem_cons_of_mem _ (List.mem_cons_of_mem _ (List.mem_cons_of_mem _ (List.mem_cons_of_mem _ (List.mem_cons_of_mem _ (List.mem_cons_of_mem _ (List.mem_cons_of_mem _ (List.mem_cons_of_mem _ (List.mem_cons_of_mem _ (List.mem_cons_of_mem _ (List.mem_cons_of_mem _ (List.mem_cons_of_mem _ (List.mem_cons_of_mem _ (List.mem_cons_of_mem _ (List.mem_cons_of_mem _ (List.mem_cons_of_mem _ (List.mem_cons_of_mem _ (List.mem_cons_of_mem _ (List.mem_cons_of_mem _ (List.mem_cons_of_mem _ (List.mem_cons_of_mem _ (List.mem_cons_of_mem _ (List.mem_cons_of_mem _ (List.mem_cons_self)))))))))))))))))))))))))
theorem u_22_0 : (Cond.selects RX9 yX9_slips yX9_slips) ∈ uU := uT_21 _ (List.mem_append_left _ (List.mem_cons_self))
theorem u_22_1 : (Cond.code yX9_slips cX9_slips 3 (some .int)) ∈ uU := uT_21 _ (List.mem_append_left _ (List.mem_cons_of_mem _ (List.mem_cons_self)))
theorem u_22_2 : (Cond.methodLink RX9 126 yX5_has) ∈ uU := uT_21 _ (List.mem_append_left _ (List.mem_cons_of_mem _ (List.mem_cons_of_mem _ (List.mem_cons_self))))
theorem u_22_3 : (Cond.instanceMethod yX5_has) ∈ uU := uT_21 _ (List.mem_append_left _ (List.mem_cons_of_mem _ (List.mem_cons_of_mem _ (List.mem_cons_of_mem _ (List.mem_cons_self)))))
theorem u_22_4 : (Cond.selects RX5 yX5_has yX5_has) ∈ uU := uT_21 _ (List.mem_append_left _ (List.mem_cons_of_mem _ (List.mem_cons_of_mem _ (List.mem_cons_of_mem _ (List.mem_cons_of_mem _ (List.mem_cons_self))))))
theorem u_22_5 : (Cond.code yX5_has cX5_has 2 (some .boolean)) ∈ uU := uT_21 _ (List.mem_append_left _ (List.mem_cons_of_mem _ (List.mem_cons_of_mem _ (List.mem_cons_of_mem _ (List.mem_cons_of_mem _ (List.mem_cons_of_mem _ (List.mem_cons_self)))))))
theorem u_22_6 : (Cond.methodLink RX9 127 yX5_slipsBetween) ∈ uU := uT_21 _ (List.mem_append_left _ (List.mem_cons_of_mem _ (List.mem_cons_of_mem _ (List.mem_cons_of_mem _ (List.mem_cons_of_mem _ (List.mem_cons_of_mem _ (List.mem_cons_of_mem _ (List.mem_cons_self))))))))
theorem u_22_7 : (Cond.instanceMethod yX5_slipsBetween) ∈ uU := uT_21 _ (List.mem_append_left _ (List.mem_cons_of_mem _ (List.mem_cons_of_mem _ (List.mem_cons_of_mem _ (List.mem_cons_of_mem _ (List.mem_cons_of_mem _ (List.mem_cons_of_mem _ (List.mem_cons_of_mem _ (List.mem_cons_self)))))))))
theorem u_22_8 : (Cond.selects RX5 yX5_slipsBetween yX5_slipsBetween) ∈ uU := uT_21 _ (List.mem_append_left _ (List.mem_cons_of_mem _ (List.mem_cons_of_mem _ (List.mem_cons_of_mem _ (List.mem_cons_of_mem _ (List.mem_cons_of_mem _ (List.mem_cons_of_mem _ (List.mem_cons_of_mem _ (List.mem_cons_of_mem _ (List.mem_cons_self))))))))))
theorem u_22_9 : (Cond.code yX5_slipsBetween cX5_slipsBetween 3 (some .int)) ∈ uU := uT_21 _ (List.mem_append_left _ (List.mem_cons_of_mem _ (List.mem_cons_of_mem _ (List.mem_cons_of_mem _ (List.mem_cons_of_mem _ (List.mem_cons_of_mem _ (List.mem_cons_of_mem _ (List.mem_cons_of_mem _ (List.mem_cons_of_mem _ (List.mem_cons_of_mem _ (List.mem_cons_self)))))))))))
theorem u_22_10 : (Cond.methodLink RL 60 yX10_slips) ∈ uU := uT_21 _ (List.mem_append_left _ (List.mem_cons_of_mem _ (List.mem_cons_of_mem _ (List.mem_cons_of_mem _ (List.mem_cons_of_mem _ (List.mem_cons_of_mem _ (List.mem_cons_of_mem _ (List.mem_cons_of_mem _ (List.mem_cons_of_mem _ (List.mem_cons_of_mem _ (List.mem_cons_of_mem _ (List.mem_cons_self))))))))))))
theorem u_22_11 : (Cond.instanceMethod yX10_slips) ∈ uU := uT_21 _ (List.mem_append_left _ (List.mem_cons_of_mem _ (List.mem_cons_of_mem _ (List.mem_cons_of_mem _ (List.mem_cons_of_mem _ (List.mem_cons_of_mem _ (List.mem_cons_of_mem _ (List.mem_cons_of_mem _ (List.mem_cons_of_mem _ (List.mem_cons_of_mem _ (List.mem_cons_of_mem _ (List.mem_cons_of_mem _ (List.mem_cons_self)))))))))))))
theorem u_22_12 : (Cond.selects RX10 yX10_slips yX10_slips) ∈ uU := uT_21 _ (List.mem_append_left _ (List.mem_cons_of_mem _ (List.mem_cons_of_mem _ (List.mem_cons_of_mem _ (List.mem_cons_of_mem _ (List.mem_cons_of_mem _ (List.mem_cons_of_mem _ (List.mem_cons_of_mem _ (List.mem_cons_of_mem _ (List.mem_cons_of_mem _ (List.mem_cons_of_mem _ (List.mem_cons_of_mem _ (List.mem_cons_of_mem _ (List.mem_cons_self))))))))))))))
theorem u_22_13 : (Cond.code yX10_slips cX10_slips 3 (some .int)) ∈ uU := uT_21 _ (List.mem_append_left _ (List.mem_cons_of_mem _ (List.mem_cons_of_mem _ (List.mem_cons_of_mem _ (List.mem_cons_of_mem _ (List.mem_cons_of_mem _ (List.mem_cons_of_mem _ (List.mem_cons_of_mem _ (List.mem_cons_of_mem _ (List.mem_cons_of_mem _ (List.mem_cons_of_mem _ (List.mem_cons_of_mem _ (List.mem_cons_of_mem _ (List.mem_cons_of_mem _ (List.mem_cons_self)))))))))))))))
theorem u_22_14 : (Cond.methodLink RX10 196 yX10_isName) ∈ uU := uT_21 _ (List.mem_append_left _ (List.mem_cons_of_mem _ (List.mem_cons_of_mem _ (List.mem_cons_of_mem _ (List.mem_cons_of_mem _ (List.mem_cons_of_mem _ (List.mem_cons_of_mem _ (List.mem_cons_of_mem _ (List.mem_cons_of_mem _ (List.mem_cons_of_mem _ (List.mem_cons_of_mem _ (List.mem_cons_of_mem _ (List.mem_cons_of_mem _ (List.mem_cons_of_mem _ (List.mem_cons_of_mem _ (List.mem_cons_self))))))))))))))))
theorem u_22_15 : (Cond.instanceMethod yX10_isName) ∈ uU := uT_21 _ (List.mem_append_left _ (List.mem_cons_of_mem _ (List.mem_cons_of_mem _ (List.mem_cons_of_mem _ (List.mem_cons_of_mem _ (List.mem_cons_of_mem _ (List.mem_cons_of_mem _ (List.mem_cons_of_mem _ (List.mem_cons_of_mem _ (List.mem_cons_of_mem _ (List.mem_cons_of_mem _ (List.mem_cons_of_mem _ (List.mem_cons_of_mem _ (List.mem_cons_of_mem _ (List.mem_cons_of_mem _ (List.mem_cons_of_mem _ (List.mem_cons_self)))))))))))))))))
theorem u_22_16 : (Cond.selects RX10 yX10_isName yX10_isName) ∈ uU := uT_21 _ (List.mem_append_left _ (List.mem_cons_of_mem _ (List.mem_cons_of_mem _ (List.mem_cons_of_mem _ (List.mem_cons_of_mem _ (List.mem_cons_of_mem _ (List.mem_cons_of_mem _ (List.mem_cons_of_mem _ (List.mem_cons_of_mem _ (List.mem_cons_of_mem _ (List.mem_cons_of_mem _ (List.mem_cons_of_mem _ (List.mem_cons_of_mem _ (List.mem_cons_of_mem _ (List.mem_cons_of_mem _ (List.mem_cons_of_mem _ (List.mem_cons_of_mem _ (List.mem_cons_self))))))))))))))))))
theorem u_22_17 : (Cond.code yX10_isName cX10_isName 2 (some .boolean)) ∈ uU := uT_21 _ (List.mem_append_left _ (List.mem_cons_of_mem _ (List.mem_cons_of_mem _ (List.mem_cons_of_mem _ (List.mem_cons_of_mem _ (List.mem_cons_of_mem _ (List.mem_cons_of_mem _ (List.mem_cons_of_mem _ (List.mem_cons_of_mem _ (List.mem_cons_of_mem _ (List.mem_cons_of_mem _ (List.mem_cons_of_mem _ (List.mem_cons_of_mem _ (List.mem_cons_of_mem _ (List.mem_cons_of_mem _ (List.mem_cons_of_mem _ (List.mem_cons_of_mem _ (List.mem_cons_of_mem _ (List.mem_cons_self)))))))))))))))))))
theorem u_22_18 : (Cond.methodLink RX10 199 yX10_slipsOf) ∈ uU := uT_21 _ (List.mem_append_left _ (List.mem_cons_of_mem _ (List.mem_cons_of_mem _ (List.mem_cons_of_mem _ (List.mem_cons_of_mem _ (List.mem_cons_of_mem _ (List.mem_cons_of_mem _ (List.mem_cons_of_mem _ (List.mem_cons_of_mem _ (List.mem_cons_of_mem _ (List.mem_cons_of_mem _ (List.mem_cons_of_mem _ (List.mem_cons_of_mem _ (List.mem_cons_of_mem _ (List.mem_cons_of_mem _ (List.mem_cons_of_mem _ (List.mem_cons_of_mem _ (List.mem_cons_of_mem _ (List.mem_cons_of_mem _ (List.mem_cons_self))))))))))))))))))))
theorem u_22_19 : (Cond.instanceMethod yX10_slipsOf) ∈ uU := uT_21 _ (List.mem_append_left _ (List.mem_cons_of_mem _ (List.mem_cons_of_mem _ (List.mem_cons_of_mem _ (List.mem_cons_of_mem _ (List.mem_cons_of_mem _ (List.mem_cons_of_mem _ (List.mem_cons_of_mem _ (List.mem_cons_of_mem _ (List.mem_cons_of_mem _ (List.mem_cons_of_mem _ (List.mem_cons_of_mem _ (List.mem_cons_of_mem _ (List.mem_cons_of_mem _ (List.mem_cons_of_mem _ (List.mem_cons_of_mem _ (List.mem_cons_of_mem _ (List.mem_cons_of_mem _ (List.mem_cons_of_mem _ (List.mem_cons_of_mem _ (List.mem_cons_self)))))))))))))))))))))
theorem u_22_20 : (Cond.selects RX10 yX10_slipsOf yX10_slipsOf) ∈ uU := uT_21 _ (List.mem_append_left _ (List.mem_cons_of_mem _ (List.mem_cons_of_mem _ (List.mem_cons_of_mem _ (List.mem_cons_of_mem _ (List.mem_cons_of_mem _ (List.mem_cons_of_mem _ (List.mem_cons_of_mem _ (List.mem_cons_of_mem _ (List.mem_cons_of_mem _ (List.mem_cons_of_mem _ (List.mem_cons_of_mem _ (List.mem_cons_of_mem _ (List.mem_cons_of_mem _ (List.mem_cons_of_mem _ (List.mem_cons_of_mem _ (List.mem_cons_of_mem _ (List.mem_cons_of_mem _ (List.mem_cons_of_mem _ (List.mem_cons_of_mem _ (List.mem_cons_of_mem _ (List.mem_cons_self))))))))))))))))))))))
theorem u_22_21 : (Cond.code yX10_slipsOf cX10_slipsOf 6 (some .int)) ∈ uU := uT_21 _ (List.mem_append_left _ (List.mem_cons_of_mem _ (List.mem_cons_of_mem _ (List.mem_cons_of_mem _ (List.mem_cons_of_mem _ (List.mem_cons_of_mem _ (List.mem_cons_of_mem _ (List.mem_cons_of_mem _ (List.mem_cons_of_mem _ (List.mem_cons_of_mem _ (List.mem_cons_of_mem _ (List.mem_cons_of_mem _ (List.mem_cons_of_mem _ (List.mem_cons_of_mem _ (List.mem_cons_of_mem _ (List.mem_cons_of_mem _ (List.mem_cons_of_mem _ (List.mem_cons_of_mem _ (List.mem_cons_of_mem _ (List.mem_cons_of_mem _ (List.mem_cons_of_mem _ (List.mem_cons_of_mem _ (List.mem_cons_self)))))))))))))))))))))))
theorem u_22_22 : (Cond.methodLink RX10 193 yX10_lesser) ∈ uU := uT_21 _ (List.mem_append_left _ (List.mem_cons_of_mem _ (List.mem_cons_of_mem _ (List.mem_cons_of_mem _ (List.mem_cons_of_mem _ (List.mem_cons_of_mem _ (List.mem_cons_of_mem _ (List.mem_cons_of_mem _ (List.mem_cons_of_mem _ (List.mem_cons_of_mem _ (List.mem_cons_of_mem _ (List.mem_cons_of_mem _ (List.mem_cons_of_mem _ (List.mem_cons_of_mem _ (List.mem_cons_of_mem _ (List.mem_cons_of_mem _ (List.mem_cons_of_mem _ (List.mem_cons_of_mem _ (List.mem_cons_of_mem _ (List.mem_cons_of_mem _ (List.mem_cons_of_mem _ (List.mem_cons_of_mem _ (List.mem_cons_of_mem _ (List.mem_cons_self))))))))))))))))))))))))
theorem u_22_23 : (Cond.static yX10_lesser) ∈ uU := uT_21 _ (List.mem_append_left _ (List.mem_cons_of_mem _ (List.mem_cons_of_mem _ (List.mem_cons_of_mem _ (List.mem_cons_of_mem _ (List.mem_cons_of_mem _ (List.mem_cons_of_mem _ (List.mem_cons_of_mem _ (List.mem_cons_of_mem _ (List.mem_cons_of_mem _ (List.mem_cons_of_mem _ (List.mem_cons_of_mem _ (List.mem_cons_of_mem _ (List.mem_cons_of_mem _ (List.mem_cons_of_mem _ (List.mem_cons_of_mem _ (List.mem_cons_of_mem _ (List.mem_cons_of_mem _ (List.mem_cons_of_mem _ (List.mem_cons_of_mem _ (List.mem_cons_of_mem _ (List.mem_cons_of_mem _ (List.mem_cons_of_mem _ (List.mem_cons_of_mem _ (List.mem_cons_self)))))))))))))))))))))))))
theorem u_23_0 : (Cond.code yX10_lesser cX10_lesser 2 (some .int)) ∈ uU := uT_22 _ (List.mem_append_left _ (List.mem_cons_self))
theorem u_23_1 : (Cond.methodLink RL 61 yX9_worn) ∈ uU := uT_22 _ (List.mem_append_left _ (List.mem_cons_of_mem _ (List.mem_cons_self)))
theorem u_23_2 : (Cond.instanceMethod yX9_worn) ∈ uU := uT_22 _ (List.mem_append_left _ (List.mem_cons_of_mem _ (List.mem_cons_of_mem _ (List.mem_cons_self))))
theorem u_23_3 : (Cond.selects RX9 yX9_worn yX9_worn) ∈ uU := uT_22 _ (List.mem_append_left _ (List.mem_cons_of_mem _ (List.mem_cons_of_mem _ (List.mem_cons_of_mem _ (List.mem_cons_self)))))
theorem u_23_4 : (Cond.code yX9_worn cX9_worn 4 (some .int)) ∈ uU := uT_22 _ (List.mem_append_left _ (List.mem_cons_of_mem _ (List.mem_cons_of_mem _ (List.mem_cons_of_mem _ (List.mem_cons_of_mem _ (List.mem_cons_self))))))
theorem u_23_5 : (Cond.methodLink RX9 130 yX5_wornCost) ∈ uU := uT_22 _ (List.mem_append_left _ (List.mem_cons_of_mem _ (List.mem_cons_of_mem _ (List.mem_cons_of_mem _ (List.mem_cons_of_mem _ (List.mem_cons_of_mem _ (List.mem_cons_self)))))))
theorem u_23_6 : (Cond.instanceMethod yX5_wornCost) ∈ uU := uT_22 _ (List.mem_append_left _ (List.mem_cons_of_mem _ (List.mem_cons_of_mem _ (List.mem_cons_of_mem _ (List.mem_cons_of_mem _ (List.mem_cons_of_mem _ (List.mem_cons_of_mem _ (List.mem_cons_self))))))))
theorem u_23_7 : (Cond.selects RX5 yX5_wornCost yX5_wornCost) ∈ uU := uT_22 _ (List.mem_append_left _ (List.mem_cons_of_mem _ (List.mem_cons_of_mem _ (List.mem_cons_of_mem _ (List.mem_cons_of_mem _ (List.mem_cons_of_mem _ (List.mem_cons_of_mem _ (List.mem_cons_of_mem _ (List.mem_cons_self)))))))))
theorem u_23_8 : (Cond.code yX5_wornCost cX5_wornCost 3 (some .int)) ∈ uU := uT_22 _ (List.mem_append_left _ (List.mem_cons_of_mem _ (List.mem_cons_of_mem _ (List.mem_cons_of_mem _ (List.mem_cons_of_mem _ (List.mem_cons_of_mem _ (List.mem_cons_of_mem _ (List.mem_cons_of_mem _ (List.mem_cons_of_mem _ (List.mem_cons_self))))))))))
theorem u_23_9 : (Cond.methodLink RX5 46 yX5_weighTo) ∈ uU := uT_22 _ (List.mem_append_left _ (List.mem_cons_of_mem _ (List.mem_cons_of_mem _ (List.mem_cons_of_mem _ (List.mem_cons_of_mem _ (List.mem_cons_of_mem _ (List.mem_cons_of_mem _ (List.mem_cons_of_mem _ (List.mem_cons_of_mem _ (List.mem_cons_of_mem _ (List.mem_cons_self)))))))))))
theorem u_23_10 : (Cond.instanceMethod yX5_weighTo) ∈ uU := uT_22 _ (List.mem_append_left _ (List.mem_cons_of_mem _ (List.mem_cons_of_mem _ (List.mem_cons_of_mem _ (List.mem_cons_of_mem _ (List.mem_cons_of_mem _ (List.mem_cons_of_mem _ (List.mem_cons_of_mem _ (List.mem_cons_of_mem _ (List.mem_cons_of_mem _ (List.mem_cons_of_mem _ (List.mem_cons_self))))))))))))
theorem u_23_11 : (Cond.selects RX5 yX5_weighTo yX5_weighTo) ∈ uU := uT_22 _ (List.mem_append_left _ (List.mem_cons_of_mem _ (List.mem_cons_of_mem _ (List.mem_cons_of_mem _ (List.mem_cons_of_mem _ (List.mem_cons_of_mem _ (List.mem_cons_of_mem _ (List.mem_cons_of_mem _ (List.mem_cons_of_mem _ (List.mem_cons_of_mem _ (List.mem_cons_of_mem _ (List.mem_cons_of_mem _ (List.mem_cons_self)))))))))))))
theorem u_23_12 : (Cond.code yX5_weighTo cX5_weighTo 5 none) ∈ uU := uT_22 _ (List.mem_append_left _ (List.mem_cons_of_mem _ (List.mem_cons_of_mem _ (List.mem_cons_of_mem _ (List.mem_cons_of_mem _ (List.mem_cons_of_mem _ (List.mem_cons_of_mem _ (List.mem_cons_of_mem _ (List.mem_cons_of_mem _ (List.mem_cons_of_mem _ (List.mem_cons_of_mem _ (List.mem_cons_of_mem _ (List.mem_cons_of_mem _ (List.mem_cons_self))))))))))))))
theorem u_23_13 : (Cond.methodLink RX5 54 yX5_weightOfStep) ∈ uU := uT_22 _ (List.mem_append_left _ (List.mem_cons_of_mem _ (List.mem_cons_of_mem _ (List.mem_cons_of_mem _ (List.mem_cons_of_mem _ (List.mem_cons_of_mem _ (List.mem_cons_of_mem _ (List.mem_cons_of_mem _ (List.mem_cons_of_mem _ (List.mem_cons_of_mem _ (List.mem_cons_of_mem _ (List.mem_cons_of_mem _ (List.mem_cons_of_mem _ (List.mem_cons_of_mem _ (List.mem_cons_self)))))))))))))))
theorem u_23_14 : (Cond.instanceMethod yX5_weightOfStep) ∈ uU := uT_22 _ (List.mem_append_left _ (List.mem_cons_of_mem _ (List.mem_cons_of_mem _ (List.mem_cons_of_mem _ (List.mem_cons_of_mem _ (List.mem_cons_of_mem _ (List.mem_cons_of_mem _ (List.mem_cons_of_mem _ (List.mem_cons_of_mem _ (List.mem_cons_of_mem _ (List.mem_cons_of_mem _ (List.mem_cons_of_mem _ (List.mem_cons_of_mem _ (List.mem_cons_of_mem _ (List.mem_cons_of_mem _ (List.mem_cons_self))))))))))))))))
theorem u_23_15 : (Cond.selects RX5 yX5_weightOfStep yX5_weightOfStep) ∈ uU := uT_22 _ (List.mem_append_left _ (List.mem_cons_of_mem _ (List.mem_cons_of_mem _ (List.mem_cons_of_mem _ (List.mem_cons_of_mem _ (List.mem_cons_of_mem _ (List.mem_cons_of_mem _ (List.mem_cons_of_mem _ (List.mem_cons_of_mem _ (List.mem_cons_of_mem _ (List.mem_cons_of_mem _ (List.mem_cons_of_mem _ (List.mem_cons_of_mem _ (List.mem_cons_of_mem _ (List.mem_cons_of_mem _ (List.mem_cons_of_mem _ (List.mem_cons_self)))))))))))))))))
theorem u_23_16 : (Cond.code yX5_weightOfStep cX5_weightOfStep 4 (some .int)) ∈ uU := uT_22 _ (List.mem_append_left _ (List.mem_cons_of_mem _ (List.mem_cons_of_mem _ (List.mem_cons_of_mem _ (List.mem_cons_of_mem _ (List.mem_cons_of_mem _ (List.mem_cons_of_mem _ (List.mem_cons_of_mem _ (List.mem_cons_of_mem _ (List.mem_cons_of_mem _ (List.mem_cons_of_mem _ (List.mem_cons_of_mem _ (List.mem_cons_of_mem _ (List.mem_cons_of_mem _ (List.mem_cons_of_mem _ (List.mem_cons_of_mem _ (List.mem_cons_of_mem _ (List.mem_cons_self))))))))))))))))))
theorem u_23_17 : (Cond.methodLink RX9 133 yX5_wornName) ∈ uU := uT_22 _ (List.mem_append_left _ (List.mem_cons_of_mem _ (List.mem_cons_of_mem _ (List.mem_cons_of_mem _ (List.mem_cons_of_mem _ (List.mem_cons_of_mem _ (List.mem_cons_of_mem _ (List.mem_cons_of_mem _ (List.mem_cons_of_mem _ (List.mem_cons_of_mem _ (List.mem_cons_of_mem _ (List.mem_cons_of_mem _ (List.mem_cons_of_mem _ (List.mem_cons_of_mem _ (List.mem_cons_of_mem _ (List.mem_cons_of_mem _ (List.mem_cons_of_mem _ (List.mem_cons_of_mem _ (List.mem_cons_self)))))))))))))))))))
theorem u_23_18 : (Cond.instanceMethod yX5_wornName) ∈ uU := uT_22 _ (List.mem_append_left _ (List.mem_cons_of_mem _ (List.mem_cons_of_mem _ (List.mem_cons_of_mem _ (List.mem_cons_of_mem _ (List.mem_cons_of_mem _ (List.mem_cons_of_mem _ (List.mem_cons_of_mem _ (List.mem_cons_of_mem _ (List.mem_cons_of_mem _ (List.mem_cons_of_mem _ (List.mem_cons_of_mem _ (List.mem_cons_of_mem _ (List.mem_cons_of_mem _ (List.mem_cons_of_mem _ (List.mem_cons_of_mem _ (List.mem_cons_of_mem _ (List.mem_cons_of_mem _ (List.mem_cons_of_mem _ (List.mem_cons_self))))))))))))))))))))
theorem u_23_19 : (Cond.selects RX5 yX5_wornName yX5_wornName) ∈ uU := uT_22 _ (List.mem_append_left _ (List.mem_cons_of_mem _ (List.mem_cons_of_mem _ (List.mem_cons_of_mem _ (List.mem_cons_of_mem _ (List.mem_cons_of_mem _ (List.mem_cons_of_mem _ (List.mem_cons_of_mem _ (List.mem_cons_of_mem _ (List.mem_cons_of_mem _ (List.mem_cons_of_mem _ (List.mem_cons_of_mem _ (List.mem_cons_of_mem _ (List.mem_cons_of_mem _ (List.mem_cons_of_mem _ (List.mem_cons_of_mem _ (List.mem_cons_of_mem _ (List.mem_cons_of_mem _ (List.mem_cons_of_mem _ (List.mem_cons_of_mem _ (List.mem_cons_self)))))))))))))))))))))
theorem u_23_20 : (Cond.code yX5_wornName cX5_wornName 7 (some .int)) ∈ uU := uT_22 _ (List.mem_append_left _ (List.mem_cons_of_mem _ (List.mem_cons_of_mem _ (List.mem_cons_of_mem _ (List.mem_cons_of_mem _ (List.mem_cons_of_mem _ (List.mem_cons_of_mem _ (List.mem_cons_of_mem _ (List.mem_cons_of_mem _ (List.mem_cons_of_mem _ (List.mem_cons_of_mem _ (List.mem_cons_of_mem _ (List.mem_cons_of_mem _ (List.mem_cons_of_mem _ (List.mem_cons_of_mem _ (List.mem_cons_of_mem _ (List.mem_cons_of_mem _ (List.mem_cons_of_mem _ (List.mem_cons_of_mem _ (List.mem_cons_of_mem _ (List.mem_cons_of_mem _ (List.mem_cons_self))))))))))))))))))))))
theorem u_23_21 : (Cond.methodLink RX5 50 yX5_nextFrom) ∈ uU := uT_22 _ (List.mem_append_left _ (List.mem_cons_of_mem _ (List.mem_cons_of_mem _ (List.mem_cons_of_mem _ (List.mem_cons_of_mem _ (List.mem_cons_of_mem _ (List.mem_cons_of_mem _ (List.mem_cons_of_mem _ (List.mem_cons_of_mem _ (List.mem_cons_of_mem _ (List.mem_cons_of_mem _ (List.mem_cons_of_mem _ (List.mem_cons_of_mem _ (List.mem_cons_of_mem _ (List.mem_cons_of_mem _ (List.mem_cons_of_mem _ (List.mem_cons_of_mem _ (List.mem_cons_of_mem _ (List.mem_cons_of_mem _ (List.mem_cons_of_mem _ (List.mem_cons_of_mem _ (List.mem_cons_of_mem _ (List.mem_cons_self)))))))))))))))))))))))
theorem u_23_22 : (Cond.instanceMethod yX5_nextFrom) ∈ uU := uT_22 _ (List.mem_append_left _ (List.mem_cons_of_mem _ (List.mem_cons_of_mem _ (List.mem_cons_of_mem _ (List.mem_cons_of_mem _ (List.mem_cons_of_mem _ (List.mem_cons_of_mem _ (List.mem_cons_of_mem _ (List.mem_cons_of_mem _ (List.mem_cons_of_mem _ (List.mem_cons_of_mem _ (List.mem_cons_of_mem _ (List.mem_cons_of_mem _ (List.mem_cons_of_mem _ (List.mem_cons_of_mem _ (List.mem_cons_of_mem _ (List.mem_cons_of_mem _ (List.mem_cons_of_mem _ (List.mem_cons_of_mem _ (List.mem_cons_of_mem _ (List.mem_cons_of_mem _ (List.mem_cons_of_mem _ (List.mem_cons_of_mem _ (List.mem_cons_self))))))))))))))))))))))))
theorem u_23_23 : (Cond.selects RX5 yX5_nextFrom yX5_nextFrom) ∈ uU := uT_22 _ (List.mem_append_left _ (List.mem_cons_of_mem _ (List.mem_cons_of_mem _ (List.mem_cons_of_mem _ (List.mem_cons_of_mem _ (List.mem_cons_of_mem _ (List.mem_cons_of_mem _ (List.mem_cons_of_mem _ (List.mem_cons_of_mem _ (List.mem_cons_of_mem _ (List.mem_cons_of_mem _ (List.mem_cons_of_mem _ (List.mem_cons_of_mem _ (List.mem_cons_of_mem _ (List.mem_cons_of_mem _ (List.mem_cons_of_mem _ (List.mem_cons_of_mem _ (List.mem_cons_of_mem _ (List.mem_cons_of_mem _ (List.mem_cons_of_mem _ (List.mem_cons_of_mem _ (List.mem_cons_of_mem _ (List.mem_cons_of_mem _ (List.mem_cons_of_mem _ (List.mem_cons_self)))))))))))))))))))))))))
theorem u_24_0 : (Cond.code yX5_nextFrom cX5_nextFrom 3 (some .int)) ∈ uU := uT_23 _ (List.mem_append_left _ (List.mem_cons_self))
theorem u_24_1 : (Cond.methodLink RL 64 yX10_worn) ∈ uU := uT_23 _ (List.mem_append_left _ (List.mem_cons_of_mem _ (List.mem_cons_self)))
theorem u_24_2 : (Cond.instanceMethod yX10_worn) ∈ uU := uT_23 _ (List.mem_append_left _ (List.mem_cons_of_mem _ (List.mem_cons_of_mem _ (List.mem_cons_self))))
theorem u_24_3 : (Cond.selects RX10 yX10_worn yX10_worn) ∈ uU := uT_23 _ (List.mem_append_left _ (List.mem_cons_of_mem _ (List.mem_cons_of_mem _ (List.mem_cons_of_mem _ (List.mem_cons_self)))))
theorem u_24_4 : (Cond.code yX10_worn cX10_worn 8 (some .int)) ∈ uU := uT_23 _ (List.mem_append_left _ (List.mem_cons_of_mem _ (List.mem_cons_of_mem _ (List.mem_cons_of_mem _ (List.mem_cons_of_mem _ (List.mem_cons_self))))))
theorem u_24_5 : (Cond.methodLink RX10 202 yX10_step) ∈ uU := uT_23 _ (List.mem_append_left _ (List.mem_cons_of_mem _ (List.mem_cons_of_mem _ (List.mem_cons_of_mem _ (List.mem_cons_of_mem _ (List.mem_cons_of_mem _ (List.mem_cons_self)))))))
theorem u_24_6 : (Cond.instanceMethod yX10_step) ∈ uU := uT_23 _ (List.mem_append_left _ (List.mem_cons_of_mem _ (List.mem_cons_of_mem _ (List.mem_cons_of_mem _ (List.mem_cons_of_mem _ (List.mem_cons_of_mem _ (List.mem_cons_of_mem _ (List.mem_cons_self))))))))
theorem u_24_7 : (Cond.selects RX10 yX10_step yX10_step) ∈ uU := uT_23 _ (List.mem_append_left _ (List.mem_cons_of_mem _ (List.mem_cons_of_mem _ (List.mem_cons_of_mem _ (List.mem_cons_of_mem _ (List.mem_cons_of_mem _ (List.mem_cons_of_mem _ (List.mem_cons_of_mem _ (List.mem_cons_self)))))))))
theorem u_24_8 : (Cond.code yX10_step cX10_step 4 (some .int)) ∈ uU := uT_23 _ (List.mem_append_left _ (List.mem_cons_of_mem _ (List.mem_cons_of_mem _ (List.mem_cons_of_mem _ (List.mem_cons_of_mem _ (List.mem_cons_of_mem _ (List.mem_cons_of_mem _ (List.mem_cons_of_mem _ (List.mem_cons_of_mem _ (List.mem_cons_self))))))))))
theorem u_24_9 : (Cond.methodLink RL 65 yX9_habit) ∈ uU := uT_23 _ (List.mem_append_left _ (List.mem_cons_of_mem _ (List.mem_cons_of_mem _ (List.mem_cons_of_mem _ (List.mem_cons_of_mem _ (List.mem_cons_of_mem _ (List.mem_cons_of_mem _ (List.mem_cons_of_mem _ (List.mem_cons_of_mem _ (List.mem_cons_of_mem _ (List.mem_cons_self)))))))))))
theorem u_24_10 : (Cond.instanceMethod yX9_habit) ∈ uU := uT_23 _ (List.mem_append_left _ (List.mem_cons_of_mem _ (List.mem_cons_of_mem _ (List.mem_cons_of_mem _ (List.mem_cons_of_mem _ (List.mem_cons_of_mem _ (List.mem_cons_of_mem _ (List.mem_cons_of_mem _ (List.mem_cons_of_mem _ (List.mem_cons_of_mem _ (List.mem_cons_of_mem _ (List.mem_cons_self))))))))))))
theorem u_24_11 : (Cond.selects RX9 yX9_habit yX9_habit) ∈ uU := uT_23 _ (List.mem_append_left _ (List.mem_cons_of_mem _ (List.mem_cons_of_mem _ (List.mem_cons_of_mem _ (List.mem_cons_of_mem _ (List.mem_cons_of_mem _ (List.mem_cons_of_mem _ (List.mem_cons_of_mem _ (List.mem_cons_of_mem _ (List.mem_cons_of_mem _ (List.mem_cons_of_mem _ (List.mem_cons_of_mem _ (List.mem_cons_self)))))))))))))
theorem u_24_12 : (Cond.code yX9_habit cX9_habit 3 (some .int)) ∈ uU := uT_23 _ (List.mem_append_left _ (List.mem_cons_of_mem _ (List.mem_cons_of_mem _ (List.mem_cons_of_mem _ (List.mem_cons_of_mem _ (List.mem_cons_of_mem _ (List.mem_cons_of_mem _ (List.mem_cons_of_mem _ (List.mem_cons_of_mem _ (List.mem_cons_of_mem _ (List.mem_cons_of_mem _ (List.mem_cons_of_mem _ (List.mem_cons_of_mem _ (List.mem_cons_self))))))))))))))
theorem u_24_13 : (Cond.methodLink RX9 136 yX3_tell) ∈ uU := uT_23 _ (List.mem_append_left _ (List.mem_cons_of_mem _ (List.mem_cons_of_mem _ (List.mem_cons_of_mem _ (List.mem_cons_of_mem _ (List.mem_cons_of_mem _ (List.mem_cons_of_mem _ (List.mem_cons_of_mem _ (List.mem_cons_of_mem _ (List.mem_cons_of_mem _ (List.mem_cons_of_mem _ (List.mem_cons_of_mem _ (List.mem_cons_of_mem _ (List.mem_cons_of_mem _ (List.mem_cons_self)))))))))))))))
theorem u_24_14 : (Cond.instanceMethod yX3_tell) ∈ uU := uT_23 _ (List.mem_append_left _ (List.mem_cons_of_mem _ (List.mem_cons_of_mem _ (List.mem_cons_of_mem _ (List.mem_cons_of_mem _ (List.mem_cons_of_mem _ (List.mem_cons_of_mem _ (List.mem_cons_of_mem _ (List.mem_cons_of_mem _ (List.mem_cons_of_mem _ (List.mem_cons_of_mem _ (List.mem_cons_of_mem _ (List.mem_cons_of_mem _ (List.mem_cons_of_mem _ (List.mem_cons_of_mem _ (List.mem_cons_self))))))))))))))))
theorem u_24_15 : (Cond.selects RX3 yX3_tell yX3_tell) ∈ uU := uT_23 _ (List.mem_append_left _ (List.mem_cons_of_mem _ (List.mem_cons_of_mem _ (List.mem_cons_of_mem _ (List.mem_cons_of_mem _ (List.mem_cons_of_mem _ (List.mem_cons_of_mem _ (List.mem_cons_of_mem _ (List.mem_cons_of_mem _ (List.mem_cons_of_mem _ (List.mem_cons_of_mem _ (List.mem_cons_of_mem _ (List.mem_cons_of_mem _ (List.mem_cons_of_mem _ (List.mem_cons_of_mem _ (List.mem_cons_of_mem _ (List.mem_cons_self)))))))))))))))))
theorem u_24_16 : (Cond.code yX3_tell cX3_tell 4 (some .int)) ∈ uU := uT_23 _ (List.mem_append_left _ (List.mem_cons_of_mem _ (List.mem_cons_of_mem _ (List.mem_cons_of_mem _ (List.mem_cons_of_mem _ (List.mem_cons_of_mem _ (List.mem_cons_of_mem _ (List.mem_cons_of_mem _ (List.mem_cons_of_mem _ (List.mem_cons_of_mem _ (List.mem_cons_of_mem _ (List.mem_cons_of_mem _ (List.mem_cons_of_mem _ (List.mem_cons_of_mem _ (List.mem_cons_of_mem _ (List.mem_cons_of_mem _ (List.mem_cons_of_mem _ (List.mem_cons_self))))))))))))))))))
theorem u_24_17 : (Cond.methodLink RL 68 yX10_habit) ∈ uU := uT_23 _ (List.mem_append_left _ (List.mem_cons_of_mem _ (List.mem_cons_of_mem _ (List.mem_cons_of_mem _ (List.mem_cons_of_mem _ (List.mem_cons_of_mem _ (List.mem_cons_of_mem _ (List.mem_cons_of_mem _ (List.mem_cons_of_mem _ (List.mem_cons_of_mem _ (List.mem_cons_of_mem _ (List.mem_cons_of_mem _ (List.mem_cons_of_mem _ (List.mem_cons_of_mem _ (List.mem_cons_of_mem _ (List.mem_cons_of_mem _ (List.mem_cons_of_mem _ (List.mem_cons_of_mem _ (List.mem_cons_self)))))))))))))))))))
theorem u_24_18 : (Cond.instanceMethod yX10_habit) ∈ uU := uT_23 _ (List.mem_append_left _ (List.mem_cons_of_mem _ (List.mem_cons_of_mem _ (List.mem_cons_of_mem _ (List.mem_cons_of_mem _ (List.mem_cons_of_mem _ (List.mem_cons_of_mem _ (List.mem_cons_of_mem _ (List.mem_cons_of_mem _ (List.mem_cons_of_mem _ (List.mem_cons_of_mem _ (List.mem_cons_of_mem _ (List.mem_cons_of_mem _ (List.mem_cons_of_mem _ (List.mem_cons_of_mem _ (List.mem_cons_of_mem _ (List.mem_cons_of_mem _ (List.mem_cons_of_mem _ (List.mem_cons_of_mem _ (List.mem_cons_self))))))))))))))))))))
theorem u_24_19 : (Cond.selects RX10 yX10_habit yX10_habit) ∈ uU := uT_23 _ (List.mem_append_left _ (List.mem_cons_of_mem _ (List.mem_cons_of_mem _ (List.mem_cons_of_mem _ (List.mem_cons_of_mem _ (List.mem_cons_of_mem _ (List.mem_cons_of_mem _ (List.mem_cons_of_mem _ (List.mem_cons_of_mem _ (List.mem_cons_of_mem _ (List.mem_cons_of_mem _ (List.mem_cons_of_mem _ (List.mem_cons_of_mem _ (List.mem_cons_of_mem _ (List.mem_cons_of_mem _ (List.mem_cons_of_mem _ (List.mem_cons_of_mem _ (List.mem_cons_of_mem _ (List.mem_cons_of_mem _ (List.mem_cons_of_mem _ (List.mem_cons_self)))))))))))))))))))))
theorem u_24_20 : (Cond.code yX10_habit cX10_habit 4 (some .int)) ∈ uU := uT_23 _ (List.mem_append_left _ (List.mem_cons_of_mem _ (List.mem_cons_of_mem _ (List.mem_cons_of_mem _ (List.mem_cons_of_mem _ (List.mem_cons_of_mem _ (List.mem_cons_of_mem _ (List.mem_cons_of_mem _ (List.mem_cons_of_mem _ (List.mem_cons_of_mem _ (List.mem_cons_of_mem _ (List.mem_cons_of_mem _ (List.mem_cons_of_mem _ (List.mem_cons_of_mem _ (List.mem_cons_of_mem _ (List.mem_cons_of_mem _ (List.mem_cons_of_mem _ (List.mem_cons_of_mem _ (List.mem_cons_of_mem _ (List.mem_cons_of_mem _ (List.mem_cons_of_mem _ (List.mem_cons_self))))))))))))))))))))))
theorem u_24_21 : (Cond.constantLong RX10 205 (100)) ∈ uU := uT_23 _ (List.mem_append_left _ (List.mem_cons_of_mem _ (List.mem_cons_of_mem _ (List.mem_cons_of_mem _ (List.mem_cons_of_mem _ (List.mem_cons_of_mem _ (List.mem_cons_of_mem _ (List.mem_cons_of_mem _ (List.mem_cons_of_mem _ (List.mem_cons_of_mem _ (List.mem_cons_of_mem _ (List.mem_cons_of_mem _ (List.mem_cons_of_mem _ (List.mem_cons_of_mem _ (List.mem_cons_of_mem _ (List.mem_cons_of_mem _ (List.mem_cons_of_mem _ (List.mem_cons_of_mem _ (List.mem_cons_of_mem _ (List.mem_cons_of_mem _ (List.mem_cons_of_mem _ (List.mem_cons_of_mem _ (List.mem_cons_self)))))))))))))))))))))))
theorem u_24_22 : (Cond.methodLink RL 69 yX9_lives) ∈ uU := uT_23 _ (List.mem_append_left _ (List.mem_cons_of_mem _ (List.mem_cons_of_mem _ (List.mem_cons_of_mem _ (List.mem_cons_of_mem _ (List.mem_cons_of_mem _ (List.mem_cons_of_mem _ (List.mem_cons_of_mem _ (List.mem_cons_of_mem _ (List.mem_cons_of_mem _ (List.mem_cons_of_mem _ (List.mem_cons_of_mem _ (List.mem_cons_of_mem _ (List.mem_cons_of_mem _ (List.mem_cons_of_mem _ (List.mem_cons_of_mem _ (List.mem_cons_of_mem _ (List.mem_cons_of_mem _ (List.mem_cons_of_mem _ (List.mem_cons_of_mem _ (List.mem_cons_of_mem _ (List.mem_cons_of_mem _ (List.mem_cons_of_mem _ (List.mem_cons_self))))))))))))))))))))))))
theorem u_24_23 : (Cond.instanceMethod yX9_lives) ∈ uU := uT_23 _ (List.mem_append_left _ (List.mem_cons_of_mem _ (List.mem_cons_of_mem _ (List.mem_cons_of_mem _ (List.mem_cons_of_mem _ (List.mem_cons_of_mem _ (List.mem_cons_of_mem _ (List.mem_cons_of_mem _ (List.mem_cons_of_mem _ (List.mem_cons_of_mem _ (List.mem_cons_of_mem _ (List.mem_cons_of_mem _ (List.mem_cons_of_mem _ (List.mem_cons_of_mem _ (List.mem_cons_of_mem _ (List.mem_cons_of_mem _ (List.mem_cons_of_mem _ (List.mem_cons_of_mem _ (List.mem_cons_of_mem _ (List.mem_cons_of_mem _ (List.mem_cons_of_mem _ (List.mem_cons_of_mem _ (List.mem_cons_of_mem _ (List.mem_cons_of_mem _ (List.mem_cons_self)))))))))))))))))))))))))
theorem u_25_0 : (Cond.selects RX9 yX9_lives yX9_lives) ∈ uU := uT_24 _ (List.mem_append_left _ (List.mem_cons_self))
theorem u_25_1 : (Cond.code yX9_lives cX9_lives 3 (some .int)) ∈ uU := uT_24 _ (List.mem_append_left _ (List.mem_cons_of_mem _ (List.mem_cons_self)))
theorem u_25_2 : (Cond.methodLink RX9 139 yX3_sumOfWeights) ∈ uU := uT_24 _ (List.mem_append_left _ (List.mem_cons_of_mem _ (List.mem_cons_of_mem _ (List.mem_cons_self))))
theorem u_25_3 : (Cond.instanceMethod yX3_sumOfWeights) ∈ uU := uT_24 _ (List.mem_append_left _ (List.mem_cons_of_mem _ (List.mem_cons_of_mem _ (List.mem_cons_of_mem _ (List.mem_cons_self)))))
theorem u_25_4 : (Cond.selects RX3 yX3_sumOfWeights yX3_sumOfWeights) ∈ uU := uT_24 _ (List.mem_append_left _ (List.mem_cons_of_mem _ (List.mem_cons_of_mem _ (List.mem_cons_of_mem _ (List.mem_cons_of_mem _ (List.mem_cons_self))))))
theorem u_25_5 : (Cond.code yX3_sumOfWeights cX3_sumOfWeights 3 (some .int)) ∈ uU := uT_24 _ (List.mem_append_left _ (List.mem_cons_of_mem _ (List.mem_cons_of_mem _ (List.mem_cons_of_mem _ (List.mem_cons_of_mem _ (List.mem_cons_of_mem _ (List.mem_cons_self)))))))
theorem u_25_6 : (Cond.methodLink RX9 142 yX3_sumOfCopies) ∈ uU := uT_24 _ (List.mem_append_left _ (List.mem_cons_of_mem _ (List.mem_cons_of_mem _ (List.mem_cons_of_mem _ (List.mem_cons_of_mem _ (List.mem_cons_of_mem _ (List.mem_cons_of_mem _ (List.mem_cons_self))))))))
theorem u_25_7 : (Cond.instanceMethod yX3_sumOfCopies) ∈ uU := uT_24 _ (List.mem_append_left _ (List.mem_cons_of_mem _ (List.mem_cons_of_mem _ (List.mem_cons_of_mem _ (List.mem_cons_of_mem _ (List.mem_cons_of_mem _ (List.mem_cons_of_mem _ (List.mem_cons_of_mem _ (List.mem_cons_self)))))))))
theorem u_25_8 : (Cond.selects RX3 yX3_sumOfCopies yX3_sumOfCopies) ∈ uU := uT_24 _ (List.mem_append_left _ (List.mem_cons_of_mem _ (List.mem_cons_of_mem _ (List.mem_cons_of_mem _ (List.mem_cons_of_mem _ (List.mem_cons_of_mem _ (List.mem_cons_of_mem _ (List.mem_cons_of_mem _ (List.mem_cons_of_mem _ (List.mem_cons_self))))))))))
theorem u_25_9 : (Cond.code yX3_sumOfCopies cX3_sumOfCopies 3 (some .int)) ∈ uU := uT_24 _ (List.mem_append_left _ (List.mem_cons_of_mem _ (List.mem_cons_of_mem _ (List.mem_cons_of_mem _ (List.mem_cons_of_mem _ (List.mem_cons_of_mem _ (List.mem_cons_of_mem _ (List.mem_cons_of_mem _ (List.mem_cons_of_mem _ (List.mem_cons_of_mem _ (List.mem_cons_self)))))))))))
theorem u_25_10 : (Cond.methodLink RL 72 yX10_lives) ∈ uU := uT_24 _ (List.mem_append_left _ (List.mem_cons_of_mem _ (List.mem_cons_of_mem _ (List.mem_cons_of_mem _ (List.mem_cons_of_mem _ (List.mem_cons_of_mem _ (List.mem_cons_of_mem _ (List.mem_cons_of_mem _ (List.mem_cons_of_mem _ (List.mem_cons_of_mem _ (List.mem_cons_of_mem _ (List.mem_cons_self))))))))))))
theorem u_25_11 : (Cond.instanceMethod yX10_lives) ∈ uU := uT_24 _ (List.mem_append_left _ (List.mem_cons_of_mem _ (List.mem_cons_of_mem _ (List.mem_cons_of_mem _ (List.mem_cons_of_mem _ (List.mem_cons_of_mem _ (List.mem_cons_of_mem _ (List.mem_cons_of_mem _ (List.mem_cons_of_mem _ (List.mem_cons_of_mem _ (List.mem_cons_of_mem _ (List.mem_cons_of_mem _ (List.mem_cons_self)))))))))))))
theorem u_25_12 : (Cond.selects RX10 yX10_lives yX10_lives) ∈ uU := uT_24 _ (List.mem_append_left _ (List.mem_cons_of_mem _ (List.mem_cons_of_mem _ (List.mem_cons_of_mem _ (List.mem_cons_of_mem _ (List.mem_cons_of_mem _ (List.mem_cons_of_mem _ (List.mem_cons_of_mem _ (List.mem_cons_of_mem _ (List.mem_cons_of_mem _ (List.mem_cons_of_mem _ (List.mem_cons_of_mem _ (List.mem_cons_of_mem _ (List.mem_cons_self))))))))))))))
theorem u_25_13 : (Cond.code yX10_lives cX10_lives 3 (some .int)) ∈ uU := uT_24 _ (List.mem_append_left _ (List.mem_cons_of_mem _ (List.mem_cons_of_mem _ (List.mem_cons_of_mem _ (List.mem_cons_of_mem _ (List.mem_cons_of_mem _ (List.mem_cons_of_mem _ (List.mem_cons_of_mem _ (List.mem_cons_of_mem _ (List.mem_cons_of_mem _ (List.mem_cons_of_mem _ (List.mem_cons_of_mem _ (List.mem_cons_of_mem _ (List.mem_cons_of_mem _ (List.mem_cons_self)))))))))))))))
theorem u_25_14 : (Cond.methodLink RX10 207 yX10_weights) ∈ uU := uT_24 _ (List.mem_append_left _ (List.mem_cons_of_mem _ (List.mem_cons_of_mem _ (List.mem_cons_of_mem _ (List.mem_cons_of_mem _ (List.mem_cons_of_mem _ (List.mem_cons_of_mem _ (List.mem_cons_of_mem _ (List.mem_cons_of_mem _ (List.mem_cons_of_mem _ (List.mem_cons_of_mem _ (List.mem_cons_of_mem _ (List.mem_cons_of_mem _ (List.mem_cons_of_mem _ (List.mem_cons_of_mem _ (List.mem_cons_self))))))))))))))))
theorem u_25_15 : (Cond.instanceMethod yX10_weights) ∈ uU := uT_24 _ (List.mem_append_left _ (List.mem_cons_of_mem _ (List.mem_cons_of_mem _ (List.mem_cons_of_mem _ (List.mem_cons_of_mem _ (List.mem_cons_of_mem _ (List.mem_cons_of_mem _ (List.mem_cons_of_mem _ (List.mem_cons_of_mem _ (List.mem_cons_of_mem _ (List.mem_cons_of_mem _ (List.mem_cons_of_mem _ (List.mem_cons_of_mem _ (List.mem_cons_of_mem _ (List.mem_cons_of_mem _ (List.mem_cons_of_mem _ (List.mem_cons_self)))))))))))))))))
theorem u_25_16 : (Cond.selects RX10 yX10_weights yX10_weights) ∈ uU := uT_24 _ (List.mem_append_left _ (List.mem_cons_of_mem _ (List.mem_cons_of_mem _ (List.mem_cons_of_mem _ (List.mem_cons_of_mem _ (List.mem_cons_of_mem _ (List.mem_cons_of_mem _ (List.mem_cons_of_mem _ (List.mem_cons_of_mem _ (List.mem_cons_of_mem _ (List.mem_cons_of_mem _ (List.mem_cons_of_mem _ (List.mem_cons_of_mem _ (List.mem_cons_of_mem _ (List.mem_cons_of_mem _ (List.mem_cons_of_mem _ (List.mem_cons_of_mem _ (List.mem_cons_self))))))))))))))))))
theorem u_25_17 : (Cond.code yX10_weights cX10_weights 3 (some .int)) ∈ uU := uT_24 _ (List.mem_append_left _ (List.mem_cons_of_mem _ (List.mem_cons_of_mem _ (List.mem_cons_of_mem _ (List.mem_cons_of_mem _ (List.mem_cons_of_mem _ (List.mem_cons_of_mem _ (List.mem_cons_of_mem _ (List.mem_cons_of_mem _ (List.mem_cons_of_mem _ (List.mem_cons_of_mem _ (List.mem_cons_of_mem _ (List.mem_cons_of_mem _ (List.mem_cons_of_mem _ (List.mem_cons_of_mem _ (List.mem_cons_of_mem _ (List.mem_cons_of_mem _ (List.mem_cons_of_mem _ (List.mem_cons_self)))))))))))))))))))
theorem u_25_18 : (Cond.methodLink RX10 210 yX10_copiesOfAll) ∈ uU := uT_24 _ (List.mem_append_left _ (List.mem_cons_of_mem _ (List.mem_cons_of_mem _ (List.mem_cons_of_mem _ (List.mem_cons_of_mem _ (List.mem_cons_of_mem _ (List.mem_cons_of_mem _ (List.mem_cons_of_mem _ (List.mem_cons_of_mem _ (List.mem_cons_of_mem _ (List.mem_cons_of_mem _ (List.mem_cons_of_mem _ (List.mem_cons_of_mem _ (List.mem_cons_of_mem _ (List.mem_cons_of_mem _ (List.mem_cons_of_mem _ (List.mem_cons_of_mem _ (List.mem_cons_of_mem _ (List.mem_cons_of_mem _ (List.mem_cons_self))))))))))))))))))))
theorem u_25_19 : (Cond.instanceMethod yX10_copiesOfAll) ∈ uU := uT_24 _ (List.mem_append_left _ (List.mem_cons_of_mem _ (List.mem_cons_of_mem _ (List.mem_cons_of_mem _ (List.mem_cons_of_mem _ (List.mem_cons_of_mem _ (List.mem_cons_of_mem _ (List.mem_cons_of_mem _ (List.mem_cons_of_mem _ (List.mem_cons_of_mem _ (List.mem_cons_of_mem _ (List.mem_cons_of_mem _ (List.mem_cons_of_mem _ (List.mem_cons_of_mem _ (List.mem_cons_of_mem _ (List.mem_cons_of_mem _ (List.mem_cons_of_mem _ (List.mem_cons_of_mem _ (List.mem_cons_of_mem _ (List.mem_cons_of_mem _ (List.mem_cons_self)))))))))))))))))))))
theorem u_25_20 : (Cond.selects RX10 yX10_copiesOfAll yX10_copiesOfAll) ∈ uU := uT_24 _ (List.mem_append_left _ (List.mem_cons_of_mem _ (List.mem_cons_of_mem _ (List.mem_cons_of_mem _ (List.mem_cons_of_mem _ (List.mem_cons_of_mem _ (List.mem_cons_of_mem _ (List.mem_cons_of_mem _ (List.mem_cons_of_mem _ (List.mem_cons_of_mem _ (List.mem_cons_of_mem _ (List.mem_cons_of_mem _ (List.mem_cons_of_mem _ (List.mem_cons_of_mem _ (List.mem_cons_of_mem _ (List.mem_cons_of_mem _ (List.mem_cons_of_mem _ (List.mem_cons_of_mem _ (List.mem_cons_of_mem _ (List.mem_cons_of_mem _ (List.mem_cons_of_mem _ (List.mem_cons_self))))))))))))))))))))))
theorem u_25_21 : (Cond.code yX10_copiesOfAll cX10_copiesOfAll 3 (some .int)) ∈ uU := uT_24 _ (List.mem_append_left _ (List.mem_cons_of_mem _ (List.mem_cons_of_mem _ (List.mem_cons_of_mem _ (List.mem_cons_of_mem _ (List.mem_cons_of_mem _ (List.mem_cons_of_mem _ (List.mem_cons_of_mem _ (List.mem_cons_of_mem _ (List.mem_cons_of_mem _ (List.mem_cons_of_mem _ (List.mem_cons_of_mem _ (List.mem_cons_of_mem _ (List.mem_cons_of_mem _ (List.mem_cons_of_mem _ (List.mem_cons_of_mem _ (List.mem_cons_of_mem _ (List.mem_cons_of_mem _ (List.mem_cons_of_mem _ (List.mem_cons_of_mem _ (List.mem_cons_of_mem _ (List.mem_cons_of_mem _ (List.mem_cons_self)))))))))))))))))))))))
theorem u_25_22 : (Cond.methodLink RL 73 yX9_mean) ∈ uU := uT_24 _ (List.mem_append_left _ (List.mem_cons_of_mem _ (List.mem_cons_of_mem _ (List.mem_cons_of_mem _ (List.mem_cons_of_mem _ (List.mem_cons_of_mem _ (List.mem_cons_of_mem _ (List.mem_cons_of_mem _ (List.mem_cons_of_mem _ (List.mem_cons_of_mem _ (List.mem_cons_of_mem _ (List.mem_cons_of_mem _ (List.mem_cons_of_mem _ (List.mem_cons_of_mem _ (List.mem_cons_of_mem _ (List.mem_cons_of_mem _ (List.mem_cons_of_mem _ (List.mem_cons_of_mem _ (List.mem_cons_of_mem _ (List.mem_cons_of_mem _ (List.mem_cons_of_mem _ (List.mem_cons_of_mem _ (List.mem_cons_of_mem _ (List.mem_cons_self))))))))))))))))))))))))
theorem u_25_23 : (Cond.instanceMethod yX9_mean) ∈ uU := uT_24 _ (List.mem_append_left _ (List.mem_cons_of_mem _ (List.mem_cons_of_mem _ (List.mem_cons_of_mem _ (List.mem_cons_of_mem _ (List.mem_cons_of_mem _ (List.mem_cons_of_mem _ (List.mem_cons_of_mem _ (List.mem_cons_of_mem _ (List.mem_cons_of_mem _ (List.mem_cons_of_mem _ (List.mem_cons_of_mem _ (List.mem_cons_of_mem _ (List.mem_cons_of_mem _ (List.mem_cons_of_mem _ (List.mem_cons_of_mem _ (List.mem_cons_of_mem _ (List.mem_cons_of_mem _ (List.mem_cons_of_mem _ (List.mem_cons_of_mem _ (List.mem_cons_of_mem _ (List.mem_cons_of_mem _ (List.mem_cons_of_mem _ (List.mem_cons_of_mem _ (List.mem_cons_self)))))))))))))))))))))))))
theorem u_26_0 : (Cond.selects RX9 yX9_mean yX9_mean) ∈ uU := uT_25 _ (List.mem_append_left _ (List.mem_cons_self))
theorem u_26_1 : (Cond.code yX9_mean cX9_mean 2 (some .int)) ∈ uU := uT_25 _ (List.mem_append_left _ (List.mem_cons_of_mem _ (List.mem_cons_self)))
theorem u_26_2 : (Cond.methodLink RX9 145 yX2_become) ∈ uU := uT_25 _ (List.mem_append_left _ (List.mem_cons_of_mem _ (List.mem_cons_of_mem _ (List.mem_cons_self))))
theorem u_26_3 : (Cond.instanceMethod yX2_become) ∈ uU := uT_25 _ (List.mem_append_left _ (List.mem_cons_of_mem _ (List.mem_cons_of_mem _ (List.mem_cons_of_mem _ (List.mem_cons_self)))))
theorem u_26_4 : (Cond.selects RX2 yX2_become yX2_become) ∈ uU := uT_25 _ (List.mem_append_left _ (List.mem_cons_of_mem _ (List.mem_cons_of_mem _ (List.mem_cons_of_mem _ (List.mem_cons_of_mem _ (List.mem_cons_self))))))
theorem u_26_5 : (Cond.code yX2_become cX2_become 7 none) ∈ uU := uT_25 _ (List.mem_append_left _ (List.mem_cons_of_mem _ (List.mem_cons_of_mem _ (List.mem_cons_of_mem _ (List.mem_cons_of_mem _ (List.mem_cons_of_mem _ (List.mem_cons_self)))))))
theorem u_26_6 : (Cond.methodLink RX2 23 yX2_shared) ∈ uU := uT_25 _ (List.mem_append_left _ (List.mem_cons_of_mem _ (List.mem_cons_of_mem _ (List.mem_cons_of_mem _ (List.mem_cons_of_mem _ (List.mem_cons_of_mem _ (List.mem_cons_of_mem _ (List.mem_cons_self))))))))
theorem u_26_7 : (Cond.static yX2_shared) ∈ uU := uT_25 _ (List.mem_append_left _ (List.mem_cons_of_mem _ (List.mem_cons_of_mem _ (List.mem_cons_of_mem _ (List.mem_cons_of_mem _ (List.mem_cons_of_mem _ (List.mem_cons_of_mem _ (List.mem_cons_of_mem _ (List.mem_cons_self)))))))))
theorem u_26_8 : (Cond.code yX2_shared cX2_shared 11 (some .long)) ∈ uU := uT_25 _ (List.mem_append_left _ (List.mem_cons_of_mem _ (List.mem_cons_of_mem _ (List.mem_cons_of_mem _ (List.mem_cons_of_mem _ (List.mem_cons_of_mem _ (List.mem_cons_of_mem _ (List.mem_cons_of_mem _ (List.mem_cons_of_mem _ (List.mem_cons_self))))))))))
theorem u_26_9 : (Cond.methodLink RL 76 yX10_mean) ∈ uU := uT_25 _ (List.mem_append_left _ (List.mem_cons_of_mem _ (List.mem_cons_of_mem _ (List.mem_cons_of_mem _ (List.mem_cons_of_mem _ (List.mem_cons_of_mem _ (List.mem_cons_of_mem _ (List.mem_cons_of_mem _ (List.mem_cons_of_mem _ (List.mem_cons_of_mem _ (List.mem_cons_self)))))))))))
theorem u_26_10 : (Cond.instanceMethod yX10_mean) ∈ uU := uT_25 _ (List.mem_append_left _ (List.mem_cons_of_mem _ (List.mem_cons_of_mem _ (List.mem_cons_of_mem _ (List.mem_cons_of_mem _ (List.mem_cons_of_mem _ (List.mem_cons_of_mem _ (List.mem_cons_of_mem _ (List.mem_cons_of_mem _ (List.mem_cons_of_mem _ (List.mem_cons_of_mem _ (List.mem_cons_self))))))))))))
theorem u_26_11 : (Cond.selects RX10 yX10_mean yX10_mean) ∈ uU := uT_25 _ (List.mem_append_left _ (List.mem_cons_of_mem _ (List.mem_cons_of_mem _ (List.mem_cons_of_mem _ (List.mem_cons_of_mem _ (List.mem_cons_of_mem _ (List.mem_cons_of_mem _ (List.mem_cons_of_mem _ (List.mem_cons_of_mem _ (List.mem_cons_of_mem _ (List.mem_cons_of_mem _ (List.mem_cons_of_mem _ (List.mem_cons_self)))))))))))))
theorem u_26_12 : (Cond.code yX10_mean cX10_mean 1 (some .int)) ∈ uU := uT_25 _ (List.mem_append_left _ (List.mem_cons_of_mem _ (List.mem_cons_of_mem _ (List.mem_cons_of_mem _ (List.mem_cons_of_mem _ (List.mem_cons_of_mem _ (List.mem_cons_of_mem _ (List.mem_cons_of_mem _ (List.mem_cons_of_mem _ (List.mem_cons_of_mem _ (List.mem_cons_of_mem _ (List.mem_cons_of_mem _ (List.mem_cons_of_mem _ (List.mem_cons_self))))))))))))))
theorem u_26_13 : (Cond.methodLink RX10 213 yX10_tells) ∈ uU := uT_25 _ (List.mem_append_left _ (List.mem_cons_of_mem _ (List.mem_cons_of_mem _ (List.mem_cons_of_mem _ (List.mem_cons_of_mem _ (List.mem_cons_of_mem _ (List.mem_cons_of_mem _ (List.mem_cons_of_mem _ (List.mem_cons_of_mem _ (List.mem_cons_of_mem _ (List.mem_cons_of_mem _ (List.mem_cons_of_mem _ (List.mem_cons_of_mem _ (List.mem_cons_of_mem _ (List.mem_cons_self)))))))))))))))
theorem u_26_14 : (Cond.instanceMethod yX10_tells) ∈ uU := uT_25 _ (List.mem_append_left _ (List.mem_cons_of_mem _ (List.mem_cons_of_mem _ (List.mem_cons_of_mem _ (List.mem_cons_of_mem _ (List.mem_cons_of_mem _ (List.mem_cons_of_mem _ (List.mem_cons_of_mem _ (List.mem_cons_of_mem _ (List.mem_cons_of_mem _ (List.mem_cons_of_mem _ (List.mem_cons_of_mem _ (List.mem_cons_of_mem _ (List.mem_cons_of_mem _ (List.mem_cons_of_mem _ (List.mem_cons_self))))))))))))))))
theorem u_26_15 : (Cond.selects RX10 yX10_tells yX10_tells) ∈ uU := uT_25 _ (List.mem_append_left _ (List.mem_cons_of_mem _ (List.mem_cons_of_mem _ (List.mem_cons_of_mem _ (List.mem_cons_of_mem _ (List.mem_cons_of_mem _ (List.mem_cons_of_mem _ (List.mem_cons_of_mem _ (List.mem_cons_of_mem _ (List.mem_cons_of_mem _ (List.mem_cons_of_mem _ (List.mem_cons_of_mem _ (List.mem_cons_of_mem _ (List.mem_cons_of_mem _ (List.mem_cons_of_mem _ (List.mem_cons_of_mem _ (List.mem_cons_self)))))))))))))))))
theorem u_26_16 : (Cond.code yX10_tells cX10_tells 5 (some .int)) ∈ uU := uT_25 _ (List.mem_append_left _ (List.mem_cons_of_mem _ (List.mem_cons_of_mem _ (List.mem_cons_of_mem _ (List.mem_cons_of_mem _ (List.mem_cons_of_mem _ (List.mem_cons_of_mem _ (List.mem_cons_of_mem _ (List.mem_cons_of_mem _ (List.mem_cons_of_mem _ (List.mem_cons_of_mem _ (List.mem_cons_of_mem _ (List.mem_cons_of_mem _ (List.mem_cons_of_mem _ (List.mem_cons_of_mem _ (List.mem_cons_of_mem _ (List.mem_cons_of_mem _ (List.mem_cons_self))))))))))))))))))
theorem u_26_17 : (Cond.methodLink RX10 120 yX10_lowers) ∈ uU := uT_25 _ (List.mem_append_left _ (List.mem_cons_of_mem _ (List.mem_cons_of_mem _ (List.mem_cons_of_mem _ (List.mem_cons_of_mem _ (List.mem_cons_of_mem _ (List.mem_cons_of_mem _ (List.mem_cons_of_mem _ (List.mem_cons_of_mem _ (List.mem_cons_of_mem _ (List.mem_cons_of_mem _ (List.mem_cons_of_mem _ (List.mem_cons_of_mem _ (List.mem_cons_of_mem _ (List.mem_cons_of_mem _ (List.mem_cons_of_mem _ (List.mem_cons_of_mem _ (List.mem_cons_of_mem _ (List.mem_cons_self)))))))))))))))))))
theorem u_26_18 : (Cond.instanceMethod yX10_lowers) ∈ uU := uT_25 _ (List.mem_append_left _ (List.mem_cons_of_mem _ (List.mem_cons_of_mem _ (List.mem_cons_of_mem _ (List.mem_cons_of_mem _ (List.mem_cons_of_mem _ (List.mem_cons_of_mem _ (List.mem_cons_of_mem _ (List.mem_cons_of_mem _ (List.mem_cons_of_mem _ (List.mem_cons_of_mem _ (List.mem_cons_of_mem _ (List.mem_cons_of_mem _ (List.mem_cons_of_mem _ (List.mem_cons_of_mem _ (List.mem_cons_of_mem _ (List.mem_cons_of_mem _ (List.mem_cons_of_mem _ (List.mem_cons_of_mem _ (List.mem_cons_self))))))))))))))))))))
theorem u_26_19 : (Cond.selects RX10 yX10_lowers yX10_lowers) ∈ uU := uT_25 _ (List.mem_append_left _ (List.mem_cons_of_mem _ (List.mem_cons_of_mem _ (List.mem_cons_of_mem _ (List.mem_cons_of_mem _ (List.mem_cons_of_mem _ (List.mem_cons_of_mem _ (List.mem_cons_of_mem _ (List.mem_cons_of_mem _ (List.mem_cons_of_mem _ (List.mem_cons_of_mem _ (List.mem_cons_of_mem _ (List.mem_cons_of_mem _ (List.mem_cons_of_mem _ (List.mem_cons_of_mem _ (List.mem_cons_of_mem _ (List.mem_cons_of_mem _ (List.mem_cons_of_mem _ (List.mem_cons_of_mem _ (List.mem_cons_of_mem _ (List.mem_cons_self)))))))))))))))))))))
theorem u_26_20 : (Cond.code yX10_lowers cX10_lowers 2 none) ∈ uU := uT_25 _ (List.mem_append_left _ (List.mem_cons_of_mem _ (List.mem_cons_of_mem _ (List.mem_cons_of_mem _ (List.mem_cons_of_mem _ (List.mem_cons_of_mem _ (List.mem_cons_of_mem _ (List.mem_cons_of_mem _ (List.mem_cons_of_mem _ (List.mem_cons_of_mem _ (List.mem_cons_of_mem _ (List.mem_cons_of_mem _ (List.mem_cons_of_mem _ (List.mem_cons_of_mem _ (List.mem_cons_of_mem _ (List.mem_cons_of_mem _ (List.mem_cons_of_mem _ (List.mem_cons_of_mem _ (List.mem_cons_of_mem _ (List.mem_cons_of_mem _ (List.mem_cons_of_mem _ (List.mem_cons_self))))))))))))))))))))))
theorem u_26_21 : (Cond.methodLink RX10 103 yX10_isEven) ∈ uU := uT_25 _ (List.mem_append_left _ (List.mem_cons_of_mem _ (List.mem_cons_of_mem _ (List.mem_cons_of_mem _ (List.mem_cons_of_mem _ (List.mem_cons_of_mem _ (List.mem_cons_of_mem _ (List.mem_cons_of_mem _ (List.mem_cons_of_mem _ (List.mem_cons_of_mem _ (List.mem_cons_of_mem _ (List.mem_cons_of_mem _ (List.mem_cons_of_mem _ (List.mem_cons_of_mem _ (List.mem_cons_of_mem _ (List.mem_cons_of_mem _ (List.mem_cons_of_mem _ (List.mem_cons_of_mem _ (List.mem_cons_of_mem _ (List.mem_cons_of_mem _ (List.mem_cons_of_mem _ (List.mem_cons_of_mem _ (List.mem_cons_self)))))))))))))))))))))))
theorem u_26_22 : (Cond.instanceMethod yX10_isEven) ∈ uU := uT_25 _ (List.mem_append_left _ (List.mem_cons_of_mem _ (List.mem_cons_of_mem _ (List.mem_cons_of_mem _ (List.mem_cons_of_mem _ (List.mem_cons_of_mem _ (List.mem_cons_of_mem _ (List.mem_cons_of_mem _ (List.mem_cons_of_mem _ (List.mem_cons_of_mem _ (List.mem_cons_of_mem _ (List.mem_cons_of_mem _ (List.mem_cons_of_mem _ (List.mem_cons_of_mem _ (List.mem_cons_of_mem _ (List.mem_cons_of_mem _ (List.mem_cons_of_mem _ (List.mem_cons_of_mem _ (List.mem_cons_of_mem _ (List.mem_cons_of_mem _ (List.mem_cons_of_mem _ (List.mem_cons_of_mem _ (List.mem_cons_of_mem _ (List.mem_cons_self))))))))))))))))))))))))
theorem u_26_23 : (Cond.selects RX10 yX10_isEven yX10_isEven) ∈ uU := uT_25 _ (List.mem_append_left _ (List.mem_cons_of_mem _ (List.mem_cons_of_mem _ (List.mem_cons_of_mem _ (List.mem_cons_of_mem _ (List.mem_cons_of_mem _ (List.mem_cons_of_mem _ (List.mem_cons_of_mem _ (List.mem_cons_of_mem _ (List.mem_cons_of_mem _ (List.mem_cons_of_mem _ (List.mem_cons_of_mem _ (List.mem_cons_of_mem _ (List.mem_cons_of_mem _ (List.mem_cons_of_mem _ (List.mem_cons_of_mem _ (List.mem_cons_of_mem _ (List.mem_cons_of_mem _ (List.mem_cons_of_mem _ (List.mem_cons_of_mem _ (List.mem_cons_of_mem _ (List.mem_cons_of_mem _ (List.mem_cons_of_mem _ (List.mem_cons_of_mem _ (List.mem_cons_self)))))))))))))))))))))))))
theorem u_27_0 : (Cond.code yX10_isEven cX10_isEven 2 (some .boolean)) ∈ uU := uT_26 _ (List.mem_append_left _ (List.mem_cons_self))
theorem u_27_1 : (Cond.methodLink RX10 107 yX10_halves) ∈ uU := uT_26 _ (List.mem_append_left _ (List.mem_cons_of_mem _ (List.mem_cons_self)))
theorem u_27_2 : (Cond.instanceMethod yX10_halves) ∈ uU := uT_26 _ (List.mem_append_left _ (List.mem_cons_of_mem _ (List.mem_cons_of_mem _ (List.mem_cons_self))))
theorem u_27_3 : (Cond.selects RX10 yX10_halves yX10_halves) ∈ uU := uT_26 _ (List.mem_append_left _ (List.mem_cons_of_mem _ (List.mem_cons_of_mem _ (List.mem_cons_of_mem _ (List.mem_cons_self)))))
theorem u_27_4 : (Cond.code yX10_halves cX10_halves 4 none) ∈ uU := uT_26 _ (List.mem_append_left _ (List.mem_cons_of_mem _ (List.mem_cons_of_mem _ (List.mem_cons_of_mem _ (List.mem_cons_of_mem _ (List.mem_cons_self))))))
theorem u_27_5 : (Cond.methodLink RX10 98 yX10_takes) ∈ uU := uT_26 _ (List.mem_append_left _ (List.mem_cons_of_mem _ (List.mem_cons_of_mem _ (List.mem_cons_of_mem _ (List.mem_cons_of_mem _ (List.mem_cons_of_mem _ (List.mem_cons_self)))))))
theorem u_27_6 : (Cond.instanceMethod yX10_takes) ∈ uU := uT_26 _ (List.mem_append_left _ (List.mem_cons_of_mem _ (List.mem_cons_of_mem _ (List.mem_cons_of_mem _ (List.mem_cons_of_mem _ (List.mem_cons_of_mem _ (List.mem_cons_of_mem _ (List.mem_cons_self))))))))
theorem u_27_7 : (Cond.selects RX10 yX10_takes yX10_takes) ∈ uU := uT_26 _ (List.mem_append_left _ (List.mem_cons_of_mem _ (List.mem_cons_of_mem _ (List.mem_cons_of_mem _ (List.mem_cons_of_mem _ (List.mem_cons_of_mem _ (List.mem_cons_of_mem _ (List.mem_cons_of_mem _ (List.mem_cons_self)))))))))
theorem u_27_8 : (Cond.code yX10_takes cX10_takes 4 none) ∈ uU := uT_26 _ (List.mem_append_left _ (List.mem_cons_of_mem _ (List.mem_cons_of_mem _ (List.mem_cons_of_mem _ (List.mem_cons_of_mem _ (List.mem_cons_of_mem _ (List.mem_cons_of_mem _ (List.mem_cons_of_mem _ (List.mem_cons_of_mem _ (List.mem_cons_self))))))))))
theorem u_27_9 : (Cond.methodLink RX10 110 yX10_against) ∈ uU := uT_26 _ (List.mem_append_left _ (List.mem_cons_of_mem _ (List.mem_cons_of_mem _ (List.mem_cons_of_mem _ (List.mem_cons_of_mem _ (List.mem_cons_of_mem _ (List.mem_cons_of_mem _ (List.mem_cons_of_mem _ (List.mem_cons_of_mem _ (List.mem_cons_of_mem _ (List.mem_cons_self)))))))))))
theorem u_27_10 : (Cond.instanceMethod yX10_against) ∈ uU := uT_26 _ (List.mem_append_left _ (List.mem_cons_of_mem _ (List.mem_cons_of_mem _ (List.mem_cons_of_mem _ (List.mem_cons_of_mem _ (List.mem_cons_of_mem _ (List.mem_cons_of_mem _ (List.mem_cons_of_mem _ (List.mem_cons_of_mem _ (List.mem_cons_of_mem _ (List.mem_cons_of_mem _ (List.mem_cons_self))))))))))))
theorem u_27_11 : (Cond.selects RX10 yX10_against yX10_against) ∈ uU := uT_26 _ (List.mem_append_left _ (List.mem_cons_of_mem _ (List.mem_cons_of_mem _ (List.mem_cons_of_mem _ (List.mem_cons_of_mem _ (List.mem_cons_of_mem _ (List.mem_cons_of_mem _ (List.mem_cons_of_mem _ (List.mem_cons_of_mem _ (List.mem_cons_of_mem _ (List.mem_cons_of_mem _ (List.mem_cons_of_mem _ (List.mem_cons_self)))))))))))))
theorem u_27_12 : (Cond.code yX10_against cX10_against 4 (some .int)) ∈ uU := uT_26 _ (List.mem_append_left _ (List.mem_cons_of_mem _ (List.mem_cons_of_mem _ (List.mem_cons_of_mem _ (List.mem_cons_of_mem _ (List.mem_cons_of_mem _ (List.mem_cons_of_mem _ (List.mem_cons_of_mem _ (List.mem_cons_of_mem _ (List.mem_cons_of_mem _ (List.mem_cons_of_mem _ (List.mem_cons_of_mem _ (List.mem_cons_of_mem _ (List.mem_cons_self))))))))))))))
theorem u_27_13 : (Cond.methodLink RX10 114 yX10_lessens) ∈ uU := uT_26 _ (List.mem_append_left _ (List.mem_cons_of_mem _ (List.mem_cons_of_mem _ (List.mem_cons_of_mem _ (List.mem_cons_of_mem _ (List.mem_cons_of_mem _ (List.mem_cons_of_mem _ (List.mem_cons_of_mem _ (List.mem_cons_of_mem _ (List.mem_cons_of_mem _ (List.mem_cons_of_mem _ (List.mem_cons_of_mem _ (List.mem_cons_of_mem _ (List.mem_cons_of_mem _ (List.mem_cons_self)))))))))))))))
theorem u_27_14 : (Cond.instanceMethod yX10_lessens) ∈ uU := uT_26 _ (List.mem_append_left _ (List.mem_cons_of_mem _ (List.mem_cons_of_mem _ (List.mem_cons_of_mem _ (List.mem_cons_of_mem _ (List.mem_cons_of_mem _ (List.mem_cons_of_mem _ (List.mem_cons_of_mem _ (List.mem_cons_of_mem _ (List.mem_cons_of_mem _ (List.mem_cons_of_mem _ (List.mem_cons_of_mem _ (List.mem_cons_of_mem _ (List.mem_cons_of_mem _ (List.mem_cons_of_mem _ (List.mem_cons_self))))))))))))))))
theorem u_27_15 : (Cond.selects RX10 yX10_lessens yX10_lessens) ∈ uU := uT_26 _ (List.mem_append_left _ (List.mem_cons_of_mem _ (List.mem_cons_of_mem _ (List.mem_cons_of_mem _ (List.mem_cons_of_mem _ (List.mem_cons_of_mem _ (List.mem_cons_of_mem _ (List.mem_cons_of_mem _ (List.mem_cons_of_mem _ (List.mem_cons_of_mem _ (List.mem_cons_of_mem _ (List.mem_cons_of_mem _ (List.mem_cons_of_mem _ (List.mem_cons_of_mem _ (List.mem_cons_of_mem _ (List.mem_cons_of_mem _ (List.mem_cons_self)))))))))))))))))
theorem u_27_16 : (Cond.code yX10_lessens cX10_lessens 6 none) ∈ uU := uT_26 _ (List.mem_append_left _ (List.mem_cons_of_mem _ (List.mem_cons_of_mem _ (List.mem_cons_of_mem _ (List.mem_cons_of_mem _ (List.mem_cons_of_mem _ (List.mem_cons_of_mem _ (List.mem_cons_of_mem _ (List.mem_cons_of_mem _ (List.mem_cons_of_mem _ (List.mem_cons_of_mem _ (List.mem_cons_of_mem _ (List.mem_cons_of_mem _ (List.mem_cons_of_mem _ (List.mem_cons_of_mem _ (List.mem_cons_of_mem _ (List.mem_cons_of_mem _ (List.mem_cons_self))))))))))))))))))
theorem u_27_17 : (Cond.constant RX10 102 (1073741823)) ∈ uU := uT_26 _ (List.mem_append_left _ (List.mem_cons_of_mem _ (List.mem_cons_of_mem _ (List.mem_cons_of_mem _ (List.mem_cons_of_mem _ (List.mem_cons_of_mem _ (List.mem_cons_of_mem _ (List.mem_cons_of_mem _ (List.mem_cons_of_mem _ (List.mem_cons_of_mem _ (List.mem_cons_of_mem _ (List.mem_cons_of_mem _ (List.mem_cons_of_mem _ (List.mem_cons_of_mem _ (List.mem_cons_of_mem _ (List.mem_cons_of_mem _ (List.mem_cons_of_mem _ (List.mem_cons_of_mem _ (List.mem_cons_self)))))))))))))))))))
theorem u_27_18 : (Cond.methodLink RX10 117 yX10_parts) ∈ uU := uT_26 _ (List.mem_append_left _ (List.mem_cons_of_mem _ (List.mem_cons_of_mem _ (List.mem_cons_of_mem _ (List.mem_cons_of_mem _ (List.mem_cons_of_mem _ (List.mem_cons_of_mem _ (List.mem_cons_of_mem _ (List.mem_cons_of_mem _ (List.mem_cons_of_mem _ (List.mem_cons_of_mem _ (List.mem_cons_of_mem _ (List.mem_cons_of_mem _ (List.mem_cons_of_mem _ (List.mem_cons_of_mem _ (List.mem_cons_of_mem _ (List.mem_cons_of_mem _ (List.mem_cons_of_mem _ (List.mem_cons_of_mem _ (List.mem_cons_self))))))))))))))))))))
theorem u_27_19 : (Cond.instanceMethod yX10_parts) ∈ uU := uT_26 _ (List.mem_append_left _ (List.mem_cons_of_mem _ (List.mem_cons_of_mem _ (List.mem_cons_of_mem _ (List.mem_cons_of_mem _ (List.mem_cons_of_mem _ (List.mem_cons_of_mem _ (List.mem_cons_of_mem _ (List.mem_cons_of_mem _ (List.mem_cons_of_mem _ (List.mem_cons_of_mem _ (List.mem_cons_of_mem _ (List.mem_cons_of_mem _ (List.mem_cons_of_mem _ (List.mem_cons_of_mem _ (List.mem_cons_of_mem _ (List.mem_cons_of_mem _ (List.mem_cons_of_mem _ (List.mem_cons_of_mem _ (List.mem_cons_of_mem _ (List.mem_cons_self)))))))))))))))))))))
theorem u_27_20 : (Cond.selects RX10 yX10_parts yX10_parts) ∈ uU := uT_26 _ (List.mem_append_left _ (List.mem_cons_of_mem _ (List.mem_cons_of_mem _ (List.mem_cons_of_mem _ (List.mem_cons_of_mem _ (List.mem_cons_of_mem _ (List.mem_cons_of_mem _ (List.mem_cons_of_mem _ (List.mem_cons_of_mem _ (List.mem_cons_of_mem _ (List.mem_cons_of_mem _ (List.mem_cons_of_mem _ (List.mem_cons_of_mem _ (List.mem_cons_of_mem _ (List.mem_cons_of_mem _ (List.mem_cons_of_mem _ (List.mem_cons_of_mem _ (List.mem_cons_of_mem _ (List.mem_cons_of_mem _ (List.mem_cons_of_mem _ (List.mem_cons_of_mem _ (List.mem_cons_self))))))))))))))))))))))
theorem u_27_21 : (Cond.code yX10_parts cX10_parts 13 none) ∈ uU := uT_26 _ (List.mem_append_left _ (List.mem_cons_of_mem _ (List.mem_cons_of_mem _ (List.mem_cons_of_mem _ (List.mem_cons_of_mem _ (List.mem_cons_of_mem _ (List.mem_cons_of_mem _ (List.mem_cons_of_mem _ (List.mem_cons_of_mem _ (List.mem_cons_of_mem _ (List.mem_cons_of_mem _ (List.mem_cons_of_mem _ (List.mem_cons_of_mem _ (List.mem_cons_of_mem _ (List.mem_cons_of_mem _ (List.mem_cons_of_mem _ (List.mem_cons_of_mem _ (List.mem_cons_of_mem _ (List.mem_cons_of_mem _ (List.mem_cons_of_mem _ (List.mem_cons_of_mem _ (List.mem_cons_of_mem _ (List.mem_cons_self)))))))))))))))))))))))
theorem u_27_22 : (Cond.methodLink RL 77 yX9_gone) ∈ uU := uT_26 _ (List.mem_append_left _ (List.mem_cons_of_mem _ (List.mem_cons_of_mem _ (List.mem_cons_of_mem _ (List.mem_cons_of_mem _ (List.mem_cons_of_mem _ (List.mem_cons_of_mem _ (List.mem_cons_of_mem _ (List.mem_cons_of_mem _ (List.mem_cons_of_mem _ (List.mem_cons_of_mem _ (List.mem_cons_of_mem _ (List.mem_cons_of_mem _ (List.mem_cons_of_mem _ (List.mem_cons_of_mem _ (List.mem_cons_of_mem _ (List.mem_cons_of_mem _ (List.mem_cons_of_mem _ (List.mem_cons_of_mem _ (List.mem_cons_of_mem _ (List.mem_cons_of_mem _ (List.mem_cons_of_mem _ (List.mem_cons_of_mem _ (List.mem_cons_self))))))))))))))))))))))))
theorem u_27_23 : (Cond.instanceMethod yX9_gone) ∈ uU := uT_26 _ (List.mem_append_left _ (List.mem_cons_of_mem _ (List.mem_cons_of_mem _ (List.mem_cons_of_mem _ (List.mem_cons_of_mem _ (List.mem_cons_of_mem _ (List.mem_cons_of_mem _ (List.mem_cons_of_mem _ (List.mem_cons_of_mem _ (List.mem_cons_of_mem _ (List.mem_cons_of_mem _ (List.mem_cons_of_mem _ (List.mem_cons_of_mem _ (List.mem_cons_of_mem _ (List.mem_cons_of_mem _ (List.mem_cons_of_mem _ (List.mem_cons_of_mem _ (List.mem_cons_of_mem _ (List.mem_cons_of_mem _ (List.mem_cons_of_mem _ (List.mem_cons_of_mem _ (List.mem_cons_of_mem _ (List.mem_cons_of_mem _ (List.mem_cons_of_mem _ (List.mem_cons_self)))))))))))))))))))))))))
theorem u_28_0 : (Cond.selects RX9 yX9_gone yX9_gone) ∈ uU := uT_27 _ (List.mem_append_left _ (List.mem_cons_self))
theorem u_28_1 : (Cond.code yX9_gone cX9_gone 2 (some .int)) ∈ uU := uT_27 _ (List.mem_append_left _ (List.mem_cons_of_mem _ (List.mem_cons_self)))
theorem u_28_2 : (Cond.methodLink RX9 149 yX3_chanceGone) ∈ uU := uT_27 _ (List.mem_append_left _ (List.mem_cons_of_mem _ (List.mem_cons_of_mem _ (List.mem_cons_self))))
theorem u_28_3 : (Cond.instanceMethod yX3_chanceGone) ∈ uU := uT_27 _ (List.mem_append_left _ (List.mem_cons_of_mem _ (List.mem_cons_of_mem _ (List.mem_cons_of_mem _ (List.mem_cons_self)))))
theorem u_28_4 : (Cond.selects RX3 yX3_chanceGone yX3_chanceGone) ∈ uU := uT_27 _ (List.mem_append_left _ (List.mem_cons_of_mem _ (List.mem_cons_of_mem _ (List.mem_cons_of_mem _ (List.mem_cons_of_mem _ (List.mem_cons_self))))))
theorem u_28_5 : (Cond.code yX3_chanceGone cX3_chanceGone 5 none) ∈ uU := uT_27 _ (List.mem_append_left _ (List.mem_cons_of_mem _ (List.mem_cons_of_mem _ (List.mem_cons_of_mem _ (List.mem_cons_of_mem _ (List.mem_cons_of_mem _ (List.mem_cons_self)))))))
theorem u_28_6 : (Cond.methodLink RX3 32 yX3_sumOfWeights) ∈ uU := uT_27 _ (List.mem_append_left _ (List.mem_cons_of_mem _ (List.mem_cons_of_mem _ (List.mem_cons_of_mem _ (List.mem_cons_of_mem _ (List.mem_cons_of_mem _ (List.mem_cons_of_mem _ (List.mem_cons_self))))))))
theorem u_28_7 : (Cond.methodLink RX3 36 yX6_become) ∈ uU := uT_27 _ (List.mem_append_left _ (List.mem_cons_of_mem _ (List.mem_cons_of_mem _ (List.mem_cons_of_mem _ (List.mem_cons_of_mem _ (List.mem_cons_of_mem _ (List.mem_cons_of_mem _ (List.mem_cons_of_mem _ (List.mem_cons_self)))))))))
theorem u_28_8 : (Cond.methodLink RX3 40 yX3_goRound) ∈ uU := uT_27 _ (List.mem_append_left _ (List.mem_cons_of_mem _ (List.mem_cons_of_mem _ (List.mem_cons_of_mem _ (List.mem_cons_of_mem _ (List.mem_cons_of_mem _ (List.mem_cons_of_mem _ (List.mem_cons_of_mem _ (List.mem_cons_of_mem _ (List.mem_cons_self))))))))))
theorem u_28_9 : (Cond.instanceMethod yX3_goRound) ∈ uU := uT_27 _ (List.mem_append_left _ (List.mem_cons_of_mem _ (List.mem_cons_of_mem _ (List.mem_cons_of_mem _ (List.mem_cons_of_mem _ (List.mem_cons_of_mem _ (List.mem_cons_of_mem _ (List.mem_cons_of_mem _ (List.mem_cons_of_mem _ (List.mem_cons_of_mem _ (List.mem_cons_self)))))))))))
theorem u_28_10 : (Cond.selects RX3 yX3_goRound yX3_goRound) ∈ uU := uT_27 _ (List.mem_append_left _ (List.mem_cons_of_mem _ (List.mem_cons_of_mem _ (List.mem_cons_of_mem _ (List.mem_cons_of_mem _ (List.mem_cons_of_mem _ (List.mem_cons_of_mem _ (List.mem_cons_of_mem _ (List.mem_cons_of_mem _ (List.mem_cons_of_mem _ (List.mem_cons_of_mem _ (List.mem_cons_self))))))))))))
theorem u_28_11 : (Cond.code yX3_goRound cX3_goRound 3 none) ∈ uU := uT_27 _ (List.mem_append_left _ (List.mem_cons_of_mem _ (List.mem_cons_of_mem _ (List.mem_cons_of_mem _ (List.mem_cons_of_mem _ (List.mem_cons_of_mem _ (List.mem_cons_of_mem _ (List.mem_cons_of_mem _ (List.mem_cons_of_mem _ (List.mem_cons_of_mem _ (List.mem_cons_of_mem _ (List.mem_cons_of_mem _ (List.mem_cons_self)))))))))))))
theorem u_28_12 : (Cond.methodLink RX3 53 yX6_multiply) ∈ uU := uT_27 _ (List.mem_append_left _ (List.mem_cons_of_mem _ (List.mem_cons_of_mem _ (List.mem_cons_of_mem _ (List.mem_cons_of_mem _ (List.mem_cons_of_mem _ (List.mem_cons_of_mem _ (List.mem_cons_of_mem _ (List.mem_cons_of_mem _ (List.mem_cons_of_mem _ (List.mem_cons_of_mem _ (List.mem_cons_of_mem _ (List.mem_cons_of_mem _ (List.mem_cons_self))))))))))))))
theorem u_28_13 : (Cond.instanceMethod yX6_multiply) ∈ uU := uT_27 _ (List.mem_append_left _ (List.mem_cons_of_mem _ (List.mem_cons_of_mem _ (List.mem_cons_of_mem _ (List.mem_cons_of_mem _ (List.mem_cons_of_mem _ (List.mem_cons_of_mem _ (List.mem_cons_of_mem _ (List.mem_cons_of_mem _ (List.mem_cons_of_mem _ (List.mem_cons_of_mem _ (List.mem_cons_of_mem _ (List.mem_cons_of_mem _ (List.mem_cons_of_mem _ (List.mem_cons_self)))))))))))))))
theorem u_28_14 : (Cond.selects RX6 yX6_multiply yX6_multiply) ∈ uU := uT_27 _ (List.mem_append_left _ (List.mem_cons_of_mem _ (List.mem_cons_of_mem _ (List.mem_cons_of_mem _ (List.mem_cons_of_mem _ (List.mem_cons_of_mem _ (List.mem_cons_of_mem _ (List.mem_cons_of_mem _ (List.mem_cons_of_mem _ (List.mem_cons_of_mem _ (List.mem_cons_of_mem _ (List.mem_cons_of_mem _ (List.mem_cons_of_mem _ (List.mem_cons_of_mem _ (List.mem_cons_of_mem _ (List.mem_cons_self))))))))))))))))
theorem u_28_15 : (Cond.code yX6_multiply cX6_multiply 11 none) ∈ uU := uT_27 _ (List.mem_append_left _ (List.mem_cons_of_mem _ (List.mem_cons_of_mem _ (List.mem_cons_of_mem _ (List.mem_cons_of_mem _ (List.mem_cons_of_mem _ (List.mem_cons_of_mem _ (List.mem_cons_of_mem _ (List.mem_cons_of_mem _ (List.mem_cons_of_mem _ (List.mem_cons_of_mem _ (List.mem_cons_of_mem _ (List.mem_cons_of_mem _ (List.mem_cons_of_mem _ (List.mem_cons_of_mem _ (List.mem_cons_of_mem _ (List.mem_cons_self)))))))))))))))))
theorem u_28_16 : (Cond.methodLink RX3 56 yX6_take) ∈ uU := uT_27 _ (List.mem_append_left _ (List.mem_cons_of_mem _ (List.mem_cons_of_mem _ (List.mem_cons_of_mem _ (List.mem_cons_of_mem _ (List.mem_cons_of_mem _ (List.mem_cons_of_mem _ (List.mem_cons_of_mem _ (List.mem_cons_of_mem _ (List.mem_cons_of_mem _ (List.mem_cons_of_mem _ (List.mem_cons_of_mem _ (List.mem_cons_of_mem _ (List.mem_cons_of_mem _ (List.mem_cons_of_mem _ (List.mem_cons_of_mem _ (List.mem_cons_of_mem _ (List.mem_cons_self))))))))))))))))))
theorem u_28_17 : (Cond.instanceMethod yX6_take) ∈ uU := uT_27 _ (List.mem_append_left _ (List.mem_cons_of_mem _ (List.mem_cons_of_mem _ (List.mem_cons_of_mem _ (List.mem_cons_of_mem _ (List.mem_cons_of_mem _ (List.mem_cons_of_mem _ (List.mem_cons_of_mem _ (List.mem_cons_of_mem _ (List.mem_cons_of_mem _ (List.mem_cons_of_mem _ (List.mem_cons_of_mem _ (List.mem_cons_of_mem _ (List.mem_cons_of_mem _ (List.mem_cons_of_mem _ (List.mem_cons_of_mem _ (List.mem_cons_of_mem _ (List.mem_cons_of_mem _ (List.mem_cons_self)))))))))))))))))))
theorem u_28_18 : (Cond.selects RX6 yX6_take yX6_take) ∈ uU := uT_27 _ (List.mem_append_left _ (List.mem_cons_of_mem _ (List.mem_cons_of_mem _ (List.mem_cons_of_mem _ (List.mem_cons_of_mem _ (List.mem_cons_of_mem _ (List.mem_cons_of_mem _ (List.mem_cons_of_mem _ (List.mem_cons_of_mem _ (List.mem_cons_of_mem _ (List.mem_cons_of_mem _ (List.mem_cons_of_mem _ (List.mem_cons_of_mem _ (List.mem_cons_of_mem _ (List.mem_cons_of_mem _ (List.mem_cons_of_mem _ (List.mem_cons_of_mem _ (List.mem_cons_of_mem _ (List.mem_cons_of_mem _ (List.mem_cons_self))))))))))))))))))))
theorem u_28_19 : (Cond.code yX6_take cX6_take 3 none) ∈ uU := uT_27 _ (List.mem_append_left _ (List.mem_cons_of_mem _ (List.mem_cons_of_mem _ (List.mem_cons_of_mem _ (List.mem_cons_of_mem _ (List.mem_cons_of_mem _ (List.mem_cons_of_mem _ (List.mem_cons_of_mem _ (List.mem_cons_of_mem _ (List.mem_cons_of_mem _ (List.mem_cons_of_mem _ (List.mem_cons_of_mem _ (List.mem_cons_of_mem _ (List.mem_cons_of_mem _ (List.mem_cons_of_mem _ (List.mem_cons_of_mem _ (List.mem_cons_of_mem _ (List.mem_cons_of_mem _ (List.mem_cons_of_mem _ (List.mem_cons_of_mem _ (List.mem_cons_self)))))))))))))))))))))
theorem u_28_20 : (Cond.methodLink RX3 59 yX6_addTimes) ∈ uU := uT_27 _ (List.mem_append_left _ (List.mem_cons_of_mem _ (List.mem_cons_of_mem _ (List.mem_cons_of_mem _ (List.mem_cons_of_mem _ (List.mem_cons_of_mem _ (List.mem_cons_of_mem _ (List.mem_cons_of_mem _ (List.mem_cons_of_mem _ (List.mem_cons_of_mem _ (List.mem_cons_of_mem _ (List.mem_cons_of_mem _ (List.mem_cons_of_mem _ (List.mem_cons_of_mem _ (List.mem_cons_of_mem _ (List.mem_cons_of_mem _ (List.mem_cons_of_mem _ (List.mem_cons_of_mem _ (List.mem_cons_of_mem _ (List.mem_cons_of_mem _ (List.mem_cons_of_mem _ (List.mem_cons_self))))))))))))))))))))))
theorem u_28_21 : (Cond.instanceMethod yX6_addTimes) ∈ uU := uT_27 _ (List.mem_append_left _ (List.mem_cons_of_mem _ (List.mem_cons_of_mem _ (List.mem_cons_of_mem _ (List.mem_cons_of_mem _ (List.mem_cons_of_mem _ (List.mem_cons_of_mem _ (List.mem_cons_of_mem _ (List.mem_cons_of_mem _ (List.mem_cons_of_mem _ (List.mem_cons_of_mem _ (List.mem_cons_of_mem _ (List.mem_cons_of_mem _ (List.mem_cons_of_mem _ (List.mem_cons_of_mem _ (List.mem_cons_of_mem _ (List.mem_cons_of_mem _ (List.mem_cons_of_mem _ (List.mem_cons_of_mem _ (List.mem_cons_of_mem _ (List.mem_cons_of_mem _ (List.mem_cons_of_mem _ (List.mem_cons_self)))))))))))))))))))))))
theorem u_28_22 : (Cond.selects RX6 yX6_addTimes yX6_addTimes) ∈ uU := uT_27 _ (List.mem_append_left _ (List.mem_cons_of_mem _ (List.mem_cons_of_mem _ (List.mem_cons_of_mem _ (List.mem_cons_of_mem _ (List.mem_cons_of_mem _ (List.mem_cons_of_mem _ (List.mem_cons_of_mem _ (List.mem_cons_of_mem _ (List.mem_cons_of_mem _ (List.mem_cons_of_mem _ (List.mem_cons_of_mem _ (List.mem_cons_of_mem _ (List.mem_cons_of_mem _ (List.mem_cons_of_mem _ (List.mem_cons_of_mem _ (List.mem_cons_of_mem _ (List.mem_cons_of_mem _ (List.mem_cons_of_mem _ (List.mem_cons_of_mem _ (List.mem_cons_of_mem _ (List.mem_cons_of_mem _ (List.mem_cons_of_mem _ (List.mem_cons_self))))))))))))))))))))))))
theorem u_28_23 : (Cond.code yX6_addTimes cX6_addTimes 8 none) ∈ uU := uT_27 _ (List.mem_append_left _ (List.mem_cons_of_mem _ (List.mem_cons_of_mem _ (List.mem_cons_of_mem _ (List.mem_cons_of_mem _ (List.mem_cons_of_mem _ (List.mem_cons_of_mem _ (List.mem_cons_of_mem _ (List.mem_cons_of_mem _ (List.mem_cons_of_mem _ (List.mem_cons_of_mem _ (List.mem_cons_of_mem _ (List.mem_cons_of_mem _ (List.mem_cons_of_mem _ (List.mem_cons_of_mem _ (List.mem_cons_of_mem _ (List.mem_cons_of_mem _ (List.mem_cons_of_mem _ (List.mem_cons_of_mem _ (List.mem_cons_of_mem _ (List.mem_cons_of_mem _ (List.mem_cons_of_mem _ (List.mem_cons_of_mem _ (List.mem_cons_of_mem _ (List.mem_cons_self)))))))))))))))))))))))))
theorem u_29_0 : (Cond.methodLink RX3 44 yX3_reduce) ∈ uU := uT_28 _ (List.mem_append_left _ (List.mem_cons_self))
theorem u_29_1 : (Cond.instanceMethod yX3_reduce) ∈ uU := uT_28 _ (List.mem_append_left _ (List.mem_cons_of_mem _ (List.mem_cons_self)))
theorem u_29_2 : (Cond.selects RX3 yX3_reduce yX3_reduce) ∈ uU := uT_28 _ (List.mem_append_left _ (List.mem_cons_of_mem _ (List.mem_cons_of_mem _ (List.mem_cons_self))))
theorem u_29_3 : (Cond.code yX3_reduce cX3_reduce 6 none) ∈ uU := uT_28 _ (List.mem_append_left _ (List.mem_cons_of_mem _ (List.mem_cons_of_mem _ (List.mem_cons_of_mem _ (List.mem_cons_self)))))
theorem u_29_4 : (Cond.fieldLink RX3 63 "ChainLetters$Natural" "size" "I") ∈ uU := uT_28 _ (List.mem_append_left _ (List.mem_cons_of_mem _ (List.mem_cons_of_mem _ (List.mem_cons_of_mem _ (List.mem_cons_of_mem _ (List.mem_cons_self))))))
theorem u_29_5 : (Cond.methodLink RX3 67 yX6_leftOver) ∈ uU := uT_28 _ (List.mem_append_left _ (List.mem_cons_of_mem _ (List.mem_cons_of_mem _ (List.mem_cons_of_mem _ (List.mem_cons_of_mem _ (List.mem_cons_of_mem _ (List.mem_cons_self)))))))
theorem u_29_6 : (Cond.instanceMethod yX6_leftOver) ∈ uU := uT_28 _ (List.mem_append_left _ (List.mem_cons_of_mem _ (List.mem_cons_of_mem _ (List.mem_cons_of_mem _ (List.mem_cons_of_mem _ (List.mem_cons_of_mem _ (List.mem_cons_of_mem _ (List.mem_cons_self))))))))
theorem u_29_7 : (Cond.selects RX6 yX6_leftOver yX6_leftOver) ∈ uU := uT_28 _ (List.mem_append_left _ (List.mem_cons_of_mem _ (List.mem_cons_of_mem _ (List.mem_cons_of_mem _ (List.mem_cons_of_mem _ (List.mem_cons_of_mem _ (List.mem_cons_of_mem _ (List.mem_cons_of_mem _ (List.mem_cons_self)))))))))
theorem u_29_8 : (Cond.code yX6_leftOver cX6_leftOver 5 (some .int)) ∈ uU := uT_28 _ (List.mem_append_left _ (List.mem_cons_of_mem _ (List.mem_cons_of_mem _ (List.mem_cons_of_mem _ (List.mem_cons_of_mem _ (List.mem_cons_of_mem _ (List.mem_cons_of_mem _ (List.mem_cons_of_mem _ (List.mem_cons_of_mem _ (List.mem_cons_self))))))))))
theorem u_29_9 : (Cond.methodLink RX6 24 Lib.Math.min.name) ∈ uU := uT_28 _ (List.mem_append_left _ (List.mem_cons_of_mem _ (List.mem_cons_of_mem _ (List.mem_cons_of_mem _ (List.mem_cons_of_mem _ (List.mem_cons_of_mem _ (List.mem_cons_of_mem _ (List.mem_cons_of_mem _ (List.mem_cons_of_mem _ (List.mem_cons_of_mem _ (List.mem_cons_self)))))))))))
theorem u_29_10 : (Cond.methodLink RX3 71 yX2_shared) ∈ uU := uT_28 _ (List.mem_append_left _ (List.mem_cons_of_mem _ (List.mem_cons_of_mem _ (List.mem_cons_of_mem _ (List.mem_cons_of_mem _ (List.mem_cons_of_mem _ (List.mem_cons_of_mem _ (List.mem_cons_of_mem _ (List.mem_cons_of_mem _ (List.mem_cons_of_mem _ (List.mem_cons_of_mem _ (List.mem_cons_self))))))))))))
theorem u_29_11 : (Cond.methodLink RX3 75 yX6_divide) ∈ uU := uT_28 _ (List.mem_append_left _ (List.mem_cons_of_mem _ (List.mem_cons_of_mem _ (List.mem_cons_of_mem _ (List.mem_cons_of_mem _ (List.mem_cons_of_mem _ (List.mem_cons_of_mem _ (List.mem_cons_of_mem _ (List.mem_cons_of_mem _ (List.mem_cons_of_mem _ (List.mem_cons_of_mem _ (List.mem_cons_of_mem _ (List.mem_cons_self)))))))))))))
theorem u_29_12 : (Cond.instanceMethod yX6_divide) ∈ uU := uT_28 _ (List.mem_append_left _ (List.mem_cons_of_mem _ (List.mem_cons_of_mem _ (List.mem_cons_of_mem _ (List.mem_cons_of_mem _ (List.mem_cons_of_mem _ (List.mem_cons_of_mem _ (List.mem_cons_of_mem _ (List.mem_cons_of_mem _ (List.mem_cons_of_mem _ (List.mem_cons_of_mem _ (List.mem_cons_of_mem _ (List.mem_cons_of_mem _ (List.mem_cons_self))))))))))))))
theorem u_29_13 : (Cond.selects RX6 yX6_divide yX6_divide) ∈ uU := uT_28 _ (List.mem_append_left _ (List.mem_cons_of_mem _ (List.mem_cons_of_mem _ (List.mem_cons_of_mem _ (List.mem_cons_of_mem _ (List.mem_cons_of_mem _ (List.mem_cons_of_mem _ (List.mem_cons_of_mem _ (List.mem_cons_of_mem _ (List.mem_cons_of_mem _ (List.mem_cons_of_mem _ (List.mem_cons_of_mem _ (List.mem_cons_of_mem _ (List.mem_cons_of_mem _ (List.mem_cons_self)))))))))))))))
theorem u_29_14 : (Cond.code yX6_divide cX6_divide 7 none) ∈ uU := uT_28 _ (List.mem_append_left _ (List.mem_cons_of_mem _ (List.mem_cons_of_mem _ (List.mem_cons_of_mem _ (List.mem_cons_of_mem _ (List.mem_cons_of_mem _ (List.mem_cons_of_mem _ (List.mem_cons_of_mem _ (List.mem_cons_of_mem _ (List.mem_cons_of_mem _ (List.mem_cons_of_mem _ (List.mem_cons_of_mem _ (List.mem_cons_of_mem _ (List.mem_cons_of_mem _ (List.mem_cons_of_mem _ (List.mem_cons_self))))))))))))))))
theorem u_29_15 : (Cond.methodLink RX3 47 yX2_take) ∈ uU := uT_28 _ (List.mem_append_left _ (List.mem_cons_of_mem _ (List.mem_cons_of_mem _ (List.mem_cons_of_mem _ (List.mem_cons_of_mem _ (List.mem_cons_of_mem _ (List.mem_cons_of_mem _ (List.mem_cons_of_mem _ (List.mem_cons_of_mem _ (List.mem_cons_of_mem _ (List.mem_cons_of_mem _ (List.mem_cons_of_mem _ (List.mem_cons_of_mem _ (List.mem_cons_of_mem _ (List.mem_cons_of_mem _ (List.mem_cons_of_mem _ (List.mem_cons_self)))))))))))))))))
theorem u_29_16 : (Cond.instanceMethod yX2_take) ∈ uU := uT_28 _ (List.mem_append_left _ (List.mem_cons_of_mem _ (List.mem_cons_of_mem _ (List.mem_cons_of_mem _ (List.mem_cons_of_mem _ (List.mem_cons_of_mem _ (List.mem_cons_of_mem _ (List.mem_cons_of_mem _ (List.mem_cons_of_mem _ (List.mem_cons_of_mem _ (List.mem_cons_of_mem _ (List.mem_cons_of_mem _ (List.mem_cons_of_mem _ (List.mem_cons_of_mem _ (List.mem_cons_of_mem _ (List.mem_cons_of_mem _ (List.mem_cons_of_mem _ (List.mem_cons_self))))))))))))))))))
theorem u_29_17 : (Cond.selects RX2 yX2_take yX2_take) ∈ uU := uT_28 _ (List.mem_append_left _ (List.mem_cons_of_mem _ (List.mem_cons_of_mem _ (List.mem_cons_of_mem _ (List.mem_cons_of_mem _ (List.mem_cons_of_mem _ (List.mem_cons_of_mem _ (List.mem_cons_of_mem _ (List.mem_cons_of_mem _ (List.mem_cons_of_mem _ (List.mem_cons_of_mem _ (List.mem_cons_of_mem _ (List.mem_cons_of_mem _ (List.mem_cons_of_mem _ (List.mem_cons_of_mem _ (List.mem_cons_of_mem _ (List.mem_cons_of_mem _ (List.mem_cons_of_mem _ (List.mem_cons_self)))))))))))))))))))
theorem u_29_18 : (Cond.code yX2_take cX2_take 3 none) ∈ uU := uT_28 _ (List.mem_append_left _ (List.mem_cons_of_mem _ (List.mem_cons_of_mem _ (List.mem_cons_of_mem _ (List.mem_cons_of_mem _ (List.mem_cons_of_mem _ (List.mem_cons_of_mem _ (List.mem_cons_of_mem _ (List.mem_cons_of_mem _ (List.mem_cons_of_mem _ (List.mem_cons_of_mem _ (List.mem_cons_of_mem _ (List.mem_cons_of_mem _ (List.mem_cons_of_mem _ (List.mem_cons_of_mem _ (List.mem_cons_of_mem _ (List.mem_cons_of_mem _ (List.mem_cons_of_mem _ (List.mem_cons_of_mem _ (List.mem_cons_self))))))))))))))))))))
theorem u_29_19 : (Cond.methodLink RX2 27 yX6_take) ∈ uU := uT_28 _ (List.mem_append_left _ (List.mem_cons_of_mem _ (List.mem_cons_of_mem _ (List.mem_cons_of_mem _ (List.mem_cons_of_mem _ (List.mem_cons_of_mem _ (List.mem_cons_of_mem _ (List.mem_cons_of_mem _ (List.mem_cons_of_mem _ (List.mem_cons_of_mem _ (List.mem_cons_of_mem _ (List.mem_cons_of_mem _ (List.mem_cons_of_mem _ (List.mem_cons_of_mem _ (List.mem_cons_of_mem _ (List.mem_cons_of_mem _ (List.mem_cons_of_mem _ (List.mem_cons_of_mem _ (List.mem_cons_of_mem _ (List.mem_cons_of_mem _ (List.mem_cons_self)))))))))))))))))))))
theorem u_29_20 : (Cond.methodLink RL 80 yX10_gone) ∈ uU := uT_28 _ (List.mem_append_left _ (List.mem_cons_of_mem _ (List.mem_cons_of_mem _ (List.mem_cons_of_mem _ (List.mem_cons_of_mem _ (List.mem_cons_of_mem _ (List.mem_cons_of_mem _ (List.mem_cons_of_mem _ (List.mem_cons_of_mem _ (List.mem_cons_of_mem _ (List.mem_cons_of_mem _ (List.mem_cons_of_mem _ (List.mem_cons_of_mem _ (List.mem_cons_of_mem _ (List.mem_cons_of_mem _ (List.mem_cons_of_mem _ (List.mem_cons_of_mem _ (List.mem_cons_of_mem _ (List.mem_cons_of_mem _ (List.mem_cons_of_mem _ (List.mem_cons_of_mem _ (List.mem_cons_self))))))))))))))))))))))
theorem u_29_21 : (Cond.instanceMethod yX10_gone) ∈ uU := uT_28 _ (List.mem_append_left _ (List.mem_cons_of_mem _ (List.mem_cons_of_mem _ (List.mem_cons_of_mem _ (List.mem_cons_of_mem _ (List.mem_cons_of_mem _ (List.mem_cons_of_mem _ (List.mem_cons_of_mem _ (List.mem_cons_of_mem _ (List.mem_cons_of_mem _ (List.mem_cons_of_mem _ (List.mem_cons_of_mem _ (List.mem_cons_of_mem _ (List.mem_cons_of_mem _ (List.mem_cons_of_mem _ (List.mem_cons_of_mem _ (List.mem_cons_of_mem _ (List.mem_cons_of_mem _ (List.mem_cons_of_mem _ (List.mem_cons_of_mem _ (List.mem_cons_of_mem _ (List.mem_cons_of_mem _ (List.mem_cons_self)))))))))))))))))))))))
theorem u_29_22 : (Cond.selects RX10 yX10_gone yX10_gone) ∈ uU := uT_28 _ (List.mem_append_left _ (List.mem_cons_of_mem _ (List.mem_cons_of_mem _ (List.mem_cons_of_mem _ (List.mem_cons_of_mem _ (List.mem_cons_of_mem _ (List.mem_cons_of_mem _ (List.mem_cons_of_mem _ (List.mem_cons_of_mem _ (List.mem_cons_of_mem _ (List.mem_cons_of_mem _ (List.mem_cons_of_mem _ (List.mem_cons_of_mem _ (List.mem_cons_of_mem _ (List.mem_cons_of_mem _ (List.mem_cons_of_mem _ (List.mem_cons_of_mem _ (List.mem_cons_of_mem _ (List.mem_cons_of_mem _ (List.mem_cons_of_mem _ (List.mem_cons_of_mem _ (List.mem_cons_of_mem _ (List.mem_cons_of_mem _ (List.mem_cons_self))))))))))))))))))))))))
theorem u_29_23 : (Cond.code yX10_gone cX10_gone 3 (some .int)) ∈ uU := uT_28 _ (List.mem_append_left _ (List.mem_cons_of_mem _ (List.mem_cons_of_mem _ (List.mem_cons_of_mem _ (List.mem_cons_of_mem _ (List.mem_cons_of_mem _ (List.mem_cons_of_mem _ (List.mem_cons_of_mem _ (List.mem_cons_of_mem _ (List.mem_cons_of_mem _ (List.mem_cons_of_mem _ (List.mem_cons_of_mem _ (List.mem_cons_of_mem _ (List.mem_cons_of_mem _ (List.mem_cons_of_mem _ (List.mem_cons_of_mem _ (List.mem_cons_of_mem _ (List.mem_cons_of_mem _ (List.mem_cons_of_mem _ (List.mem_cons_of_mem _ (List.mem_cons_of_mem _ (List.mem_cons_of_mem _ (List.mem_cons_of_mem _ (List.mem_cons_of_mem _ (List.mem_cons_self)))))))))))))))))))))))))
theorem u_30_0 : (Cond.constantLong RX10 217 (3)) ∈ uU := uT_29 _ (List.mem_append_left _ (List.mem_cons_self))
theorem u_30_1 : (Cond.methodLink RX10 219 yX10_rounds) ∈ uU := uT_29 _ (List.mem_append_left _ (List.mem_cons_of_mem _ (List.mem_cons_self)))
theorem u_30_2 : (Cond.instanceMethod yX10_rounds) ∈ uU := uT_29 _ (List.mem_append_left _ (List.mem_cons_of_mem _ (List.mem_cons_of_mem _ (List.mem_cons_self))))
theorem u_30_3 : (Cond.selects RX10 yX10_rounds yX10_rounds) ∈ uU := uT_29 _ (List.mem_append_left _ (List.mem_cons_of_mem _ (List.mem_cons_of_mem _ (List.mem_cons_of_mem _ (List.mem_cons_self)))))
theorem u_30_4 : (Cond.code yX10_rounds cX10_rounds 3 none) ∈ uU := uT_29 _ (List.mem_append_left _ (List.mem_cons_of_mem _ (List.mem_cons_of_mem _ (List.mem_cons_of_mem _ (List.mem_cons_of_mem _ (List.mem_cons_self))))))
theorem u_30_5 : (Cond.methodLink RX10 222 yX10_multiplies) ∈ uU := uT_29 _ (List.mem_append_left _ (List.mem_cons_of_mem _ (List.mem_cons_of_mem _ (List.mem_cons_of_mem _ (List.mem_cons_of_mem _ (List.mem_cons_of_mem _ (List.mem_cons_self)))))))
theorem u_30_6 : (Cond.instanceMethod yX10_multiplies) ∈ uU := uT_29 _ (List.mem_append_left _ (List.mem_cons_of_mem _ (List.mem_cons_of_mem _ (List.mem_cons_of_mem _ (List.mem_cons_of_mem _ (List.mem_cons_of_mem _ (List.mem_cons_of_mem _ (List.mem_cons_self))))))))
theorem u_30_7 : (Cond.selects RX10 yX10_multiplies yX10_multiplies) ∈ uU := uT_29 _ (List.mem_append_left _ (List.mem_cons_of_mem _ (List.mem_cons_of_mem _ (List.mem_cons_of_mem _ (List.mem_cons_of_mem _ (List.mem_cons_of_mem _ (List.mem_cons_of_mem _ (List.mem_cons_of_mem _ (List.mem_cons_self)))))))))
theorem u_30_8 : (Cond.code yX10_multiplies cX10_multiplies 11 none) ∈ uU := uT_29 _ (List.mem_append_left _ (List.mem_cons_of_mem _ (List.mem_cons_of_mem _ (List.mem_cons_of_mem _ (List.mem_cons_of_mem _ (List.mem_cons_of_mem _ (List.mem_cons_of_mem _ (List.mem_cons_of_mem _ (List.mem_cons_of_mem _ (List.mem_cons_self))))))))))
theorem u_30_9 : (Cond.methodLink RX10 225 yX10_adds) ∈ uU := uT_29 _ (List.mem_append_left _ (List.mem_cons_of_mem _ (List.mem_cons_of_mem _ (List.mem_cons_of_mem _ (List.mem_cons_of_mem _ (List.mem_cons_of_mem _ (List.mem_cons_of_mem _ (List.mem_cons_of_mem _ (List.mem_cons_of_mem _ (List.mem_cons_of_mem _ (List.mem_cons_self)))))))))))
theorem u_30_10 : (Cond.instanceMethod yX10_adds) ∈ uU := uT_29 _ (List.mem_append_left _ (List.mem_cons_of_mem _ (List.mem_cons_of_mem _ (List.mem_cons_of_mem _ (List.mem_cons_of_mem _ (List.mem_cons_of_mem _ (List.mem_cons_of_mem _ (List.mem_cons_of_mem _ (List.mem_cons_of_mem _ (List.mem_cons_of_mem _ (List.mem_cons_of_mem _ (List.mem_cons_self))))))))))))
theorem u_30_11 : (Cond.selects RX10 yX10_adds yX10_adds) ∈ uU := uT_29 _ (List.mem_append_left _ (List.mem_cons_of_mem _ (List.mem_cons_of_mem _ (List.mem_cons_of_mem _ (List.mem_cons_of_mem _ (List.mem_cons_of_mem _ (List.mem_cons_of_mem _ (List.mem_cons_of_mem _ (List.mem_cons_of_mem _ (List.mem_cons_of_mem _ (List.mem_cons_of_mem _ (List.mem_cons_of_mem _ (List.mem_cons_self)))))))))))))
theorem u_30_12 : (Cond.code yX10_adds cX10_adds 7 none) ∈ uU := uT_29 _ (List.mem_append_left _ (List.mem_cons_of_mem _ (List.mem_cons_of_mem _ (List.mem_cons_of_mem _ (List.mem_cons_of_mem _ (List.mem_cons_of_mem _ (List.mem_cons_of_mem _ (List.mem_cons_of_mem _ (List.mem_cons_of_mem _ (List.mem_cons_of_mem _ (List.mem_cons_of_mem _ (List.mem_cons_of_mem _ (List.mem_cons_of_mem _ (List.mem_cons_self))))))))))))))
theorem u_30_13 : (Cond.methodLink RL 81 yX9_asking) ∈ uU := uT_29 _ (List.mem_append_left _ (List.mem_cons_of_mem _ (List.mem_cons_of_mem _ (List.mem_cons_of_mem _ (List.mem_cons_of_mem _ (List.mem_cons_of_mem _ (List.mem_cons_of_mem _ (List.mem_cons_of_mem _ (List.mem_cons_of_mem _ (List.mem_cons_of_mem _ (List.mem_cons_of_mem _ (List.mem_cons_of_mem _ (List.mem_cons_of_mem _ (List.mem_cons_of_mem _ (List.mem_cons_self)))))))))))))))
theorem u_30_14 : (Cond.instanceMethod yX9_asking) ∈ uU := uT_29 _ (List.mem_append_left _ (List.mem_cons_of_mem _ (List.mem_cons_of_mem _ (List.mem_cons_of_mem _ (List.mem_cons_of_mem _ (List.mem_cons_of_mem _ (List.mem_cons_of_mem _ (List.mem_cons_of_mem _ (List.mem_cons_of_mem _ (List.mem_cons_of_mem _ (List.mem_cons_of_mem _ (List.mem_cons_of_mem _ (List.mem_cons_of_mem _ (List.mem_cons_of_mem _ (List.mem_cons_of_mem _ (List.mem_cons_self))))))))))))))))
theorem u_30_15 : (Cond.selects RX9 yX9_asking yX9_asking) ∈ uU := uT_29 _ (List.mem_append_left _ (List.mem_cons_of_mem _ (List.mem_cons_of_mem _ (List.mem_cons_of_mem _ (List.mem_cons_of_mem _ (List.mem_cons_of_mem _ (List.mem_cons_of_mem _ (List.mem_cons_of_mem _ (List.mem_cons_of_mem _ (List.mem_cons_of_mem _ (List.mem_cons_of_mem _ (List.mem_cons_of_mem _ (List.mem_cons_of_mem _ (List.mem_cons_of_mem _ (List.mem_cons_of_mem _ (List.mem_cons_of_mem _ (List.mem_cons_self)))))))))))))))))
theorem u_30_16 : (Cond.code yX9_asking cX9_asking 4 (some .int)) ∈ uU := uT_29 _ (List.mem_append_left _ (List.mem_cons_of_mem _ (List.mem_cons_of_mem _ (List.mem_cons_of_mem _ (List.mem_cons_of_mem _ (List.mem_cons_of_mem _ (List.mem_cons_of_mem _ (List.mem_cons_of_mem _ (List.mem_cons_of_mem _ (List.mem_cons_of_mem _ (List.mem_cons_of_mem _ (List.mem_cons_of_mem _ (List.mem_cons_of_mem _ (List.mem_cons_of_mem _ (List.mem_cons_of_mem _ (List.mem_cons_of_mem _ (List.mem_cons_of_mem _ (List.mem_cons_self))))))))))))))))))
theorem u_30_17 : (Cond.methodLink RX9 153 yX0_tell) ∈ uU := uT_29 _ (List.mem_append_left _ (List.mem_cons_of_mem _ (List.mem_cons_of_mem _ (List.mem_cons_of_mem _ (List.mem_cons_of_mem _ (List.mem_cons_of_mem _ (List.mem_cons_of_mem _ (List.mem_cons_of_mem _ (List.mem_cons_of_mem _ (List.mem_cons_of_mem _ (List.mem_cons_of_mem _ (List.mem_cons_of_mem _ (List.mem_cons_of_mem _ (List.mem_cons_of_mem _ (List.mem_cons_of_mem _ (List.mem_cons_of_mem _ (List.mem_cons_of_mem _ (List.mem_cons_of_mem _ (List.mem_cons_self)))))))))))))))))))
theorem u_30_18 : (Cond.instanceMethod yX0_tell) ∈ uU := uT_29 _ (List.mem_append_left _ (List.mem_cons_of_mem _ (List.mem_cons_of_mem _ (List.mem_cons_of_mem _ (List.mem_cons_of_mem _ (List.mem_cons_of_mem _ (List.mem_cons_of_mem _ (List.mem_cons_of_mem _ (List.mem_cons_of_mem _ (List.mem_cons_of_mem _ (List.mem_cons_of_mem _ (List.mem_cons_of_mem _ (List.mem_cons_of_mem _ (List.mem_cons_of_mem _ (List.mem_cons_of_mem _ (List.mem_cons_of_mem _ (List.mem_cons_of_mem _ (List.mem_cons_of_mem _ (List.mem_cons_of_mem _ (List.mem_cons_self))))))))))))))))))))
theorem u_30_19 : (Cond.selects RX0 yX0_tell yX0_tell) ∈ uU := uT_29 _ (List.mem_append_left _ (List.mem_cons_of_mem _ (List.mem_cons_of_mem _ (List.mem_cons_of_mem _ (List.mem_cons_of_mem _ (List.mem_cons_of_mem _ (List.mem_cons_of_mem _ (List.mem_cons_of_mem _ (List.mem_cons_of_mem _ (List.mem_cons_of_mem _ (List.mem_cons_of_mem _ (List.mem_cons_of_mem _ (List.mem_cons_of_mem _ (List.mem_cons_of_mem _ (List.mem_cons_of_mem _ (List.mem_cons_of_mem _ (List.mem_cons_of_mem _ (List.mem_cons_of_mem _ (List.mem_cons_of_mem _ (List.mem_cons_of_mem _ (List.mem_cons_self)))))))))))))))))))))
theorem u_30_20 : (Cond.code yX0_tell cX0_tell 4 none) ∈ uU := uT_29 _ (List.mem_append_left _ (List.mem_cons_of_mem _ (List.mem_cons_of_mem _ (List.mem_cons_of_mem _ (List.mem_cons_of_mem _ (List.mem_cons_of_mem _ (List.mem_cons_of_mem _ (List.mem_cons_of_mem _ (List.mem_cons_of_mem _ (List.mem_cons_of_mem _ (List.mem_cons_of_mem _ (List.mem_cons_of_mem _ (List.mem_cons_of_mem _ (List.mem_cons_of_mem _ (List.mem_cons_of_mem _ (List.mem_cons_of_mem _ (List.mem_cons_of_mem _ (List.mem_cons_of_mem _ (List.mem_cons_of_mem _ (List.mem_cons_of_mem _ (List.mem_cons_of_mem _ (List.mem_cons_self))))))))))))))))))))))
theorem u_30_21 : (Cond.methodLink RL 84 yX10_asking) ∈ uU := uT_29 _ (List.mem_append_left _ (List.mem_cons_of_mem _ (List.mem_cons_of_mem _ (List.mem_cons_of_mem _ (List.mem_cons_of_mem _ (List.mem_cons_of_mem _ (List.mem_cons_of_mem _ (List.mem_cons_of_mem _ (List.mem_cons_of_mem _ (List.mem_cons_of_mem _ (List.mem_cons_of_mem _ (List.mem_cons_of_mem _ (List.mem_cons_of_mem _ (List.mem_cons_of_mem _ (List.mem_cons_of_mem _ (List.mem_cons_of_mem _ (List.mem_cons_of_mem _ (List.mem_cons_of_mem _ (List.mem_cons_of_mem _ (List.mem_cons_of_mem _ (List.mem_cons_of_mem _ (List.mem_cons_of_mem _ (List.mem_cons_self)))))))))))))))))))))))
theorem u_30_22 : (Cond.instanceMethod yX10_asking) ∈ uU := uT_29 _ (List.mem_append_left _ (List.mem_cons_of_mem _ (List.mem_cons_of_mem _ (List.mem_cons_of_mem _ (List.mem_cons_of_mem _ (List.mem_cons_of_mem _ (List.mem_cons_of_mem _ (List.mem_cons_of_mem _ (List.mem_cons_of_mem _ (List.mem_cons_of_mem _ (List.mem_cons_of_mem _ (List.mem_cons_of_mem _ (List.mem_cons_of_mem _ (List.mem_cons_of_mem _ (List.mem_cons_of_mem _ (List.mem_cons_of_mem _ (List.mem_cons_of_mem _ (List.mem_cons_of_mem _ (List.mem_cons_of_mem _ (List.mem_cons_of_mem _ (List.mem_cons_of_mem _ (List.mem_cons_of_mem _ (List.mem_cons_of_mem _ (List.mem_cons_self))))))))))))))))))))))))
theorem u_30_23 : (Cond.selects RX10 yX10_asking yX10_asking) ∈ uU := uT_29 _ (List.mem_append_left _ (List.mem_cons_of_mem _ (List.mem_cons_of_mem _ (List.mem_cons_of_mem _ (List.mem_cons_of_mem _ (List.mem_cons_of_mem _ (List.mem_cons_of_mem _ (List.mem_cons_of_mem _ (List.mem_cons_of_mem _ (List.mem_cons_of_mem _ (List.mem_cons_of_mem _ (List.mem_cons_of_mem _ (List.mem_cons_of_mem _ (List.mem_cons_of_mem _ (List.mem_cons_of_mem _ (List.mem_cons_of_mem _ (List.mem_cons_of_mem _ (List.mem_cons_of_mem _ (List.mem_cons_of_mem _ (List.mem_cons_of_mem _ (List.mem_cons_of_mem _ (List.mem_cons_of_mem _ (List.mem_cons_of_mem _ (List.mem_cons_of_mem _ (List.mem_cons_self)))))))))))))))))))))))))
theorem u_31_0 : (Cond.code yX10_asking cX10_asking 4 (some .int)) ∈ uU := uT_30 _ (List.mem_append_left _ (List.mem_cons_self))
theorem u_31_1 : (Cond.methodLink RL 85 yX9_best) ∈ uU := uT_30 _ (List.mem_append_left _ (List.mem_cons_of_mem _ (List.mem_cons_self)))
theorem u_31_2 : (Cond.instanceMethod yX9_best) ∈ uU := uT_30 _ (List.mem_append_left _ (List.mem_cons_of_mem _ (List.mem_cons_of_mem _ (List.mem_cons_self))))
theorem u_31_3 : (Cond.selects RX9 yX9_best yX9_best) ∈ uU := uT_30 _ (List.mem_append_left _ (List.mem_cons_of_mem _ (List.mem_cons_of_mem _ (List.mem_cons_of_mem _ (List.mem_cons_self)))))
theorem u_31_4 : (Cond.code yX9_best cX9_best 3 (some .int)) ∈ uU := uT_30 _ (List.mem_append_left _ (List.mem_cons_of_mem _ (List.mem_cons_of_mem _ (List.mem_cons_of_mem _ (List.mem_cons_of_mem _ (List.mem_cons_self))))))
theorem u_31_5 : (Cond.methodLink RX9 156 yX0_bestCopies) ∈ uU := uT_30 _ (List.mem_append_left _ (List.mem_cons_of_mem _ (List.mem_cons_of_mem _ (List.mem_cons_of_mem _ (List.mem_cons_of_mem _ (List.mem_cons_of_mem _ (List.mem_cons_self)))))))
theorem u_31_6 : (Cond.instanceMethod yX0_bestCopies) ∈ uU := uT_30 _ (List.mem_append_left _ (List.mem_cons_of_mem _ (List.mem_cons_of_mem _ (List.mem_cons_of_mem _ (List.mem_cons_of_mem _ (List.mem_cons_of_mem _ (List.mem_cons_of_mem _ (List.mem_cons_self))))))))
theorem u_31_7 : (Cond.selects RX0 yX0_bestCopies yX0_bestCopies) ∈ uU := uT_30 _ (List.mem_append_left _ (List.mem_cons_of_mem _ (List.mem_cons_of_mem _ (List.mem_cons_of_mem _ (List.mem_cons_of_mem _ (List.mem_cons_of_mem _ (List.mem_cons_of_mem _ (List.mem_cons_of_mem _ (List.mem_cons_self)))))))))
theorem u_31_8 : (Cond.code yX0_bestCopies cX0_bestCopies 3 (some .int)) ∈ uU := uT_30 _ (List.mem_append_left _ (List.mem_cons_of_mem _ (List.mem_cons_of_mem _ (List.mem_cons_of_mem _ (List.mem_cons_of_mem _ (List.mem_cons_of_mem _ (List.mem_cons_of_mem _ (List.mem_cons_of_mem _ (List.mem_cons_of_mem _ (List.mem_cons_self))))))))))
theorem u_31_9 : (Cond.methodLink RX9 159 yX0_doing) ∈ uU := uT_30 _ (List.mem_append_left _ (List.mem_cons_of_mem _ (List.mem_cons_of_mem _ (List.mem_cons_of_mem _ (List.mem_cons_of_mem _ (List.mem_cons_of_mem _ (List.mem_cons_of_mem _ (List.mem_cons_of_mem _ (List.mem_cons_of_mem _ (List.mem_cons_of_mem _ (List.mem_cons_self)))))))))))
theorem u_31_10 : (Cond.instanceMethod yX0_doing) ∈ uU := uT_30 _ (List.mem_append_left _ (List.mem_cons_of_mem _ (List.mem_cons_of_mem _ (List.mem_cons_of_mem _ (List.mem_cons_of_mem _ (List.mem_cons_of_mem _ (List.mem_cons_of_mem _ (List.mem_cons_of_mem _ (List.mem_cons_of_mem _ (List.mem_cons_of_mem _ (List.mem_cons_of_mem _ (List.mem_cons_self))))))))))))
theorem u_31_11 : (Cond.selects RX0 yX0_doing yX0_doing) ∈ uU := uT_30 _ (List.mem_append_left _ (List.mem_cons_of_mem _ (List.mem_cons_of_mem _ (List.mem_cons_of_mem _ (List.mem_cons_of_mem _ (List.mem_cons_of_mem _ (List.mem_cons_of_mem _ (List.mem_cons_of_mem _ (List.mem_cons_of_mem _ (List.mem_cons_of_mem _ (List.mem_cons_of_mem _ (List.mem_cons_of_mem _ (List.mem_cons_self)))))))))))))
theorem u_31_12 : (Cond.code yX0_doing cX0_doing 2 (some .int)) ∈ uU := uT_30 _ (List.mem_append_left _ (List.mem_cons_of_mem _ (List.mem_cons_of_mem _ (List.mem_cons_of_mem _ (List.mem_cons_of_mem _ (List.mem_cons_of_mem _ (List.mem_cons_of_mem _ (List.mem_cons_of_mem _ (List.mem_cons_of_mem _ (List.mem_cons_of_mem _ (List.mem_cons_of_mem _ (List.mem_cons_of_mem _ (List.mem_cons_of_mem _ (List.mem_cons_self))))))))))))))
theorem u_31_13 : (Cond.methodLink RX9 162 yX0_asked) ∈ uU := uT_30 _ (List.mem_append_left _ (List.mem_cons_of_mem _ (List.mem_cons_of_mem _ (List.mem_cons_of_mem _ (List.mem_cons_of_mem _ (List.mem_cons_of_mem _ (List.mem_cons_of_mem _ (List.mem_cons_of_mem _ (List.mem_cons_of_mem _ (List.mem_cons_of_mem _ (List.mem_cons_of_mem _ (List.mem_cons_of_mem _ (List.mem_cons_of_mem _ (List.mem_cons_of_mem _ (List.mem_cons_self)))))))))))))))
theorem u_31_14 : (Cond.instanceMethod yX0_asked) ∈ uU := uT_30 _ (List.mem_append_left _ (List.mem_cons_of_mem _ (List.mem_cons_of_mem _ (List.mem_cons_of_mem _ (List.mem_cons_of_mem _ (List.mem_cons_of_mem _ (List.mem_cons_of_mem _ (List.mem_cons_of_mem _ (List.mem_cons_of_mem _ (List.mem_cons_of_mem _ (List.mem_cons_of_mem _ (List.mem_cons_of_mem _ (List.mem_cons_of_mem _ (List.mem_cons_of_mem _ (List.mem_cons_of_mem _ (List.mem_cons_self))))))))))))))))
theorem u_31_15 : (Cond.selects RX0 yX0_asked yX0_asked) ∈ uU := uT_30 _ (List.mem_append_left _ (List.mem_cons_of_mem _ (List.mem_cons_of_mem _ (List.mem_cons_of_mem _ (List.mem_cons_of_mem _ (List.mem_cons_of_mem _ (List.mem_cons_of_mem _ (List.mem_cons_of_mem _ (List.mem_cons_of_mem _ (List.mem_cons_of_mem _ (List.mem_cons_of_mem _ (List.mem_cons_of_mem _ (List.mem_cons_of_mem _ (List.mem_cons_of_mem _ (List.mem_cons_of_mem _ (List.mem_cons_of_mem _ (List.mem_cons_self)))))))))))))))))
theorem u_31_16 : (Cond.code yX0_asked cX0_asked 2 (some .int)) ∈ uU := uT_30 _ (List.mem_append_left _ (List.mem_cons_of_mem _ (List.mem_cons_of_mem _ (List.mem_cons_of_mem _ (List.mem_cons_of_mem _ (List.mem_cons_of_mem _ (List.mem_cons_of_mem _ (List.mem_cons_of_mem _ (List.mem_cons_of_mem _ (List.mem_cons_of_mem _ (List.mem_cons_of_mem _ (List.mem_cons_of_mem _ (List.mem_cons_of_mem _ (List.mem_cons_of_mem _ (List.mem_cons_of_mem _ (List.mem_cons_of_mem _ (List.mem_cons_of_mem _ (List.mem_cons_self))))))))))))))))))
theorem u_31_17 : (Cond.methodLink RL 88 yX10_best) ∈ uU := uT_30 _ (List.mem_append_left _ (List.mem_cons_of_mem _ (List.mem_cons_of_mem _ (List.mem_cons_of_mem _ (List.mem_cons_of_mem _ (List.mem_cons_of_mem _ (List.mem_cons_of_mem _ (List.mem_cons_of_mem _ (List.mem_cons_of_mem _ (List.mem_cons_of_mem _ (List.mem_cons_of_mem _ (List.mem_cons_of_mem _ (List.mem_cons_of_mem _ (List.mem_cons_of_mem _ (List.mem_cons_of_mem _ (List.mem_cons_of_mem _ (List.mem_cons_of_mem _ (List.mem_cons_of_mem _ (List.mem_cons_self)))))))))))))))))))
theorem u_31_18 : (Cond.instanceMethod yX10_best) ∈ uU := uT_30 _ (List.mem_append_left _ (List.mem_cons_of_mem _ (List.mem_cons_of_mem _ (List.mem_cons_of_mem _ (List.mem_cons_of_mem _ (List.mem_cons_of_mem _ (List.mem_cons_of_mem _ (List.mem_cons_of_mem _ (List.mem_cons_of_mem _ (List.mem_cons_of_mem _ (List.mem_cons_of_mem _ (List.mem_cons_of_mem _ (List.mem_cons_of_mem _ (List.mem_cons_of_mem _ (List.mem_cons_of_mem _ (List.mem_cons_of_mem _ (List.mem_cons_of_mem _ (List.mem_cons_of_mem _ (List.mem_cons_of_mem _ (List.mem_cons_self))))))))))))))))))))
theorem u_31_19 : (Cond.selects RX10 yX10_best yX10_best) ∈ uU := uT_30 _ (List.mem_append_left _ (List.mem_cons_of_mem _ (List.mem_cons_of_mem _ (List.mem_cons_of_mem _ (List.mem_cons_of_mem _ (List.mem_cons_of_mem _ (List.mem_cons_of_mem _ (List.mem_cons_of_mem _ (List.mem_cons_of_mem _ (List.mem_cons_of_mem _ (List.mem_cons_of_mem _ (List.mem_cons_of_mem _ (List.mem_cons_of_mem _ (List.mem_cons_of_mem _ (List.mem_cons_of_mem _ (List.mem_cons_of_mem _ (List.mem_cons_of_mem _ (List.mem_cons_of_mem _ (List.mem_cons_of_mem _ (List.mem_cons_of_mem _ (List.mem_cons_self)))))))))))))))))))))
theorem u_31_20 : (Cond.code yX10_best cX10_best 4 (some .int)) ∈ uU := uT_30 _ (List.mem_append_left _ (List.mem_cons_of_mem _ (List.mem_cons_of_mem _ (List.mem_cons_of_mem _ (List.mem_cons_of_mem _ (List.mem_cons_of_mem _ (List.mem_cons_of_mem _ (List.mem_cons_of_mem _ (List.mem_cons_of_mem _ (List.mem_cons_of_mem _ (List.mem_cons_of_mem _ (List.mem_cons_of_mem _ (List.mem_cons_of_mem _ (List.mem_cons_of_mem _ (List.mem_cons_of_mem _ (List.mem_cons_of_mem _ (List.mem_cons_of_mem _ (List.mem_cons_of_mem _ (List.mem_cons_of_mem _ (List.mem_cons_of_mem _ (List.mem_cons_of_mem _ (List.mem_cons_self))))))))))))))))))))))
theorem u_31_21 : (Cond.methodLink RL 89 yX9_round) ∈ uU := uT_30 _ (List.mem_append_left _ (List.mem_cons_of_mem _ (List.mem_cons_of_mem _ (List.mem_cons_of_mem _ (List.mem_cons_of_mem _ (List.mem_cons_of_mem _ (List.mem_cons_of_mem _ (List.mem_cons_of_mem _ (List.mem_cons_of_mem _ (List.mem_cons_of_mem _ (List.mem_cons_of_mem _ (List.mem_cons_of_mem _ (List.mem_cons_of_mem _ (List.mem_cons_of_mem _ (List.mem_cons_of_mem _ (List.mem_cons_of_mem _ (List.mem_cons_of_mem _ (List.mem_cons_of_mem _ (List.mem_cons_of_mem _ (List.mem_cons_of_mem _ (List.mem_cons_of_mem _ (List.mem_cons_of_mem _ (List.mem_cons_self)))))))))))))))))))))))
theorem u_31_22 : (Cond.instanceMethod yX9_round) ∈ uU := uT_30 _ (List.mem_append_left _ (List.mem_cons_of_mem _ (List.mem_cons_of_mem _ (List.mem_cons_of_mem _ (List.mem_cons_of_mem _ (List.mem_cons_of_mem _ (List.mem_cons_of_mem _ (List.mem_cons_of_mem _ (List.mem_cons_of_mem _ (List.mem_cons_of_mem _ (List.mem_cons_of_mem _ (List.mem_cons_of_mem _ (List.mem_cons_of_mem _ (List.mem_cons_of_mem _ (List.mem_cons_of_mem _ (List.mem_cons_of_mem _ (List.mem_cons_of_mem _ (List.mem_cons_of_mem _ (List.mem_cons_of_mem _ (List.mem_cons_of_mem _ (List.mem_cons_of_mem _ (List.mem_cons_of_mem _ (List.mem_cons_of_mem _ (List.mem_cons_self))))))))))))))))))))))))
theorem u_31_23 : (Cond.selects RX9 yX9_round yX9_round) ∈ uU := uT_30 _ (List.mem_append_left _ (List.mem_cons_of_mem _ (List.mem_cons_of_mem _ (List.mem_cons_of_mem _ (List.mem_cons_of_mem _ (List.mem_cons_of_mem _ (List.mem_cons_of_mem _ (List.mem_cons_of_mem _ (List.mem_cons_of_mem _ (List.mem_cons_of_mem _ (List.mem_cons_of_mem _ (List.mem_cons_of_mem _ (List.mem_cons_of_mem _ (List.mem_cons_of_mem _ (List.mem_cons_of_mem _ (List.mem_cons_of_mem _ (List.mem_cons_of_mem _ (List.mem_cons_of_mem _ (List.mem_cons_of_mem _ (List.mem_cons_of_mem _ (List.mem_cons_of_mem _ (List.mem_cons_of_mem _ (List.mem_cons_of_mem _ (List.mem_cons_of_mem _ (List.mem_cons_self)))))))))))))))))))))))))
theorem u_32_0 : (Cond.code yX9_round cX9_round 6 (some .long)) ∈ uU := uT_31 _ (List.mem_append_left _ (List.mem_cons_self))
theorem u_32_1 : (Cond.constantLong RX9 165 (-1)) ∈ uU := uT_31 _ (List.mem_append_left _ (List.mem_cons_of_mem _ (List.mem_cons_self)))
theorem u_32_2 : (Cond.methodLink RL 93 yX10_round) ∈ uU := uT_31 _ (List.mem_append_left _ (List.mem_cons_of_mem _ (List.mem_cons_of_mem _ (List.mem_cons_self))))
theorem u_32_3 : (Cond.instanceMethod yX10_round) ∈ uU := uT_31 _ (List.mem_append_left _ (List.mem_cons_of_mem _ (List.mem_cons_of_mem _ (List.mem_cons_of_mem _ (List.mem_cons_self)))))
theorem u_32_4 : (Cond.selects RX10 yX10_round yX10_round) ∈ uU := uT_31 _ (List.mem_append_left _ (List.mem_cons_of_mem _ (List.mem_cons_of_mem _ (List.mem_cons_of_mem _ (List.mem_cons_of_mem _ (List.mem_cons_self))))))
theorem u_32_5 : (Cond.code yX10_round cX10_round 3 (some .long)) ∈ uU := uT_31 _ (List.mem_append_left _ (List.mem_cons_of_mem _ (List.mem_cons_of_mem _ (List.mem_cons_of_mem _ (List.mem_cons_of_mem _ (List.mem_cons_of_mem _ (List.mem_cons_self)))))))
theorem u_32_6 : (Cond.constantLong RX10 228 (18)) ∈ uU := uT_31 _ (List.mem_append_left _ (List.mem_cons_of_mem _ (List.mem_cons_of_mem _ (List.mem_cons_of_mem _ (List.mem_cons_of_mem _ (List.mem_cons_of_mem _ (List.mem_cons_of_mem _ (List.mem_cons_self))))))))
theorem u_32_7 : (Cond.methodLink RX10 230 yX10_power) ∈ uU := uT_31 _ (List.mem_append_left _ (List.mem_cons_of_mem _ (List.mem_cons_of_mem _ (List.mem_cons_of_mem _ (List.mem_cons_of_mem _ (List.mem_cons_of_mem _ (List.mem_cons_of_mem _ (List.mem_cons_of_mem _ (List.mem_cons_self)))))))))
theorem u_32_8 : (Cond.static yX10_power) ∈ uU := uT_31 _ (List.mem_append_left _ (List.mem_cons_of_mem _ (List.mem_cons_of_mem _ (List.mem_cons_of_mem _ (List.mem_cons_of_mem _ (List.mem_cons_of_mem _ (List.mem_cons_of_mem _ (List.mem_cons_of_mem _ (List.mem_cons_of_mem _ (List.mem_cons_self))))))))))
theorem u_32_9 : (Cond.code yX10_power cX10_power 5 (some .long)) ∈ uU := uT_31 _ (List.mem_append_left _ (List.mem_cons_of_mem _ (List.mem_cons_of_mem _ (List.mem_cons_of_mem _ (List.mem_cons_of_mem _ (List.mem_cons_of_mem _ (List.mem_cons_of_mem _ (List.mem_cons_of_mem _ (List.mem_cons_of_mem _ (List.mem_cons_of_mem _ (List.mem_cons_self)))))))))))
theorem u_32_10 : (Cond.methodLink RL 96 yX9_outrun) ∈ uU := uT_31 _ (List.mem_append_left _ (List.mem_cons_of_mem _ (List.mem_cons_of_mem _ (List.mem_cons_of_mem _ (List.mem_cons_of_mem _ (List.mem_cons_of_mem _ (List.mem_cons_of_mem _ (List.mem_cons_of_mem _ (List.mem_cons_of_mem _ (List.mem_cons_of_mem _ (List.mem_cons_of_mem _ (List.mem_cons_self))))))))))))
theorem u_32_11 : (Cond.instanceMethod yX9_outrun) ∈ uU := uT_31 _ (List.mem_append_left _ (List.mem_cons_of_mem _ (List.mem_cons_of_mem _ (List.mem_cons_of_mem _ (List.mem_cons_of_mem _ (List.mem_cons_of_mem _ (List.mem_cons_of_mem _ (List.mem_cons_of_mem _ (List.mem_cons_of_mem _ (List.mem_cons_of_mem _ (List.mem_cons_of_mem _ (List.mem_cons_of_mem _ (List.mem_cons_self)))))))))))))
theorem u_32_12 : (Cond.selects RX9 yX9_outrun yX9_outrun) ∈ uU := uT_31 _ (List.mem_append_left _ (List.mem_cons_of_mem _ (List.mem_cons_of_mem _ (List.mem_cons_of_mem _ (List.mem_cons_of_mem _ (List.mem_cons_of_mem _ (List.mem_cons_of_mem _ (List.mem_cons_of_mem _ (List.mem_cons_of_mem _ (List.mem_cons_of_mem _ (List.mem_cons_of_mem _ (List.mem_cons_of_mem _ (List.mem_cons_of_mem _ (List.mem_cons_self))))))))))))))
theorem u_32_13 : (Cond.code yX9_outrun cX9_outrun 9 (some .int)) ∈ uU := uT_31 _ (List.mem_append_left _ (List.mem_cons_of_mem _ (List.mem_cons_of_mem _ (List.mem_cons_of_mem _ (List.mem_cons_of_mem _ (List.mem_cons_of_mem _ (List.mem_cons_of_mem _ (List.mem_cons_of_mem _ (List.mem_cons_of_mem _ (List.mem_cons_of_mem _ (List.mem_cons_of_mem _ (List.mem_cons_of_mem _ (List.mem_cons_of_mem _ (List.mem_cons_of_mem _ (List.mem_cons_self)))))))))))))))
theorem u_32_14 : (Cond.constantLong RX9 167 (10000000000)) ∈ uU := uT_31 _ (List.mem_append_left _ (List.mem_cons_of_mem _ (List.mem_cons_of_mem _ (List.mem_cons_of_mem _ (List.mem_cons_of_mem _ (List.mem_cons_of_mem _ (List.mem_cons_of_mem _ (List.mem_cons_of_mem _ (List.mem_cons_of_mem _ (List.mem_cons_of_mem _ (List.mem_cons_of_mem _ (List.mem_cons_of_mem _ (List.mem_cons_of_mem _ (List.mem_cons_of_mem _ (List.mem_cons_of_mem _ (List.mem_cons_self))))))))))))))))
theorem u_32_15 : (Cond.methodLink RL 100 yX10_outrun) ∈ uU := uT_31 _ (List.mem_append_left _ (List.mem_cons_of_mem _ (List.mem_cons_of_mem _ (List.mem_cons_of_mem _ (List.mem_cons_of_mem _ (List.mem_cons_of_mem _ (List.mem_cons_of_mem _ (List.mem_cons_of_mem _ (List.mem_cons_of_mem _ (List.mem_cons_of_mem _ (List.mem_cons_of_mem _ (List.mem_cons_of_mem _ (List.mem_cons_of_mem _ (List.mem_cons_of_mem _ (List.mem_cons_of_mem _ (List.mem_cons_of_mem _ (List.mem_cons_self)))))))))))))))))
theorem u_32_16 : (Cond.instanceMethod yX10_outrun) ∈ uU := uT_31 _ (List.mem_append_left _ (List.mem_cons_of_mem _ (List.mem_cons_of_mem _ (List.mem_cons_of_mem _ (List.mem_cons_of_mem _ (List.mem_cons_of_mem _ (List.mem_cons_of_mem _ (List.mem_cons_of_mem _ (List.mem_cons_of_mem _ (List.mem_cons_of_mem _ (List.mem_cons_of_mem _ (List.mem_cons_of_mem _ (List.mem_cons_of_mem _ (List.mem_cons_of_mem _ (List.mem_cons_of_mem _ (List.mem_cons_of_mem _ (List.mem_cons_of_mem _ (List.mem_cons_self))))))))))))))))))
theorem u_32_17 : (Cond.selects RX10 yX10_outrun yX10_outrun) ∈ uU := uT_31 _ (List.mem_append_left _ (List.mem_cons_of_mem _ (List.mem_cons_of_mem _ (List.mem_cons_of_mem _ (List.mem_cons_of_mem _ (List.mem_cons_of_mem _ (List.mem_cons_of_mem _ (List.mem_cons_of_mem _ (List.mem_cons_of_mem _ (List.mem_cons_of_mem _ (List.mem_cons_of_mem _ (List.mem_cons_of_mem _ (List.mem_cons_of_mem _ (List.mem_cons_of_mem _ (List.mem_cons_of_mem _ (List.mem_cons_of_mem _ (List.mem_cons_of_mem _ (List.mem_cons_of_mem _ (List.mem_cons_self)))))))))))))))))))
theorem u_32_18 : (Cond.code yX10_outrun cX10_outrun 7 (some .int)) ∈ uU := uT_31 _ (List.mem_append_left _ (List.mem_cons_of_mem _ (List.mem_cons_of_mem _ (List.mem_cons_of_mem _ (List.mem_cons_of_mem _ (List.mem_cons_of_mem _ (List.mem_cons_of_mem _ (List.mem_cons_of_mem _ (List.mem_cons_of_mem _ (List.mem_cons_of_mem _ (List.mem_cons_of_mem _ (List.mem_cons_of_mem _ (List.mem_cons_of_mem _ (List.mem_cons_of_mem _ (List.mem_cons_of_mem _ (List.mem_cons_of_mem _ (List.mem_cons_of_mem _ (List.mem_cons_of_mem _ (List.mem_cons_of_mem _ (List.mem_cons_self))))))))))))))))))))
theorem u_32_19 : (Cond.constantLong RX10 234 (10000000000)) ∈ uU := uT_31 _ (List.mem_append_left _ (List.mem_cons_of_mem _ (List.mem_cons_of_mem _ (List.mem_cons_of_mem _ (List.mem_cons_of_mem _ (List.mem_cons_of_mem _ (List.mem_cons_of_mem _ (List.mem_cons_of_mem _ (List.mem_cons_of_mem _ (List.mem_cons_of_mem _ (List.mem_cons_of_mem _ (List.mem_cons_of_mem _ (List.mem_cons_of_mem _ (List.mem_cons_of_mem _ (List.mem_cons_of_mem _ (List.mem_cons_of_mem _ (List.mem_cons_of_mem _ (List.mem_cons_of_mem _ (List.mem_cons_of_mem _ (List.mem_cons_of_mem _ (List.mem_cons_self)))))))))))))))))))))
theorem u_32_20 : (Cond.methodLink RL 101 yX9_sends) ∈ uU := uT_31 _ (List.mem_append_left _ (List.mem_cons_of_mem _ (List.mem_cons_of_mem _ (List.mem_cons_of_mem _ (List.mem_cons_of_mem _ (List.mem_cons_of_mem _ (List.mem_cons_of_mem _ (List.mem_cons_of_mem _ (List.mem_cons_of_mem _ (List.mem_cons_of_mem _ (List.mem_cons_of_mem _ (List.mem_cons_of_mem _ (List.mem_cons_of_mem _ (List.mem_cons_of_mem _ (List.mem_cons_of_mem _ (List.mem_cons_of_mem _ (List.mem_cons_of_mem _ (List.mem_cons_of_mem _ (List.mem_cons_of_mem _ (List.mem_cons_of_mem _ (List.mem_cons_of_mem _ (List.mem_cons_self))))))))))))))))))))))
theorem u_32_21 : (Cond.instanceMethod yX9_sends) ∈ uU := uT_31 _ (List.mem_append_left _ (List.mem_cons_of_mem _ (List.mem_cons_of_mem _ (List.mem_cons_of_mem _ (List.mem_cons_of_mem _ (List.mem_cons_of_mem _ (List.mem_cons_of_mem _ (List.mem_cons_of_mem _ (List.mem_cons_of_mem _ (List.mem_cons_of_mem _ (List.mem_cons_of_mem _ (List.mem_cons_of_mem _ (List.mem_cons_of_mem _ (List.mem_cons_of_mem _ (List.mem_cons_of_mem _ (List.mem_cons_of_mem _ (List.mem_cons_of_mem _ (List.mem_cons_of_mem _ (List.mem_cons_of_mem _ (List.mem_cons_of_mem _ (List.mem_cons_of_mem _ (List.mem_cons_of_mem _ (List.mem_cons_self)))))))))))))))))))))))
theorem u_32_22 : (Cond.selects RX9 yX9_sends yX9_sends) ∈ uU := uT_31 _ (List.mem_append_left _ (List.mem_cons_of_mem _ (List.mem_cons_of_mem _ (List.mem_cons_of_mem _ (List.mem_cons_of_mem _ (List.mem_cons_of_mem _ (List.mem_cons_of_mem _ (List.mem_cons_of_mem _ (List.mem_cons_of_mem _ (List.mem_cons_of_mem _ (List.mem_cons_of_mem _ (List.mem_cons_of_mem _ (List.mem_cons_of_mem _ (List.mem_cons_of_mem _ (List.mem_cons_of_mem _ (List.mem_cons_of_mem _ (List.mem_cons_of_mem _ (List.mem_cons_of_mem _ (List.mem_cons_of_mem _ (List.mem_cons_of_mem _ (List.mem_cons_of_mem _ (List.mem_cons_of_mem _ (List.mem_cons_of_mem _ (List.mem_cons_self))))))))))))))))))))))))
theorem u_32_23 : (Cond.code yX9_sends cX9_sends 3 (some .int)) ∈ uU := uT_31 _ (List.mem_append_left _ (List.mem_cons_of_mem _ (List.mem_cons_of_mem _ (List.mem_cons_of_mem _ (List.mem_cons_of_mem _ (List.mem_cons_of_mem _ (List.mem_cons_of_mem _ (List.mem_cons_of_mem _ (List.mem_cons_of_mem _ (List.mem_cons_of_mem _ (List.mem_cons_of_mem _ (List.mem_cons_of_mem _ (List.mem_cons_of_mem _ (List.mem_cons_of_mem _ (List.mem_cons_of_mem _ (List.mem_cons_of_mem _ (List.mem_cons_of_mem _ (List.mem_cons_of_mem _ (List.mem_cons_of_mem _ (List.mem_cons_of_mem _ (List.mem_cons_of_mem _ (List.mem_cons_of_mem _ (List.mem_cons_of_mem _ (List.mem_cons_of_mem _ (List.mem_cons_self)))))))))))))))))))))))))
theorem u_33_0 : (Cond.methodLink RX9 169 yX7_has) ∈ uU := uT_32 _ (List.mem_append_left _ (List.mem_cons_self))
theorem u_33_1 : (Cond.static yX7_has) ∈ uU := uT_32 _ (List.mem_append_left _ (List.mem_cons_of_mem _ (List.mem_cons_self)))
theorem u_33_2 : (Cond.code yX7_has cX7_has 1 (some .boolean)) ∈ uU := uT_32 _ (List.mem_append_left _ (List.mem_cons_of_mem _ (List.mem_cons_of_mem _ (List.mem_cons_self))))
theorem u_33_3 : (Cond.methodLink RX9 170 yX7_tellSends) ∈ uU := uT_32 _ (List.mem_append_left _ (List.mem_cons_of_mem _ (List.mem_cons_of_mem _ (List.mem_cons_of_mem _ (List.mem_cons_self)))))
theorem u_33_4 : (Cond.instanceMethod yX7_tellSends) ∈ uU := uT_32 _ (List.mem_append_left _ (List.mem_cons_of_mem _ (List.mem_cons_of_mem _ (List.mem_cons_of_mem _ (List.mem_cons_of_mem _ (List.mem_cons_self))))))
theorem u_33_5 : (Cond.selects RX7 yX7_tellSends yX7_tellSends) ∈ uU := uT_32 _ (List.mem_append_left _ (List.mem_cons_of_mem _ (List.mem_cons_of_mem _ (List.mem_cons_of_mem _ (List.mem_cons_of_mem _ (List.mem_cons_of_mem _ (List.mem_cons_self)))))))
theorem u_33_6 : (Cond.code yX7_tellSends cX7_tellSends 4 (some .int)) ∈ uU := uT_32 _ (List.mem_append_left _ (List.mem_cons_of_mem _ (List.mem_cons_of_mem _ (List.mem_cons_of_mem _ (List.mem_cons_of_mem _ (List.mem_cons_of_mem _ (List.mem_cons_of_mem _ (List.mem_cons_self))))))))
theorem u_33_7 : (Cond.methodLink RL 104 yX10_sends) ∈ uU := uT_32 _ (List.mem_append_left _ (List.mem_cons_of_mem _ (List.mem_cons_of_mem _ (List.mem_cons_of_mem _ (List.mem_cons_of_mem _ (List.mem_cons_of_mem _ (List.mem_cons_of_mem _ (List.mem_cons_of_mem _ (List.mem_cons_self)))))))))
theorem u_33_8 : (Cond.instanceMethod yX10_sends) ∈ uU := uT_32 _ (List.mem_append_left _ (List.mem_cons_of_mem _ (List.mem_cons_of_mem _ (List.mem_cons_of_mem _ (List.mem_cons_of_mem _ (List.mem_cons_of_mem _ (List.mem_cons_of_mem _ (List.mem_cons_of_mem _ (List.mem_cons_of_mem _ (List.mem_cons_self))))))))))
theorem u_33_9 : (Cond.selects RX10 yX10_sends yX10_sends) ∈ uU := uT_32 _ (List.mem_append_left _ (List.mem_cons_of_mem _ (List.mem_cons_of_mem _ (List.mem_cons_of_mem _ (List.mem_cons_of_mem _ (List.mem_cons_of_mem _ (List.mem_cons_of_mem _ (List.mem_cons_of_mem _ (List.mem_cons_of_mem _ (List.mem_cons_of_mem _ (List.mem_cons_self)))))))))))
theorem u_33_10 : (Cond.code yX10_sends cX10_sends 4 (some .int)) ∈ uU := uT_32 _ (List.mem_append_left _ (List.mem_cons_of_mem _ (List.mem_cons_of_mem _ (List.mem_cons_of_mem _ (List.mem_cons_of_mem _ (List.mem_cons_of_mem _ (List.mem_cons_of_mem _ (List.mem_cons_of_mem _ (List.mem_cons_of_mem _ (List.mem_cons_of_mem _ (List.mem_cons_of_mem _ (List.mem_cons_self))))))))))))
theorem u_33_11 : (Cond.constantLong RX10 239 (1023)) ∈ uU := uT_32 _ (List.mem_append_left _ (List.mem_cons_of_mem _ (List.mem_cons_of_mem _ (List.mem_cons_of_mem _ (List.mem_cons_of_mem _ (List.mem_cons_of_mem _ (List.mem_cons_of_mem _ (List.mem_cons_of_mem _ (List.mem_cons_of_mem _ (List.mem_cons_of_mem _ (List.mem_cons_of_mem _ (List.mem_cons_of_mem _ (List.mem_cons_self)))))))))))))
theorem u_33_12 : (Cond.methodLink RX10 236 yX10_isPerson) ∈ uU := uT_32 _ (List.mem_append_left _ (List.mem_cons_of_mem _ (List.mem_cons_of_mem _ (List.mem_cons_of_mem _ (List.mem_cons_of_mem _ (List.mem_cons_of_mem _ (List.mem_cons_of_mem _ (List.mem_cons_of_mem _ (List.mem_cons_of_mem _ (List.mem_cons_of_mem _ (List.mem_cons_of_mem _ (List.mem_cons_of_mem _ (List.mem_cons_of_mem _ (List.mem_cons_self))))))))))))))
theorem u_33_13 : (Cond.static yX10_isPerson) ∈ uU := uT_32 _ (List.mem_append_left _ (List.mem_cons_of_mem _ (List.mem_cons_of_mem _ (List.mem_cons_of_mem _ (List.mem_cons_of_mem _ (List.mem_cons_of_mem _ (List.mem_cons_of_mem _ (List.mem_cons_of_mem _ (List.mem_cons_of_mem _ (List.mem_cons_of_mem _ (List.mem_cons_of_mem _ (List.mem_cons_of_mem _ (List.mem_cons_of_mem _ (List.mem_cons_of_mem _ (List.mem_cons_self)))))))))))))))
theorem u_33_14 : (Cond.code yX10_isPerson cX10_isPerson 1 (some .boolean)) ∈ uU := uT_32 _ (List.mem_append_left _ (List.mem_cons_of_mem _ (List.mem_cons_of_mem _ (List.mem_cons_of_mem _ (List.mem_cons_of_mem _ (List.mem_cons_of_mem _ (List.mem_cons_of_mem _ (List.mem_cons_of_mem _ (List.mem_cons_of_mem _ (List.mem_cons_of_mem _ (List.mem_cons_of_mem _ (List.mem_cons_of_mem _ (List.mem_cons_of_mem _ (List.mem_cons_of_mem _ (List.mem_cons_of_mem _ (List.mem_cons_self))))))))))))))))
theorem u_33_15 : (Cond.methodLink RL 105 yX9_copies) ∈ uU := uT_32 _ (List.mem_append_left _ (List.mem_cons_of_mem _ (List.mem_cons_of_mem _ (List.mem_cons_of_mem _ (List.mem_cons_of_mem _ (List.mem_cons_of_mem _ (List.mem_cons_of_mem _ (List.mem_cons_of_mem _ (List.mem_cons_of_mem _ (List.mem_cons_of_mem _ (List.mem_cons_of_mem _ (List.mem_cons_of_mem _ (List.mem_cons_of_mem _ (List.mem_cons_of_mem _ (List.mem_cons_of_mem _ (List.mem_cons_of_mem _ (List.mem_cons_self)))))))))))))))))
theorem u_33_16 : (Cond.instanceMethod yX9_copies) ∈ uU := uT_32 _ (List.mem_append_left _ (List.mem_cons_of_mem _ (List.mem_cons_of_mem _ (List.mem_cons_of_mem _ (List.mem_cons_of_mem _ (List.mem_cons_of_mem _ (List.mem_cons_of_mem _ (List.mem_cons_of_mem _ (List.mem_cons_of_mem _ (List.mem_cons_of_mem _ (List.mem_cons_of_mem _ (List.mem_cons_of_mem _ (List.mem_cons_of_mem _ (List.mem_cons_of_mem _ (List.mem_cons_of_mem _ (List.mem_cons_of_mem _ (List.mem_cons_of_mem _ (List.mem_cons_self))))))))))))))))))
theorem u_33_17 : (Cond.selects RX9 yX9_copies yX9_copies) ∈ uU := uT_32 _ (List.mem_append_left _ (List.mem_cons_of_mem _ (List.mem_cons_of_mem _ (List.mem_cons_of_mem _ (List.mem_cons_of_mem _ (List.mem_cons_of_mem _ (List.mem_cons_of_mem _ (List.mem_cons_of_mem _ (List.mem_cons_of_mem _ (List.mem_cons_of_mem _ (List.mem_cons_of_mem _ (List.mem_cons_of_mem _ (List.mem_cons_of_mem _ (List.mem_cons_of_mem _ (List.mem_cons_of_mem _ (List.mem_cons_of_mem _ (List.mem_cons_of_mem _ (List.mem_cons_of_mem _ (List.mem_cons_self)))))))))))))))))))
theorem u_33_18 : (Cond.code yX9_copies cX9_copies 5 (some .int)) ∈ uU := uT_32 _ (List.mem_append_left _ (List.mem_cons_of_mem _ (List.mem_cons_of_mem _ (List.mem_cons_of_mem _ (List.mem_cons_of_mem _ (List.mem_cons_of_mem _ (List.mem_cons_of_mem _ (List.mem_cons_of_mem _ (List.mem_cons_of_mem _ (List.mem_cons_of_mem _ (List.mem_cons_of_mem _ (List.mem_cons_of_mem _ (List.mem_cons_of_mem _ (List.mem_cons_of_mem _ (List.mem_cons_of_mem _ (List.mem_cons_of_mem _ (List.mem_cons_of_mem _ (List.mem_cons_of_mem _ (List.mem_cons_of_mem _ (List.mem_cons_self))))))))))))))))))))
theorem u_33_19 : (Cond.methodLink RX9 173 yX7_tellCopies) ∈ uU := uT_32 _ (List.mem_append_left _ (List.mem_cons_of_mem _ (List.mem_cons_of_mem _ (List.mem_cons_of_mem _ (List.mem_cons_of_mem _ (List.mem_cons_of_mem _ (List.mem_cons_of_mem _ (List.mem_cons_of_mem _ (List.mem_cons_of_mem _ (List.mem_cons_of_mem _ (List.mem_cons_of_mem _ (List.mem_cons_of_mem _ (List.mem_cons_of_mem _ (List.mem_cons_of_mem _ (List.mem_cons_of_mem _ (List.mem_cons_of_mem _ (List.mem_cons_of_mem _ (List.mem_cons_of_mem _ (List.mem_cons_of_mem _ (List.mem_cons_of_mem _ (List.mem_cons_self)))))))))))))))))))))
theorem u_33_20 : (Cond.instanceMethod yX7_tellCopies) ∈ uU := uT_32 _ (List.mem_append_left _ (List.mem_cons_of_mem _ (List.mem_cons_of_mem _ (List.mem_cons_of_mem _ (List.mem_cons_of_mem _ (List.mem_cons_of_mem _ (List.mem_cons_of_mem _ (List.mem_cons_of_mem _ (List.mem_cons_of_mem _ (List.mem_cons_of_mem _ (List.mem_cons_of_mem _ (List.mem_cons_of_mem _ (List.mem_cons_of_mem _ (List.mem_cons_of_mem _ (List.mem_cons_of_mem _ (List.mem_cons_of_mem _ (List.mem_cons_of_mem _ (List.mem_cons_of_mem _ (List.mem_cons_of_mem _ (List.mem_cons_of_mem _ (List.mem_cons_of_mem _ (List.mem_cons_self))))))))))))))))))))))
theorem u_33_21 : (Cond.selects RX7 yX7_tellCopies yX7_tellCopies) ∈ uU := uT_32 _ (List.mem_append_left _ (List.mem_cons_of_mem _ (List.mem_cons_of_mem _ (List.mem_cons_of_mem _ (List.mem_cons_of_mem _ (List.mem_cons_of_mem _ (List.mem_cons_of_mem _ (List.mem_cons_of_mem _ (List.mem_cons_of_mem _ (List.mem_cons_of_mem _ (List.mem_cons_of_mem _ (List.mem_cons_of_mem _ (List.mem_cons_of_mem _ (List.mem_cons_of_mem _ (List.mem_cons_of_mem _ (List.mem_cons_of_mem _ (List.mem_cons_of_mem _ (List.mem_cons_of_mem _ (List.mem_cons_of_mem _ (List.mem_cons_of_mem _ (List.mem_cons_of_mem _ (List.mem_cons_of_mem _ (List.mem_cons_self)))))))))))))))))))))))
theorem u_33_22 : (Cond.code yX7_tellCopies cX7_tellCopies 5 none) ∈ uU := uT_32 _ (List.mem_append_left _ (List.mem_cons_of_mem _ (List.mem_cons_of_mem _ (List.mem_cons_of_mem _ (List.mem_cons_of_mem _ (List.mem_cons_of_mem _ (List.mem_cons_of_mem _ (List.mem_cons_of_mem _ (List.mem_cons_of_mem _ (List.mem_cons_of_mem _ (List.mem_cons_of_mem _ (List.mem_cons_of_mem _ (List.mem_cons_of_mem _ (List.mem_cons_of_mem _ (List.mem_cons_of_mem _ (List.mem_cons_of_mem _ (List.mem_cons_of_mem _ (List.mem_cons_of_mem _ (List.mem_cons_of_mem _ (List.mem_cons_of_mem _ (List.mem_cons_of_mem _ (List.mem_cons_of_mem _ (List.mem_cons_of_mem _ (List.mem_cons_self))))))))))))))))))))))))
theorem u_33_23 : (Cond.methodLink RL 109 yX10_copies) ∈ uU := uT_32 _ (List.mem_append_left _ (List.mem_cons_of_mem _ (List.mem_cons_of_mem _ (List.mem_cons_of_mem _ (List.mem_cons_of_mem _ (List.mem_cons_of_mem _ (List.mem_cons_of_mem _ (List.mem_cons_of_mem _ (List.mem_cons_of_mem _ (List.mem_cons_of_mem _ (List.mem_cons_of_mem _ (List.mem_cons_of_mem _ (List.mem_cons_of_mem _ (List.mem_cons_of_mem _ (List.mem_cons_of_mem _ (List.mem_cons_of_mem _ (List.mem_cons_of_mem _ (List.mem_cons_of_mem _ (List.mem_cons_of_mem _ (List.mem_cons_of_mem _ (List.mem_cons_of_mem _ (List.mem_cons_of_mem _ (List.mem_cons_of_mem _ (List.mem_cons_of_mem _ (List.mem_cons_self)))))))))))))))))))))))))
theorem u_34_0 : (Cond.instanceMethod yX10_copies) ∈ uU := uT_33 _ (List.mem_append_left _ (List.mem_cons_self))
theorem u_34_1 : (Cond.selects RX10 yX10_copies yX10_copies) ∈ uU := uT_33 _ (List.mem_append_left _ (List.mem_cons_of_mem _ (List.mem_cons_self)))
theorem u_34_2 : (Cond.code yX10_copies cX10_copies 5 (some .int)) ∈ uU := uT_33 _ (List.mem_append_left _ (List.mem_cons_of_mem _ (List.mem_cons_of_mem _ (List.mem_cons_self))))
theorem u_34_3 : (Cond.methodLink RL 110 yX9_run) ∈ uU := uT_33 _ (List.mem_append_left _ (List.mem_cons_of_mem _ (List.mem_cons_of_mem _ (List.mem_cons_of_mem _ (List.mem_cons_self)))))
theorem u_34_4 : (Cond.instanceMethod yX9_run) ∈ uU := uT_33 _ (List.mem_append_left _ (List.mem_cons_of_mem _ (List.mem_cons_of_mem _ (List.mem_cons_of_mem _ (List.mem_cons_of_mem _ (List.mem_cons_self))))))
theorem u_34_5 : (Cond.selects RX9 yX9_run yX9_run) ∈ uU := uT_33 _ (List.mem_append_left _ (List.mem_cons_of_mem _ (List.mem_cons_of_mem _ (List.mem_cons_of_mem _ (List.mem_cons_of_mem _ (List.mem_cons_of_mem _ (List.mem_cons_self)))))))
theorem u_34_6 : (Cond.code yX9_run cX9_run 5 (some .int)) ∈ uU := uT_33 _ (List.mem_append_left _ (List.mem_cons_of_mem _ (List.mem_cons_of_mem _ (List.mem_cons_of_mem _ (List.mem_cons_of_mem _ (List.mem_cons_of_mem _ (List.mem_cons_of_mem _ (List.mem_cons_self))))))))
theorem u_34_7 : (Cond.methodLink RX9 177 yX7_goThrough) ∈ uU := uT_33 _ (List.mem_append_left _ (List.mem_cons_of_mem _ (List.mem_cons_of_mem _ (List.mem_cons_of_mem _ (List.mem_cons_of_mem _ (List.mem_cons_of_mem _ (List.mem_cons_of_mem _ (List.mem_cons_of_mem _ (List.mem_cons_self)))))))))
theorem u_34_8 : (Cond.instanceMethod yX7_goThrough) ∈ uU := uT_33 _ (List.mem_append_left _ (List.mem_cons_of_mem _ (List.mem_cons_of_mem _ (List.mem_cons_of_mem _ (List.mem_cons_of_mem _ (List.mem_cons_of_mem _ (List.mem_cons_of_mem _ (List.mem_cons_of_mem _ (List.mem_cons_of_mem _ (List.mem_cons_self))))))))))
theorem u_34_9 : (Cond.selects RX7 yX7_goThrough yX7_goThrough) ∈ uU := uT_33 _ (List.mem_append_left _ (List.mem_cons_of_mem _ (List.mem_cons_of_mem _ (List.mem_cons_of_mem _ (List.mem_cons_of_mem _ (List.mem_cons_of_mem _ (List.mem_cons_of_mem _ (List.mem_cons_of_mem _ (List.mem_cons_of_mem _ (List.mem_cons_of_mem _ (List.mem_cons_self)))))))))))
theorem u_34_10 : (Cond.code yX7_goThrough cX7_goThrough 9 (some .int)) ∈ uU := uT_33 _ (List.mem_append_left _ (List.mem_cons_of_mem _ (List.mem_cons_of_mem _ (List.mem_cons_of_mem _ (List.mem_cons_of_mem _ (List.mem_cons_of_mem _ (List.mem_cons_of_mem _ (List.mem_cons_of_mem _ (List.mem_cons_of_mem _ (List.mem_cons_of_mem _ (List.mem_cons_of_mem _ (List.mem_cons_self))))))))))))
theorem u_34_11 : (Cond.constant RX7 31 (1103515245)) ∈ uU := uT_33 _ (List.mem_append_left _ (List.mem_cons_of_mem _ (List.mem_cons_of_mem _ (List.mem_cons_of_mem _ (List.mem_cons_of_mem _ (List.mem_cons_of_mem _ (List.mem_cons_of_mem _ (List.mem_cons_of_mem _ (List.mem_cons_of_mem _ (List.mem_cons_of_mem _ (List.mem_cons_of_mem _ (List.mem_cons_of_mem _ (List.mem_cons_self)))))))))))))
theorem u_34_12 : (Cond.methodLink RX7 32 yX7_getters) ∈ uU := uT_33 _ (List.mem_append_left _ (List.mem_cons_of_mem _ (List.mem_cons_of_mem _ (List.mem_cons_of_mem _ (List.mem_cons_of_mem _ (List.mem_cons_of_mem _ (List.mem_cons_of_mem _ (List.mem_cons_of_mem _ (List.mem_cons_of_mem _ (List.mem_cons_of_mem _ (List.mem_cons_of_mem _ (List.mem_cons_of_mem _ (List.mem_cons_of_mem _ (List.mem_cons_self))))))))))))))
theorem u_34_13 : (Cond.instanceMethod yX7_getters) ∈ uU := uT_33 _ (List.mem_append_left _ (List.mem_cons_of_mem _ (List.mem_cons_of_mem _ (List.mem_cons_of_mem _ (List.mem_cons_of_mem _ (List.mem_cons_of_mem _ (List.mem_cons_of_mem _ (List.mem_cons_of_mem _ (List.mem_cons_of_mem _ (List.mem_cons_of_mem _ (List.mem_cons_of_mem _ (List.mem_cons_of_mem _ (List.mem_cons_of_mem _ (List.mem_cons_of_mem _ (List.mem_cons_self)))))))))))))))
theorem u_34_14 : (Cond.selects RX7 yX7_getters yX7_getters) ∈ uU := uT_33 _ (List.mem_append_left _ (List.mem_cons_of_mem _ (List.mem_cons_of_mem _ (List.mem_cons_of_mem _ (List.mem_cons_of_mem _ (List.mem_cons_of_mem _ (List.mem_cons_of_mem _ (List.mem_cons_of_mem _ (List.mem_cons_of_mem _ (List.mem_cons_of_mem _ (List.mem_cons_of_mem _ (List.mem_cons_of_mem _ (List.mem_cons_of_mem _ (List.mem_cons_of_mem _ (List.mem_cons_of_mem _ (List.mem_cons_self))))))))))))))))
theorem u_34_15 : (Cond.code yX7_getters cX7_getters 6 (some .int)) ∈ uU := uT_33 _ (List.mem_append_left _ (List.mem_cons_of_mem _ (List.mem_cons_of_mem _ (List.mem_cons_of_mem _ (List.mem_cons_of_mem _ (List.mem_cons_of_mem _ (List.mem_cons_of_mem _ (List.mem_cons_of_mem _ (List.mem_cons_of_mem _ (List.mem_cons_of_mem _ (List.mem_cons_of_mem _ (List.mem_cons_of_mem _ (List.mem_cons_of_mem _ (List.mem_cons_of_mem _ (List.mem_cons_of_mem _ (List.mem_cons_of_mem _ (List.mem_cons_self)))))))))))))))))
theorem u_34_16 : (Cond.methodLink RX7 36 yX7_countDay) ∈ uU := uT_33 _ (List.mem_append_left _ (List.mem_cons_of_mem _ (List.mem_cons_of_mem _ (List.mem_cons_of_mem _ (List.mem_cons_of_mem _ (List.mem_cons_of_mem _ (List.mem_cons_of_mem _ (List.mem_cons_of_mem _ (List.mem_cons_of_mem _ (List.mem_cons_of_mem _ (List.mem_cons_of_mem _ (List.mem_cons_of_mem _ (List.mem_cons_of_mem _ (List.mem_cons_of_mem _ (List.mem_cons_of_mem _ (List.mem_cons_of_mem _ (List.mem_cons_of_mem _ (List.mem_cons_self))))))))))))))))))
theorem u_34_17 : (Cond.instanceMethod yX7_countDay) ∈ uU := uT_33 _ (List.mem_append_left _ (List.mem_cons_of_mem _ (List.mem_cons_of_mem _ (List.mem_cons_of_mem _ (List.mem_cons_of_mem _ (List.mem_cons_of_mem _ (List.mem_cons_of_mem _ (List.mem_cons_of_mem _ (List.mem_cons_of_mem _ (List.mem_cons_of_mem _ (List.mem_cons_of_mem _ (List.mem_cons_of_mem _ (List.mem_cons_of_mem _ (List.mem_cons_of_mem _ (List.mem_cons_of_mem _ (List.mem_cons_of_mem _ (List.mem_cons_of_mem _ (List.mem_cons_of_mem _ (List.mem_cons_self)))))))))))))))))))
theorem u_34_18 : (Cond.selects RX7 yX7_countDay yX7_countDay) ∈ uU := uT_33 _ (List.mem_append_left _ (List.mem_cons_of_mem _ (List.mem_cons_of_mem _ (List.mem_cons_of_mem _ (List.mem_cons_of_mem _ (List.mem_cons_of_mem _ (List.mem_cons_of_mem _ (List.mem_cons_of_mem _ (List.mem_cons_of_mem _ (List.mem_cons_of_mem _ (List.mem_cons_of_mem _ (List.mem_cons_of_mem _ (List.mem_cons_of_mem _ (List.mem_cons_of_mem _ (List.mem_cons_of_mem _ (List.mem_cons_of_mem _ (List.mem_cons_of_mem _ (List.mem_cons_of_mem _ (List.mem_cons_of_mem _ (List.mem_cons_self))))))))))))))))))))
theorem u_34_19 : (Cond.code yX7_countDay cX7_countDay 3 none) ∈ uU := uT_33 _ (List.mem_append_left _ (List.mem_cons_of_mem _ (List.mem_cons_of_mem _ (List.mem_cons_of_mem _ (List.mem_cons_of_mem _ (List.mem_cons_of_mem _ (List.mem_cons_of_mem _ (List.mem_cons_of_mem _ (List.mem_cons_of_mem _ (List.mem_cons_of_mem _ (List.mem_cons_of_mem _ (List.mem_cons_of_mem _ (List.mem_cons_of_mem _ (List.mem_cons_of_mem _ (List.mem_cons_of_mem _ (List.mem_cons_of_mem _ (List.mem_cons_of_mem _ (List.mem_cons_of_mem _ (List.mem_cons_of_mem _ (List.mem_cons_of_mem _ (List.mem_cons_self)))))))))))))))))))))
theorem u_34_20 : (Cond.methodLink RX9 180 yX7_daysOf) ∈ uU := uT_33 _ (List.mem_append_left _ (List.mem_cons_of_mem _ (List.mem_cons_of_mem _ (List.mem_cons_of_mem _ (List.mem_cons_of_mem _ (List.mem_cons_of_mem _ (List.mem_cons_of_mem _ (List.mem_cons_of_mem _ (List.mem_cons_of_mem _ (List.mem_cons_of_mem _ (List.mem_cons_of_mem _ (List.mem_cons_of_mem _ (List.mem_cons_of_mem _ (List.mem_cons_of_mem _ (List.mem_cons_of_mem _ (List.mem_cons_of_mem _ (List.mem_cons_of_mem _ (List.mem_cons_of_mem _ (List.mem_cons_of_mem _ (List.mem_cons_of_mem _ (List.mem_cons_of_mem _ (List.mem_cons_self))))))))))))))))))))))
theorem u_34_21 : (Cond.instanceMethod yX7_daysOf) ∈ uU := uT_33 _ (List.mem_append_left _ (List.mem_cons_of_mem _ (List.mem_cons_of_mem _ (List.mem_cons_of_mem _ (List.mem_cons_of_mem _ (List.mem_cons_of_mem _ (List.mem_cons_of_mem _ (List.mem_cons_of_mem _ (List.mem_cons_of_mem _ (List.mem_cons_of_mem _ (List.mem_cons_of_mem _ (List.mem_cons_of_mem _ (List.mem_cons_of_mem _ (List.mem_cons_of_mem _ (List.mem_cons_of_mem _ (List.mem_cons_of_mem _ (List.mem_cons_of_mem _ (List.mem_cons_of_mem _ (List.mem_cons_of_mem _ (List.mem_cons_of_mem _ (List.mem_cons_of_mem _ (List.mem_cons_of_mem _ (List.mem_cons_self)))))))))))))))))))))))
theorem u_34_22 : (Cond.selects RX7 yX7_daysOf yX7_daysOf) ∈ uU := uT_33 _ (List.mem_append_left _ (List.mem_cons_of_mem _ (List.mem_cons_of_mem _ (List.mem_cons_of_mem _ (List.mem_cons_of_mem _ (List.mem_cons_of_mem _ (List.mem_cons_of_mem _ (List.mem_cons_of_mem _ (List.mem_cons_of_mem _ (List.mem_cons_of_mem _ (List.mem_cons_of_mem _ (List.mem_cons_of_mem _ (List.mem_cons_of_mem _ (List.mem_cons_of_mem _ (List.mem_cons_of_mem _ (List.mem_cons_of_mem _ (List.mem_cons_of_mem _ (List.mem_cons_of_mem _ (List.mem_cons_of_mem _ (List.mem_cons_of_mem _ (List.mem_cons_of_mem _ (List.mem_cons_of_mem _ (List.mem_cons_of_mem _ (List.mem_cons_self))))))))))))))))))))))))
theorem u_34_23 : (Cond.code yX7_daysOf cX7_daysOf 2 (some .int)) ∈ uU := uT_33 _ (List.mem_append_left _ (List.mem_cons_of_mem _ (List.mem_cons_of_mem _ (List.mem_cons_of_mem _ (List.mem_cons_of_mem _ (List.mem_cons_of_mem _ (List.mem_cons_of_mem _ (List.mem_cons_of_mem _ (List.mem_cons_of_mem _ (List.mem_cons_of_mem _ (List.mem_cons_of_mem _ (List.mem_cons_of_mem _ (List.mem_cons_of_mem _ (List.mem_cons_of_mem _ (List.mem_cons_of_mem _ (List.mem_cons_of_mem _ (List.mem_cons_of_mem _ (List.mem_cons_of_mem _ (List.mem_cons_of_mem _ (List.mem_cons_of_mem _ (List.mem_cons_of_mem _ (List.mem_cons_of_mem _ (List.mem_cons_of_mem _ (List.mem_cons_of_mem _ (List.mem_cons_self)))))))))))))))))))))))))
theorem u_35_0 : (Cond.methodLink RL 113 yX10_run) ∈ uU := uT_34 _ (List.mem_append_left _ (List.mem_cons_self))
theorem u_35_1 : (Cond.instanceMethod yX10_run) ∈ uU := uT_34 _ (List.mem_append_left _ (List.mem_cons_of_mem _ (List.mem_cons_self)))
theorem u_35_2 : (Cond.selects RX10 yX10_run yX10_run) ∈ uU := uT_34 _ (List.mem_append_left _ (List.mem_cons_of_mem _ (List.mem_cons_of_mem _ (List.mem_cons_self))))
theorem u_35_3 : (Cond.code yX10_run cX10_run 10 (some .int)) ∈ uU := uT_34 _ (List.mem_append_left _ (List.mem_cons_of_mem _ (List.mem_cons_of_mem _ (List.mem_cons_of_mem _ (List.mem_cons_self)))))
theorem u_35_4 : (Cond.constant RX10 241 (1103515245)) ∈ uU := uT_34 _ (List.mem_append_left _ (List.mem_cons_of_mem _ (List.mem_cons_of_mem _ (List.mem_cons_of_mem _ (List.mem_cons_of_mem _ (List.mem_cons_self))))))
theorem u_35_5 : (Cond.methodLink RX10 242 yX10_goesTo) ∈ uU := uT_34 _ (List.mem_append_left _ (List.mem_cons_of_mem _ (List.mem_cons_of_mem _ (List.mem_cons_of_mem _ (List.mem_cons_of_mem _ (List.mem_cons_of_mem _ (List.mem_cons_self)))))))
theorem u_35_6 : (Cond.instanceMethod yX10_goesTo) ∈ uU := uT_34 _ (List.mem_append_left _ (List.mem_cons_of_mem _ (List.mem_cons_of_mem _ (List.mem_cons_of_mem _ (List.mem_cons_of_mem _ (List.mem_cons_of_mem _ (List.mem_cons_of_mem _ (List.mem_cons_self))))))))
theorem u_35_7 : (Cond.selects RX10 yX10_goesTo yX10_goesTo) ∈ uU := uT_34 _ (List.mem_append_left _ (List.mem_cons_of_mem _ (List.mem_cons_of_mem _ (List.mem_cons_of_mem _ (List.mem_cons_of_mem _ (List.mem_cons_of_mem _ (List.mem_cons_of_mem _ (List.mem_cons_of_mem _ (List.mem_cons_self)))))))))
theorem u_35_8 : (Cond.code yX10_goesTo cX10_goesTo 6 (some .int)) ∈ uU := uT_34 _ (List.mem_append_left _ (List.mem_cons_of_mem _ (List.mem_cons_of_mem _ (List.mem_cons_of_mem _ (List.mem_cons_of_mem _ (List.mem_cons_of_mem _ (List.mem_cons_of_mem _ (List.mem_cons_of_mem _ (List.mem_cons_of_mem _ (List.mem_cons_self))))))))))
theorem u_35_9 : (Cond.methodLink RL 114 yX9_reach) ∈ uU := uT_34 _ (List.mem_append_left _ (List.mem_cons_of_mem _ (List.mem_cons_of_mem _ (List.mem_cons_of_mem _ (List.mem_cons_of_mem _ (List.mem_cons_of_mem _ (List.mem_cons_of_mem _ (List.mem_cons_of_mem _ (List.mem_cons_of_mem _ (List.mem_cons_of_mem _ (List.mem_cons_self)))))))))))
theorem u_35_10 : (Cond.instanceMethod yX9_reach) ∈ uU := uT_34 _ (List.mem_append_left _ (List.mem_cons_of_mem _ (List.mem_cons_of_mem _ (List.mem_cons_of_mem _ (List.mem_cons_of_mem _ (List.mem_cons_of_mem _ (List.mem_cons_of_mem _ (List.mem_cons_of_mem _ (List.mem_cons_of_mem _ (List.mem_cons_of_mem _ (List.mem_cons_of_mem _ (List.mem_cons_self))))))))))))
theorem u_35_11 : (Cond.selects RX9 yX9_reach yX9_reach) ∈ uU := uT_34 _ (List.mem_append_left _ (List.mem_cons_of_mem _ (List.mem_cons_of_mem _ (List.mem_cons_of_mem _ (List.mem_cons_of_mem _ (List.mem_cons_of_mem _ (List.mem_cons_of_mem _ (List.mem_cons_of_mem _ (List.mem_cons_of_mem _ (List.mem_cons_of_mem _ (List.mem_cons_of_mem _ (List.mem_cons_of_mem _ (List.mem_cons_self)))))))))))))
theorem u_35_12 : (Cond.code yX9_reach cX9_reach 3 (some .int)) ∈ uU := uT_34 _ (List.mem_append_left _ (List.mem_cons_of_mem _ (List.mem_cons_of_mem _ (List.mem_cons_of_mem _ (List.mem_cons_of_mem _ (List.mem_cons_of_mem _ (List.mem_cons_of_mem _ (List.mem_cons_of_mem _ (List.mem_cons_of_mem _ (List.mem_cons_of_mem _ (List.mem_cons_of_mem _ (List.mem_cons_of_mem _ (List.mem_cons_of_mem _ (List.mem_cons_self))))))))))))))
theorem u_35_13 : (Cond.methodLink RX9 183 yX7_lookAhead) ∈ uU := uT_34 _ (List.mem_append_left _ (List.mem_cons_of_mem _ (List.mem_cons_of_mem _ (List.mem_cons_of_mem _ (List.mem_cons_of_mem _ (List.mem_cons_of_mem _ (List.mem_cons_of_mem _ (List.mem_cons_of_mem _ (List.mem_cons_of_mem _ (List.mem_cons_of_mem _ (List.mem_cons_of_mem _ (List.mem_cons_of_mem _ (List.mem_cons_of_mem _ (List.mem_cons_of_mem _ (List.mem_cons_self)))))))))))))))
theorem u_35_14 : (Cond.instanceMethod yX7_lookAhead) ∈ uU := uT_34 _ (List.mem_append_left _ (List.mem_cons_of_mem _ (List.mem_cons_of_mem _ (List.mem_cons_of_mem _ (List.mem_cons_of_mem _ (List.mem_cons_of_mem _ (List.mem_cons_of_mem _ (List.mem_cons_of_mem _ (List.mem_cons_of_mem _ (List.mem_cons_of_mem _ (List.mem_cons_of_mem _ (List.mem_cons_of_mem _ (List.mem_cons_of_mem _ (List.mem_cons_of_mem _ (List.mem_cons_of_mem _ (List.mem_cons_self))))))))))))))))
theorem u_35_15 : (Cond.selects RX7 yX7_lookAhead yX7_lookAhead) ∈ uU := uT_34 _ (List.mem_append_left _ (List.mem_cons_of_mem _ (List.mem_cons_of_mem _ (List.mem_cons_of_mem _ (List.mem_cons_of_mem _ (List.mem_cons_of_mem _ (List.mem_cons_of_mem _ (List.mem_cons_of_mem _ (List.mem_cons_of_mem _ (List.mem_cons_of_mem _ (List.mem_cons_of_mem _ (List.mem_cons_of_mem _ (List.mem_cons_of_mem _ (List.mem_cons_of_mem _ (List.mem_cons_of_mem _ (List.mem_cons_of_mem _ (List.mem_cons_self)))))))))))))))))
theorem u_35_16 : (Cond.code yX7_lookAhead cX7_lookAhead 2 none) ∈ uU := uT_34 _ (List.mem_append_left _ (List.mem_cons_of_mem _ (List.mem_cons_of_mem _ (List.mem_cons_of_mem _ (List.mem_cons_of_mem _ (List.mem_cons_of_mem _ (List.mem_cons_of_mem _ (List.mem_cons_of_mem _ (List.mem_cons_of_mem _ (List.mem_cons_of_mem _ (List.mem_cons_of_mem _ (List.mem_cons_of_mem _ (List.mem_cons_of_mem _ (List.mem_cons_of_mem _ (List.mem_cons_of_mem _ (List.mem_cons_of_mem _ (List.mem_cons_of_mem _ (List.mem_cons_self))))))))))))))))))
theorem u_35_17 : (Cond.methodLink RX9 186 yX7_reached) ∈ uU := uT_34 _ (List.mem_append_left _ (List.mem_cons_of_mem _ (List.mem_cons_of_mem _ (List.mem_cons_of_mem _ (List.mem_cons_of_mem _ (List.mem_cons_of_mem _ (List.mem_cons_of_mem _ (List.mem_cons_of_mem _ (List.mem_cons_of_mem _ (List.mem_cons_of_mem _ (List.mem_cons_of_mem _ (List.mem_cons_of_mem _ (List.mem_cons_of_mem _ (List.mem_cons_of_mem _ (List.mem_cons_of_mem _ (List.mem_cons_of_mem _ (List.mem_cons_of_mem _ (List.mem_cons_of_mem _ (List.mem_cons_self)))))))))))))))))))
theorem u_35_18 : (Cond.instanceMethod yX7_reached) ∈ uU := uT_34 _ (List.mem_append_left _ (List.mem_cons_of_mem _ (List.mem_cons_of_mem _ (List.mem_cons_of_mem _ (List.mem_cons_of_mem _ (List.mem_cons_of_mem _ (List.mem_cons_of_mem _ (List.mem_cons_of_mem _ (List.mem_cons_of_mem _ (List.mem_cons_of_mem _ (List.mem_cons_of_mem _ (List.mem_cons_of_mem _ (List.mem_cons_of_mem _ (List.mem_cons_of_mem _ (List.mem_cons_of_mem _ (List.mem_cons_of_mem _ (List.mem_cons_of_mem _ (List.mem_cons_of_mem _ (List.mem_cons_of_mem _ (List.mem_cons_self))))))))))))))))))))
theorem u_35_19 : (Cond.selects RX7 yX7_reached yX7_reached) ∈ uU := uT_34 _ (List.mem_append_left _ (List.mem_cons_of_mem _ (List.mem_cons_of_mem _ (List.mem_cons_of_mem _ (List.mem_cons_of_mem _ (List.mem_cons_of_mem _ (List.mem_cons_of_mem _ (List.mem_cons_of_mem _ (List.mem_cons_of_mem _ (List.mem_cons_of_mem _ (List.mem_cons_of_mem _ (List.mem_cons_of_mem _ (List.mem_cons_of_mem _ (List.mem_cons_of_mem _ (List.mem_cons_of_mem _ (List.mem_cons_of_mem _ (List.mem_cons_of_mem _ (List.mem_cons_of_mem _ (List.mem_cons_of_mem _ (List.mem_cons_of_mem _ (List.mem_cons_self)))))))))))))))))))))
theorem u_35_20 : (Cond.code yX7_reached cX7_reached 9 (some .int)) ∈ uU := uT_34 _ (List.mem_append_left _ (List.mem_cons_of_mem _ (List.mem_cons_of_mem _ (List.mem_cons_of_mem _ (List.mem_cons_of_mem _ (List.mem_cons_of_mem _ (List.mem_cons_of_mem _ (List.mem_cons_of_mem _ (List.mem_cons_of_mem _ (List.mem_cons_of_mem _ (List.mem_cons_of_mem _ (List.mem_cons_of_mem _ (List.mem_cons_of_mem _ (List.mem_cons_of_mem _ (List.mem_cons_of_mem _ (List.mem_cons_of_mem _ (List.mem_cons_of_mem _ (List.mem_cons_of_mem _ (List.mem_cons_of_mem _ (List.mem_cons_of_mem _ (List.mem_cons_of_mem _ (List.mem_cons_self))))))))))))))))))))))
theorem u_35_21 : (Cond.methodLink RL 117 yX10_reach) ∈ uU := uT_34 _ (List.mem_append_left _ (List.mem_cons_of_mem _ (List.mem_cons_of_mem _ (List.mem_cons_of_mem _ (List.mem_cons_of_mem _ (List.mem_cons_of_mem _ (List.mem_cons_of_mem _ (List.mem_cons_of_mem _ (List.mem_cons_of_mem _ (List.mem_cons_of_mem _ (List.mem_cons_of_mem _ (List.mem_cons_of_mem _ (List.mem_cons_of_mem _ (List.mem_cons_of_mem _ (List.mem_cons_of_mem _ (List.mem_cons_of_mem _ (List.mem_cons_of_mem _ (List.mem_cons_of_mem _ (List.mem_cons_of_mem _ (List.mem_cons_of_mem _ (List.mem_cons_of_mem _ (List.mem_cons_of_mem _ (List.mem_cons_self)))))))))))))))))))))))
theorem u_35_22 : (Cond.instanceMethod yX10_reach) ∈ uU := uT_34 _ (List.mem_append_left _ (List.mem_cons_of_mem _ (List.mem_cons_of_mem _ (List.mem_cons_of_mem _ (List.mem_cons_of_mem _ (List.mem_cons_of_mem _ (List.mem_cons_of_mem _ (List.mem_cons_of_mem _ (List.mem_cons_of_mem _ (List.mem_cons_of_mem _ (List.mem_cons_of_mem _ (List.mem_cons_of_mem _ (List.mem_cons_of_mem _ (List.mem_cons_of_mem _ (List.mem_cons_of_mem _ (List.mem_cons_of_mem _ (List.mem_cons_of_mem _ (List.mem_cons_of_mem _ (List.mem_cons_of_mem _ (List.mem_cons_of_mem _ (List.mem_cons_of_mem _ (List.mem_cons_of_mem _ (List.mem_cons_of_mem _ (List.mem_cons_self))))))))))))))))))))))))
theorem u_35_23 : (Cond.selects RX10 yX10_reach yX10_reach) ∈ uU := uT_34 _ (List.mem_append_left _ (List.mem_cons_of_mem _ (List.mem_cons_of_mem _ (List.mem_cons_of_mem _ (List.mem_cons_of_mem _ (List.mem_cons_of_mem _ (List.mem_cons_of_mem _ (List.mem_cons_of_mem _ (List.mem_cons_of_mem _ (List.mem_cons_of_mem _ (List.mem_cons_of_mem _ (List.mem_cons_of_mem _ (List.mem_cons_of_mem _ (List.mem_cons_of_mem _ (List.mem_cons_of_mem _ (List.mem_cons_of_mem _ (List.mem_cons_of_mem _ (List.mem_cons_of_mem _ (List.mem_cons_of_mem _ (List.mem_cons_of_mem _ (List.mem_cons_of_mem _ (List.mem_cons_of_mem _ (List.mem_cons_of_mem _ (List.mem_cons_of_mem _ (List.mem_cons_self)))))))))))))))))))))))))
theorem u_36_0 : (Cond.code yX10_reach cX10_reach 3 (some .int)) ∈ uU := uT_35 _ (List.mem_append_left _ (List.mem_cons_self))
theorem u_36_1 : (Cond.methodLink RX10 245 yX10_reachOf) ∈ uU := uT_35 _ (List.mem_append_left _ (List.mem_cons_of_mem _ (List.mem_cons_self)))
theorem u_36_2 : (Cond.instanceMethod yX10_reachOf) ∈ uU := uT_35 _ (List.mem_append_left _ (List.mem_cons_of_mem _ (List.mem_cons_of_mem _ (List.mem_cons_self))))
theorem u_36_3 : (Cond.selects RX10 yX10_reachOf yX10_reachOf) ∈ uU := uT_35 _ (List.mem_append_left _ (List.mem_cons_of_mem _ (List.mem_cons_of_mem _ (List.mem_cons_of_mem _ (List.mem_cons_self)))))
theorem u_36_4 : (Cond.code yX10_reachOf cX10_reachOf 6 (some .int)) ∈ uU := uT_35 _ (List.mem_append_left _ (List.mem_cons_of_mem _ (List.mem_cons_of_mem _ (List.mem_cons_of_mem _ (List.mem_cons_of_mem _ (List.mem_cons_self))))))
theorem u_36_5 : (Cond.methodLink RL 118 yX9_stop) ∈ uU := uT_35 _ (List.mem_append_left _ (List.mem_cons_of_mem _ (List.mem_cons_of_mem _ (List.mem_cons_of_mem _ (List.mem_cons_of_mem _ (List.mem_cons_of_mem _ (List.mem_cons_self)))))))
theorem u_36_6 : (Cond.instanceMethod yX9_stop) ∈ uU := uT_35 _ (List.mem_append_left _ (List.mem_cons_of_mem _ (List.mem_cons_of_mem _ (List.mem_cons_of_mem _ (List.mem_cons_of_mem _ (List.mem_cons_of_mem _ (List.mem_cons_of_mem _ (List.mem_cons_self))))))))
theorem u_36_7 : (Cond.selects RX9 yX9_stop yX9_stop) ∈ uU := uT_35 _ (List.mem_append_left _ (List.mem_cons_of_mem _ (List.mem_cons_of_mem _ (List.mem_cons_of_mem _ (List.mem_cons_of_mem _ (List.mem_cons_of_mem _ (List.mem_cons_of_mem _ (List.mem_cons_of_mem _ (List.mem_cons_self)))))))))
theorem u_36_8 : (Cond.code yX9_stop cX9_stop 3 (some .int)) ∈ uU := uT_35 _ (List.mem_append_left _ (List.mem_cons_of_mem _ (List.mem_cons_of_mem _ (List.mem_cons_of_mem _ (List.mem_cons_of_mem _ (List.mem_cons_of_mem _ (List.mem_cons_of_mem _ (List.mem_cons_of_mem _ (List.mem_cons_of_mem _ (List.mem_cons_self))))))))))
theorem u_36_9 : (Cond.methodLink RX9 189 yX7_fewestTold) ∈ uU := uT_35 _ (List.mem_append_left _ (List.mem_cons_of_mem _ (List.mem_cons_of_mem _ (List.mem_cons_of_mem _ (List.mem_cons_of_mem _ (List.mem_cons_of_mem _ (List.mem_cons_of_mem _ (List.mem_cons_of_mem _ (List.mem_cons_of_mem _ (List.mem_cons_of_mem _ (List.mem_cons_self)))))))))))
theorem u_36_10 : (Cond.instanceMethod yX7_fewestTold) ∈ uU := uT_35 _ (List.mem_append_left _ (List.mem_cons_of_mem _ (List.mem_cons_of_mem _ (List.mem_cons_of_mem _ (List.mem_cons_of_mem _ (List.mem_cons_of_mem _ (List.mem_cons_of_mem _ (List.mem_cons_of_mem _ (List.mem_cons_of_mem _ (List.mem_cons_of_mem _ (List.mem_cons_of_mem _ (List.mem_cons_self))))))))))))
theorem u_36_11 : (Cond.selects RX7 yX7_fewestTold yX7_fewestTold) ∈ uU := uT_35 _ (List.mem_append_left _ (List.mem_cons_of_mem _ (List.mem_cons_of_mem _ (List.mem_cons_of_mem _ (List.mem_cons_of_mem _ (List.mem_cons_of_mem _ (List.mem_cons_of_mem _ (List.mem_cons_of_mem _ (List.mem_cons_of_mem _ (List.mem_cons_of_mem _ (List.mem_cons_of_mem _ (List.mem_cons_of_mem _ (List.mem_cons_self)))))))))))))
theorem u_36_12 : (Cond.code yX7_fewestTold cX7_fewestTold 6 (some .int)) ∈ uU := uT_35 _ (List.mem_append_left _ (List.mem_cons_of_mem _ (List.mem_cons_of_mem _ (List.mem_cons_of_mem _ (List.mem_cons_of_mem _ (List.mem_cons_of_mem _ (List.mem_cons_of_mem _ (List.mem_cons_of_mem _ (List.mem_cons_of_mem _ (List.mem_cons_of_mem _ (List.mem_cons_of_mem _ (List.mem_cons_of_mem _ (List.mem_cons_of_mem _ (List.mem_cons_self))))))))))))))
theorem u_36_13 : (Cond.methodLink RX7 40 yX7_reached) ∈ uU := uT_35 _ (List.mem_append_left _ (List.mem_cons_of_mem _ (List.mem_cons_of_mem _ (List.mem_cons_of_mem _ (List.mem_cons_of_mem _ (List.mem_cons_of_mem _ (List.mem_cons_of_mem _ (List.mem_cons_of_mem _ (List.mem_cons_of_mem _ (List.mem_cons_of_mem _ (List.mem_cons_of_mem _ (List.mem_cons_of_mem _ (List.mem_cons_of_mem _ (List.mem_cons_of_mem _ (List.mem_cons_self)))))))))))))))
theorem u_36_14 : (Cond.methodLink RX7 44 yJ6_bitCount_0f7a4) ∈ uU := uT_35 _ (List.mem_append_left _ (List.mem_cons_of_mem _ (List.mem_cons_of_mem _ (List.mem_cons_of_mem _ (List.mem_cons_of_mem _ (List.mem_cons_of_mem _ (List.mem_cons_of_mem _ (List.mem_cons_of_mem _ (List.mem_cons_of_mem _ (List.mem_cons_of_mem _ (List.mem_cons_of_mem _ (List.mem_cons_of_mem _ (List.mem_cons_of_mem _ (List.mem_cons_of_mem _ (List.mem_cons_of_mem _ (List.mem_cons_self))))))))))))))))
theorem u_36_15 : (Cond.static yJ6_bitCount_0f7a4) ∈ uU := uT_35 _ (List.mem_append_left _ (List.mem_cons_of_mem _ (List.mem_cons_of_mem _ (List.mem_cons_of_mem _ (List.mem_cons_of_mem _ (List.mem_cons_of_mem _ (List.mem_cons_of_mem _ (List.mem_cons_of_mem _ (List.mem_cons_of_mem _ (List.mem_cons_of_mem _ (List.mem_cons_of_mem _ (List.mem_cons_of_mem _ (List.mem_cons_of_mem _ (List.mem_cons_of_mem _ (List.mem_cons_of_mem _ (List.mem_cons_of_mem _ (List.mem_cons_self)))))))))))))))))
theorem u_36_16 : (Cond.initialized RJ6) ∈ uU := uT_35 _ (List.mem_append_left _ (List.mem_cons_of_mem _ (List.mem_cons_of_mem _ (List.mem_cons_of_mem _ (List.mem_cons_of_mem _ (List.mem_cons_of_mem _ (List.mem_cons_of_mem _ (List.mem_cons_of_mem _ (List.mem_cons_of_mem _ (List.mem_cons_of_mem _ (List.mem_cons_of_mem _ (List.mem_cons_of_mem _ (List.mem_cons_of_mem _ (List.mem_cons_of_mem _ (List.mem_cons_of_mem _ (List.mem_cons_of_mem _ (List.mem_cons_of_mem _ (List.mem_cons_self))))))))))))))))))
theorem u_36_17 : (Cond.code yJ6_bitCount_0f7a4 cJ6_bitCount_0f7a4 1 (some .int)) ∈ uU := uT_35 _ (List.mem_append_left _ (List.mem_cons_of_mem _ (List.mem_cons_of_mem _ (List.mem_cons_of_mem _ (List.mem_cons_of_mem _ (List.mem_cons_of_mem _ (List.mem_cons_of_mem _ (List.mem_cons_of_mem _ (List.mem_cons_of_mem _ (List.mem_cons_of_mem _ (List.mem_cons_of_mem _ (List.mem_cons_of_mem _ (List.mem_cons_of_mem _ (List.mem_cons_of_mem _ (List.mem_cons_of_mem _ (List.mem_cons_of_mem _ (List.mem_cons_of_mem _ (List.mem_cons_of_mem _ (List.mem_cons_self)))))))))))))))))))
theorem u_36_18 : (Cond.constant RJ6 265 (1431655765)) ∈ uU := uT_35 _ (List.mem_append_left _ (List.mem_cons_of_mem _ (List.mem_cons_of_mem _ (List.mem_cons_of_mem _ (List.mem_cons_of_mem _ (List.mem_cons_of_mem _ (List.mem_cons_of_mem _ (List.mem_cons_of_mem _ (List.mem_cons_of_mem _ (List.mem_cons_of_mem _ (List.mem_cons_of_mem _ (List.mem_cons_of_mem _ (List.mem_cons_of_mem _ (List.mem_cons_of_mem _ (List.mem_cons_of_mem _ (List.mem_cons_of_mem _ (List.mem_cons_of_mem _ (List.mem_cons_of_mem _ (List.mem_cons_of_mem _ (List.mem_cons_self))))))))))))))))))))
theorem u_36_19 : (Cond.constant RJ6 266 (858993459)) ∈ uU := uT_35 _ (List.mem_append_left _ (List.mem_cons_of_mem _ (List.mem_cons_of_mem _ (List.mem_cons_of_mem _ (List.mem_cons_of_mem _ (List.mem_cons_of_mem _ (List.mem_cons_of_mem _ (List.mem_cons_of_mem _ (List.mem_cons_of_mem _ (List.mem_cons_of_mem _ (List.mem_cons_of_mem _ (List.mem_cons_of_mem _ (List.mem_cons_of_mem _ (List.mem_cons_of_mem _ (List.mem_cons_of_mem _ (List.mem_cons_of_mem _ (List.mem_cons_of_mem _ (List.mem_cons_of_mem _ (List.mem_cons_of_mem _ (List.mem_cons_of_mem _ (List.mem_cons_self)))))))))))))))))))))
theorem u_36_20 : (Cond.constant RJ6 267 (252645135)) ∈ uU := uT_35 _ (List.mem_append_left _ (List.mem_cons_of_mem _ (List.mem_cons_of_mem _ (List.mem_cons_of_mem _ (List.mem_cons_of_mem _ (List.mem_cons_of_mem _ (List.mem_cons_of_mem _ (List.mem_cons_of_mem _ (List.mem_cons_of_mem _ (List.mem_cons_of_mem _ (List.mem_cons_of_mem _ (List.mem_cons_of_mem _ (List.mem_cons_of_mem _ (List.mem_cons_of_mem _ (List.mem_cons_of_mem _ (List.mem_cons_of_mem _ (List.mem_cons_of_mem _ (List.mem_cons_of_mem _ (List.mem_cons_of_mem _ (List.mem_cons_of_mem _ (List.mem_cons_of_mem _ (List.mem_cons_self))))))))))))))))))))))
theorem u_36_21 : (Cond.methodLink RL 121 yX10_stop) ∈ uU := uT_35 _ (List.mem_append_left _ (List.mem_cons_of_mem _ (List.mem_cons_of_mem _ (List.mem_cons_of_mem _ (List.mem_cons_of_mem _ (List.mem_cons_of_mem _ (List.mem_cons_of_mem _ (List.mem_cons_of_mem _ (List.mem_cons_of_mem _ (List.mem_cons_of_mem _ (List.mem_cons_of_mem _ (List.mem_cons_of_mem _ (List.mem_cons_of_mem _ (List.mem_cons_of_mem _ (List.mem_cons_of_mem _ (List.mem_cons_of_mem _ (List.mem_cons_of_mem _ (List.mem_cons_of_mem _ (List.mem_cons_of_mem _ (List.mem_cons_of_mem _ (List.mem_cons_of_mem _ (List.mem_cons_of_mem _ (List.mem_cons_self)))))))))))))))))))))))
theorem u_36_22 : (Cond.instanceMethod yX10_stop) ∈ uU := uT_35 _ (List.mem_append_left _ (List.mem_cons_of_mem _ (List.mem_cons_of_mem _ (List.mem_cons_of_mem _ (List.mem_cons_of_mem _ (List.mem_cons_of_mem _ (List.mem_cons_of_mem _ (List.mem_cons_of_mem _ (List.mem_cons_of_mem _ (List.mem_cons_of_mem _ (List.mem_cons_of_mem _ (List.mem_cons_of_mem _ (List.mem_cons_of_mem _ (List.mem_cons_of_mem _ (List.mem_cons_of_mem _ (List.mem_cons_of_mem _ (List.mem_cons_of_mem _ (List.mem_cons_of_mem _ (List.mem_cons_of_mem _ (List.mem_cons_of_mem _ (List.mem_cons_of_mem _ (List.mem_cons_of_mem _ (List.mem_cons_of_mem _ (List.mem_cons_self))))))))))))))))))))))))
theorem u_36_23 : (Cond.selects RX10 yX10_stop yX10_stop) ∈ uU := uT_35 _ (List.mem_append_left _ (List.mem_cons_of_mem _ (List.mem_cons_of_mem _ (List.mem_cons_of_mem _ (List.mem_cons_of_mem _ (List.mem_cons_of_mem _ (List.mem_cons_of_mem _ (List.mem_cons_of_mem _ (List.mem_cons_of_mem _ (List.mem_cons_of_mem _ (List.mem_cons_of_mem _ (List.mem_cons_of_mem _ (List.mem_cons_of_mem _ (List.mem_cons_of_mem _ (List.mem_cons_of_mem _ (List.mem_cons_of_mem _ (List.mem_cons_of_mem _ (List.mem_cons_of_mem _ (List.mem_cons_of_mem _ (List.mem_cons_of_mem _ (List.mem_cons_of_mem _ (List.mem_cons_of_mem _ (List.mem_cons_of_mem _ (List.mem_cons_of_mem _ (List.mem_cons_self)))))))))))))))))))))))))
theorem u_37_0 : (Cond.code yX10_stop cX10_stop 6 (some .int)) ∈ uU := uT_36 _ (List.mem_append_left _ (List.mem_cons_self))
theorem u_37_1 : (Cond.constantLong RX10 248 (10)) ∈ uU := uT_36 _ (List.mem_append_left _ (List.mem_cons_of_mem _ (List.mem_cons_self)))
theorem u_37_2 : (Cond.methodLink RX10 250 yX10_sizeOf) ∈ uU := uT_36 _ (List.mem_append_left _ (List.mem_cons_of_mem _ (List.mem_cons_of_mem _ (List.mem_cons_self))))
theorem u_37_3 : (Cond.static yX10_sizeOf) ∈ uU := uT_36 _ (List.mem_append_left _ (List.mem_cons_of_mem _ (List.mem_cons_of_mem _ (List.mem_cons_of_mem _ (List.mem_cons_self)))))
theorem u_37_4 : (Cond.code yX10_sizeOf cX10_sizeOf 3 (some .int)) ∈ uU := uT_36 _ (List.mem_append_left _ (List.mem_cons_of_mem _ (List.mem_cons_of_mem _ (List.mem_cons_of_mem _ (List.mem_cons_of_mem _ (List.mem_cons_self))))))
theorem u_37_5 : (Cond.methodLink RL 122 yX9_keep) ∈ uU := uT_36 _ (List.mem_append_left _ (List.mem_cons_of_mem _ (List.mem_cons_of_mem _ (List.mem_cons_of_mem _ (List.mem_cons_of_mem _ (List.mem_cons_of_mem _ (List.mem_cons_self)))))))
theorem u_37_6 : (Cond.instanceMethod yX9_keep) ∈ uU := uT_36 _ (List.mem_append_left _ (List.mem_cons_of_mem _ (List.mem_cons_of_mem _ (List.mem_cons_of_mem _ (List.mem_cons_of_mem _ (List.mem_cons_of_mem _ (List.mem_cons_of_mem _ (List.mem_cons_self))))))))
theorem u_37_7 : (Cond.selects RX9 yX9_keep yX9_keep) ∈ uU := uT_36 _ (List.mem_append_left _ (List.mem_cons_of_mem _ (List.mem_cons_of_mem _ (List.mem_cons_of_mem _ (List.mem_cons_of_mem _ (List.mem_cons_of_mem _ (List.mem_cons_of_mem _ (List.mem_cons_of_mem _ (List.mem_cons_self)))))))))
theorem u_37_8 : (Cond.code yX9_keep cX9_keep 2 (some .int)) ∈ uU := uT_36 _ (List.mem_append_left _ (List.mem_cons_of_mem _ (List.mem_cons_of_mem _ (List.mem_cons_of_mem _ (List.mem_cons_of_mem _ (List.mem_cons_of_mem _ (List.mem_cons_of_mem _ (List.mem_cons_of_mem _ (List.mem_cons_of_mem _ (List.mem_cons_self))))))))))
theorem u_37_9 : (Cond.fieldLink RX9 192 "ChainLetters$Box" "count" "I") ∈ uU := uT_36 _ (List.mem_append_left _ (List.mem_cons_of_mem _ (List.mem_cons_of_mem _ (List.mem_cons_of_mem _ (List.mem_cons_of_mem _ (List.mem_cons_of_mem _ (List.mem_cons_of_mem _ (List.mem_cons_of_mem _ (List.mem_cons_of_mem _ (List.mem_cons_of_mem _ (List.mem_cons_self)))))))))))
theorem u_37_10 : (Cond.methodLink RX9 193 yX1_add) ∈ uU := uT_36 _ (List.mem_append_left _ (List.mem_cons_of_mem _ (List.mem_cons_of_mem _ (List.mem_cons_of_mem _ (List.mem_cons_of_mem _ (List.mem_cons_of_mem _ (List.mem_cons_of_mem _ (List.mem_cons_of_mem _ (List.mem_cons_of_mem _ (List.mem_cons_of_mem _ (List.mem_cons_of_mem _ (List.mem_cons_self))))))))))))
theorem u_37_11 : (Cond.instanceMethod yX1_add) ∈ uU := uT_36 _ (List.mem_append_left _ (List.mem_cons_of_mem _ (List.mem_cons_of_mem _ (List.mem_cons_of_mem _ (List.mem_cons_of_mem _ (List.mem_cons_of_mem _ (List.mem_cons_of_mem _ (List.mem_cons_of_mem _ (List.mem_cons_of_mem _ (List.mem_cons_of_mem _ (List.mem_cons_of_mem _ (List.mem_cons_of_mem _ (List.mem_cons_self)))))))))))))
theorem u_37_12 : (Cond.selects RX1 yX1_add yX1_add) ∈ uU := uT_36 _ (List.mem_append_left _ (List.mem_cons_of_mem _ (List.mem_cons_of_mem _ (List.mem_cons_of_mem _ (List.mem_cons_of_mem _ (List.mem_cons_of_mem _ (List.mem_cons_of_mem _ (List.mem_cons_of_mem _ (List.mem_cons_of_mem _ (List.mem_cons_of_mem _ (List.mem_cons_of_mem _ (List.mem_cons_of_mem _ (List.mem_cons_of_mem _ (List.mem_cons_self))))))))))))))
theorem u_37_13 : (Cond.code yX1_add cX1_add 2 (some .int)) ∈ uU := uT_36 _ (List.mem_append_left _ (List.mem_cons_of_mem _ (List.mem_cons_of_mem _ (List.mem_cons_of_mem _ (List.mem_cons_of_mem _ (List.mem_cons_of_mem _ (List.mem_cons_of_mem _ (List.mem_cons_of_mem _ (List.mem_cons_of_mem _ (List.mem_cons_of_mem _ (List.mem_cons_of_mem _ (List.mem_cons_of_mem _ (List.mem_cons_of_mem _ (List.mem_cons_of_mem _ (List.mem_cons_self)))))))))))))))
theorem u_37_14 : (Cond.fieldLink RX1 18 "ChainLetters$Box" "count" "I") ∈ uU := uT_36 _ (List.mem_append_left _ (List.mem_cons_of_mem _ (List.mem_cons_of_mem _ (List.mem_cons_of_mem _ (List.mem_cons_of_mem _ (List.mem_cons_of_mem _ (List.mem_cons_of_mem _ (List.mem_cons_of_mem _ (List.mem_cons_of_mem _ (List.mem_cons_of_mem _ (List.mem_cons_of_mem _ (List.mem_cons_of_mem _ (List.mem_cons_of_mem _ (List.mem_cons_of_mem _ (List.mem_cons_of_mem _ (List.mem_cons_self))))))))))))))))
theorem u_37_15 : (Cond.methodLink RL 125 yX10_keep) ∈ uU := uT_36 _ (List.mem_append_left _ (List.mem_cons_of_mem _ (List.mem_cons_of_mem _ (List.mem_cons_of_mem _ (List.mem_cons_of_mem _ (List.mem_cons_of_mem _ (List.mem_cons_of_mem _ (List.mem_cons_of_mem _ (List.mem_cons_of_mem _ (List.mem_cons_of_mem _ (List.mem_cons_of_mem _ (List.mem_cons_of_mem _ (List.mem_cons_of_mem _ (List.mem_cons_of_mem _ (List.mem_cons_of_mem _ (List.mem_cons_of_mem _ (List.mem_cons_self)))))))))))))))))
theorem u_37_16 : (Cond.instanceMethod yX10_keep) ∈ uU := uT_36 _ (List.mem_append_left _ (List.mem_cons_of_mem _ (List.mem_cons_of_mem _ (List.mem_cons_of_mem _ (List.mem_cons_of_mem _ (List.mem_cons_of_mem _ (List.mem_cons_of_mem _ (List.mem_cons_of_mem _ (List.mem_cons_of_mem _ (List.mem_cons_of_mem _ (List.mem_cons_of_mem _ (List.mem_cons_of_mem _ (List.mem_cons_of_mem _ (List.mem_cons_of_mem _ (List.mem_cons_of_mem _ (List.mem_cons_of_mem _ (List.mem_cons_of_mem _ (List.mem_cons_self))))))))))))))))))
theorem u_37_17 : (Cond.selects RX10 yX10_keep yX10_keep) ∈ uU := uT_36 _ (List.mem_append_left _ (List.mem_cons_of_mem _ (List.mem_cons_of_mem _ (List.mem_cons_of_mem _ (List.mem_cons_of_mem _ (List.mem_cons_of_mem _ (List.mem_cons_of_mem _ (List.mem_cons_of_mem _ (List.mem_cons_of_mem _ (List.mem_cons_of_mem _ (List.mem_cons_of_mem _ (List.mem_cons_of_mem _ (List.mem_cons_of_mem _ (List.mem_cons_of_mem _ (List.mem_cons_of_mem _ (List.mem_cons_of_mem _ (List.mem_cons_of_mem _ (List.mem_cons_of_mem _ (List.mem_cons_self)))))))))))))))))))
theorem u_37_18 : (Cond.code yX10_keep cX10_keep 2 (some .int)) ∈ uU := uT_36 _ (List.mem_append_left _ (List.mem_cons_of_mem _ (List.mem_cons_of_mem _ (List.mem_cons_of_mem _ (List.mem_cons_of_mem _ (List.mem_cons_of_mem _ (List.mem_cons_of_mem _ (List.mem_cons_of_mem _ (List.mem_cons_of_mem _ (List.mem_cons_of_mem _ (List.mem_cons_of_mem _ (List.mem_cons_of_mem _ (List.mem_cons_of_mem _ (List.mem_cons_of_mem _ (List.mem_cons_of_mem _ (List.mem_cons_of_mem _ (List.mem_cons_of_mem _ (List.mem_cons_of_mem _ (List.mem_cons_of_mem _ (List.mem_cons_self))))))))))))))))))))
theorem u_37_19 : (Cond.fieldLink RX10 253 "ChainLettersModel" "kept" "I") ∈ uU := uT_36 _ (List.mem_append_left _ (List.mem_cons_of_mem _ (List.mem_cons_of_mem _ (List.mem_cons_of_mem _ (List.mem_cons_of_mem _ (List.mem_cons_of_mem _ (List.mem_cons_of_mem _ (List.mem_cons_of_mem _ (List.mem_cons_of_mem _ (List.mem_cons_of_mem _ (List.mem_cons_of_mem _ (List.mem_cons_of_mem _ (List.mem_cons_of_mem _ (List.mem_cons_of_mem _ (List.mem_cons_of_mem _ (List.mem_cons_of_mem _ (List.mem_cons_of_mem _ (List.mem_cons_of_mem _ (List.mem_cons_of_mem _ (List.mem_cons_of_mem _ (List.mem_cons_self)))))))))))))))))))))
theorem u_37_20 : (Cond.methodLink RL 126 yX9_burn) ∈ uU := uT_36 _ (List.mem_append_left _ (List.mem_cons_of_mem _ (List.mem_cons_of_mem _ (List.mem_cons_of_mem _ (List.mem_cons_of_mem _ (List.mem_cons_of_mem _ (List.mem_cons_of_mem _ (List.mem_cons_of_mem _ (List.mem_cons_of_mem _ (List.mem_cons_of_mem _ (List.mem_cons_of_mem _ (List.mem_cons_of_mem _ (List.mem_cons_of_mem _ (List.mem_cons_of_mem _ (List.mem_cons_of_mem _ (List.mem_cons_of_mem _ (List.mem_cons_of_mem _ (List.mem_cons_of_mem _ (List.mem_cons_of_mem _ (List.mem_cons_of_mem _ (List.mem_cons_of_mem _ (List.mem_cons_self))))))))))))))))))))))
theorem u_37_21 : (Cond.instanceMethod yX9_burn) ∈ uU := uT_36 _ (List.mem_append_left _ (List.mem_cons_of_mem _ (List.mem_cons_of_mem _ (List.mem_cons_of_mem _ (List.mem_cons_of_mem _ (List.mem_cons_of_mem _ (List.mem_cons_of_mem _ (List.mem_cons_of_mem _ (List.mem_cons_of_mem _ (List.mem_cons_of_mem _ (List.mem_cons_of_mem _ (List.mem_cons_of_mem _ (List.mem_cons_of_mem _ (List.mem_cons_of_mem _ (List.mem_cons_of_mem _ (List.mem_cons_of_mem _ (List.mem_cons_of_mem _ (List.mem_cons_of_mem _ (List.mem_cons_of_mem _ (List.mem_cons_of_mem _ (List.mem_cons_of_mem _ (List.mem_cons_of_mem _ (List.mem_cons_self)))))))))))))))))))))))
theorem u_37_22 : (Cond.selects RX9 yX9_burn yX9_burn) ∈ uU := uT_36 _ (List.mem_append_left _ (List.mem_cons_of_mem _ (List.mem_cons_of_mem _ (List.mem_cons_of_mem _ (List.mem_cons_of_mem _ (List.mem_cons_of_mem _ (List.mem_cons_of_mem _ (List.mem_cons_of_mem _ (List.mem_cons_of_mem _ (List.mem_cons_of_mem _ (List.mem_cons_of_mem _ (List.mem_cons_of_mem _ (List.mem_cons_of_mem _ (List.mem_cons_of_mem _ (List.mem_cons_of_mem _ (List.mem_cons_of_mem _ (List.mem_cons_of_mem _ (List.mem_cons_of_mem _ (List.mem_cons_of_mem _ (List.mem_cons_of_mem _ (List.mem_cons_of_mem _ (List.mem_cons_of_mem _ (List.mem_cons_of_mem _ (List.mem_cons_self))))))))))))))))))))))))
theorem u_37_23 : (Cond.code yX9_burn cX9_burn 1 (some .int)) ∈ uU := uT_36 _ (List.mem_append_left _ (List.mem_cons_of_mem _ (List.mem_cons_of_mem _ (List.mem_cons_of_mem _ (List.mem_cons_of_mem _ (List.mem_cons_of_mem _ (List.mem_cons_of_mem _ (List.mem_cons_of_mem _ (List.mem_cons_of_mem _ (List.mem_cons_of_mem _ (List.mem_cons_of_mem _ (List.mem_cons_of_mem _ (List.mem_cons_of_mem _ (List.mem_cons_of_mem _ (List.mem_cons_of_mem _ (List.mem_cons_of_mem _ (List.mem_cons_of_mem _ (List.mem_cons_of_mem _ (List.mem_cons_of_mem _ (List.mem_cons_of_mem _ (List.mem_cons_of_mem _ (List.mem_cons_of_mem _ (List.mem_cons_of_mem _ (List.mem_cons_of_mem _ (List.mem_cons_self)))))))))))))))))))))))))
theorem u_38_0 : (Cond.methodLink RX9 195 yX1_empty) ∈ uU := uT_37 _ (List.mem_append_left _ (List.mem_cons_self))
theorem u_38_1 : (Cond.instanceMethod yX1_empty) ∈ uU := uT_37 _ (List.mem_append_left _ (List.mem_cons_of_mem _ (List.mem_cons_self)))
theorem u_38_2 : (Cond.selects RX1 yX1_empty yX1_empty) ∈ uU := uT_37 _ (List.mem_append_left _ (List.mem_cons_of_mem _ (List.mem_cons_of_mem _ (List.mem_cons_self))))
theorem u_38_3 : (Cond.code yX1_empty cX1_empty 3 (some .int)) ∈ uU := uT_37 _ (List.mem_append_left _ (List.mem_cons_of_mem _ (List.mem_cons_of_mem _ (List.mem_cons_of_mem _ (List.mem_cons_self)))))
theorem u_38_4 : (Cond.methodLink RL 129 yX10_burn) ∈ uU := uT_37 _ (List.mem_append_left _ (List.mem_cons_of_mem _ (List.mem_cons_of_mem _ (List.mem_cons_of_mem _ (List.mem_cons_of_mem _ (List.mem_cons_self))))))
theorem u_38_5 : (Cond.instanceMethod yX10_burn) ∈ uU := uT_37 _ (List.mem_append_left _ (List.mem_cons_of_mem _ (List.mem_cons_of_mem _ (List.mem_cons_of_mem _ (List.mem_cons_of_mem _ (List.mem_cons_of_mem _ (List.mem_cons_self)))))))
theorem u_38_6 : (Cond.selects RX10 yX10_burn yX10_burn) ∈ uU := uT_37 _ (List.mem_append_left _ (List.mem_cons_of_mem _ (List.mem_cons_of_mem _ (List.mem_cons_of_mem _ (List.mem_cons_of_mem _ (List.mem_cons_of_mem _ (List.mem_cons_of_mem _ (List.mem_cons_self))))))))
theorem u_38_7 : (Cond.code yX10_burn cX10_burn 2 (some .int)) ∈ uU := uT_37 _ (List.mem_append_left _ (List.mem_cons_of_mem _ (List.mem_cons_of_mem _ (List.mem_cons_of_mem _ (List.mem_cons_of_mem _ (List.mem_cons_of_mem _ (List.mem_cons_of_mem _ (List.mem_cons_of_mem _ (List.mem_cons_self)))))))))
theorem u_38_8 : (Cond.methodLink RL 130 yX9_hidden) ∈ uU := uT_37 _ (List.mem_append_left _ (List.mem_cons_of_mem _ (List.mem_cons_of_mem _ (List.mem_cons_of_mem _ (List.mem_cons_of_mem _ (List.mem_cons_of_mem _ (List.mem_cons_of_mem _ (List.mem_cons_of_mem _ (List.mem_cons_of_mem _ (List.mem_cons_self))))))))))
theorem u_38_9 : (Cond.instanceMethod yX9_hidden) ∈ uU := uT_37 _ (List.mem_append_left _ (List.mem_cons_of_mem _ (List.mem_cons_of_mem _ (List.mem_cons_of_mem _ (List.mem_cons_of_mem _ (List.mem_cons_of_mem _ (List.mem_cons_of_mem _ (List.mem_cons_of_mem _ (List.mem_cons_of_mem _ (List.mem_cons_of_mem _ (List.mem_cons_self)))))))))))
theorem u_38_10 : (Cond.selects RX9 yX9_hidden yX9_hidden) ∈ uU := uT_37 _ (List.mem_append_left _ (List.mem_cons_of_mem _ (List.mem_cons_of_mem _ (List.mem_cons_of_mem _ (List.mem_cons_of_mem _ (List.mem_cons_of_mem _ (List.mem_cons_of_mem _ (List.mem_cons_of_mem _ (List.mem_cons_of_mem _ (List.mem_cons_of_mem _ (List.mem_cons_of_mem _ (List.mem_cons_self))))))))))))
theorem u_38_11 : (Cond.code yX9_hidden cX9_hidden 7 (some .int)) ∈ uU := uT_37 _ (List.mem_append_left _ (List.mem_cons_of_mem _ (List.mem_cons_of_mem _ (List.mem_cons_of_mem _ (List.mem_cons_of_mem _ (List.mem_cons_of_mem _ (List.mem_cons_of_mem _ (List.mem_cons_of_mem _ (List.mem_cons_of_mem _ (List.mem_cons_of_mem _ (List.mem_cons_of_mem _ (List.mem_cons_of_mem _ (List.mem_cons_self)))))))))))))
theorem u_38_12 : (Cond.fieldLink RX9 201 "ChainLetters$Box" "keptOnce" "I") ∈ uU := uT_37 _ (List.mem_append_left _ (List.mem_cons_of_mem _ (List.mem_cons_of_mem _ (List.mem_cons_of_mem _ (List.mem_cons_of_mem _ (List.mem_cons_of_mem _ (List.mem_cons_of_mem _ (List.mem_cons_of_mem _ (List.mem_cons_of_mem _ (List.mem_cons_of_mem _ (List.mem_cons_of_mem _ (List.mem_cons_of_mem _ (List.mem_cons_of_mem _ (List.mem_cons_self))))))))))))))
theorem u_38_13 : (Cond.fieldLink RX9 204 "ChainLetters$Box" "keptTwice" "I") ∈ uU := uT_37 _ (List.mem_append_left _ (List.mem_cons_of_mem _ (List.mem_cons_of_mem _ (List.mem_cons_of_mem _ (List.mem_cons_of_mem _ (List.mem_cons_of_mem _ (List.mem_cons_of_mem _ (List.mem_cons_of_mem _ (List.mem_cons_of_mem _ (List.mem_cons_of_mem _ (List.mem_cons_of_mem _ (List.mem_cons_of_mem _ (List.mem_cons_of_mem _ (List.mem_cons_of_mem _ (List.mem_cons_self)))))))))))))))
theorem u_38_14 : (Cond.fieldLink RX9 207 "ChainLetters$Box" "keptAtAll" "I") ∈ uU := uT_37 _ (List.mem_append_left _ (List.mem_cons_of_mem _ (List.mem_cons_of_mem _ (List.mem_cons_of_mem _ (List.mem_cons_of_mem _ (List.mem_cons_of_mem _ (List.mem_cons_of_mem _ (List.mem_cons_of_mem _ (List.mem_cons_of_mem _ (List.mem_cons_of_mem _ (List.mem_cons_of_mem _ (List.mem_cons_of_mem _ (List.mem_cons_of_mem _ (List.mem_cons_of_mem _ (List.mem_cons_of_mem _ (List.mem_cons_self))))))))))))))))
theorem u_38_15 : (Cond.constantLong RX9 210 (2)) ∈ uU := uT_37 _ (List.mem_append_left _ (List.mem_cons_of_mem _ (List.mem_cons_of_mem _ (List.mem_cons_of_mem _ (List.mem_cons_of_mem _ (List.mem_cons_of_mem _ (List.mem_cons_of_mem _ (List.mem_cons_of_mem _ (List.mem_cons_of_mem _ (List.mem_cons_of_mem _ (List.mem_cons_of_mem _ (List.mem_cons_of_mem _ (List.mem_cons_of_mem _ (List.mem_cons_of_mem _ (List.mem_cons_of_mem _ (List.mem_cons_of_mem _ (List.mem_cons_self)))))))))))))))))
theorem u_38_16 : (Cond.methodLink RX9 198 yX1_tally) ∈ uU := uT_37 _ (List.mem_append_left _ (List.mem_cons_of_mem _ (List.mem_cons_of_mem _ (List.mem_cons_of_mem _ (List.mem_cons_of_mem _ (List.mem_cons_of_mem _ (List.mem_cons_of_mem _ (List.mem_cons_of_mem _ (List.mem_cons_of_mem _ (List.mem_cons_of_mem _ (List.mem_cons_of_mem _ (List.mem_cons_of_mem _ (List.mem_cons_of_mem _ (List.mem_cons_of_mem _ (List.mem_cons_of_mem _ (List.mem_cons_of_mem _ (List.mem_cons_of_mem _ (List.mem_cons_self))))))))))))))))))
theorem u_38_17 : (Cond.instanceMethod yX1_tally) ∈ uU := uT_37 _ (List.mem_append_left _ (List.mem_cons_of_mem _ (List.mem_cons_of_mem _ (List.mem_cons_of_mem _ (List.mem_cons_of_mem _ (List.mem_cons_of_mem _ (List.mem_cons_of_mem _ (List.mem_cons_of_mem _ (List.mem_cons_of_mem _ (List.mem_cons_of_mem _ (List.mem_cons_of_mem _ (List.mem_cons_of_mem _ (List.mem_cons_of_mem _ (List.mem_cons_of_mem _ (List.mem_cons_of_mem _ (List.mem_cons_of_mem _ (List.mem_cons_of_mem _ (List.mem_cons_of_mem _ (List.mem_cons_self)))))))))))))))))))
theorem u_38_18 : (Cond.selects RX1 yX1_tally yX1_tally) ∈ uU := uT_37 _ (List.mem_append_left _ (List.mem_cons_of_mem _ (List.mem_cons_of_mem _ (List.mem_cons_of_mem _ (List.mem_cons_of_mem _ (List.mem_cons_of_mem _ (List.mem_cons_of_mem _ (List.mem_cons_of_mem _ (List.mem_cons_of_mem _ (List.mem_cons_of_mem _ (List.mem_cons_of_mem _ (List.mem_cons_of_mem _ (List.mem_cons_of_mem _ (List.mem_cons_of_mem _ (List.mem_cons_of_mem _ (List.mem_cons_of_mem _ (List.mem_cons_of_mem _ (List.mem_cons_of_mem _ (List.mem_cons_of_mem _ (List.mem_cons_self))))))))))))))))))))
theorem u_38_19 : (Cond.code yX1_tally cX1_tally 2 none) ∈ uU := uT_37 _ (List.mem_append_left _ (List.mem_cons_of_mem _ (List.mem_cons_of_mem _ (List.mem_cons_of_mem _ (List.mem_cons_of_mem _ (List.mem_cons_of_mem _ (List.mem_cons_of_mem _ (List.mem_cons_of_mem _ (List.mem_cons_of_mem _ (List.mem_cons_of_mem _ (List.mem_cons_of_mem _ (List.mem_cons_of_mem _ (List.mem_cons_of_mem _ (List.mem_cons_of_mem _ (List.mem_cons_of_mem _ (List.mem_cons_of_mem _ (List.mem_cons_of_mem _ (List.mem_cons_of_mem _ (List.mem_cons_of_mem _ (List.mem_cons_of_mem _ (List.mem_cons_self)))))))))))))))))))))
theorem u_38_20 : (Cond.fieldLink RX1 22 "ChainLetters$Box" "keptAtAll" "I") ∈ uU := uT_37 _ (List.mem_append_left _ (List.mem_cons_of_mem _ (List.mem_cons_of_mem _ (List.mem_cons_of_mem _ (List.mem_cons_of_mem _ (List.mem_cons_of_mem _ (List.mem_cons_of_mem _ (List.mem_cons_of_mem _ (List.mem_cons_of_mem _ (List.mem_cons_of_mem _ (List.mem_cons_of_mem _ (List.mem_cons_of_mem _ (List.mem_cons_of_mem _ (List.mem_cons_of_mem _ (List.mem_cons_of_mem _ (List.mem_cons_of_mem _ (List.mem_cons_of_mem _ (List.mem_cons_of_mem _ (List.mem_cons_of_mem _ (List.mem_cons_of_mem _ (List.mem_cons_of_mem _ (List.mem_cons_self))))))))))))))))))))))
theorem u_38_21 : (Cond.fieldLink RX1 25 "ChainLetters$Box" "keptOnce" "I") ∈ uU := uT_37 _ (List.mem_append_left _ (List.mem_cons_of_mem _ (List.mem_cons_of_mem _ (List.mem_cons_of_mem _ (List.mem_cons_of_mem _ (List.mem_cons_of_mem _ (List.mem_cons_of_mem _ (List.mem_cons_of_mem _ (List.mem_cons_of_mem _ (List.mem_cons_of_mem _ (List.mem_cons_of_mem _ (List.mem_cons_of_mem _ (List.mem_cons_of_mem _ (List.mem_cons_of_mem _ (List.mem_cons_of_mem _ (List.mem_cons_of_mem _ (List.mem_cons_of_mem _ (List.mem_cons_of_mem _ (List.mem_cons_of_mem _ (List.mem_cons_of_mem _ (List.mem_cons_of_mem _ (List.mem_cons_of_mem _ (List.mem_cons_self)))))))))))))))))))))))
theorem u_38_22 : (Cond.fieldLink RX1 28 "ChainLetters$Box" "keptTwice" "I") ∈ uU := uT_37 _ (List.mem_append_left _ (List.mem_cons_of_mem _ (List.mem_cons_of_mem _ (List.mem_cons_of_mem _ (List.mem_cons_of_mem _ (List.mem_cons_of_mem _ (List.mem_cons_of_mem _ (List.mem_cons_of_mem _ (List.mem_cons_of_mem _ (List.mem_cons_of_mem _ (List.mem_cons_of_mem _ (List.mem_cons_of_mem _ (List.mem_cons_of_mem _ (List.mem_cons_of_mem _ (List.mem_cons_of_mem _ (List.mem_cons_of_mem _ (List.mem_cons_of_mem _ (List.mem_cons_of_mem _ (List.mem_cons_of_mem _ (List.mem_cons_of_mem _ (List.mem_cons_of_mem _ (List.mem_cons_of_mem _ (List.mem_cons_of_mem _ (List.mem_cons_self))))))))))))))))))))))))
theorem u_38_23 : (Cond.methodLink RL 133 yX10_hidden) ∈ uU := uT_37 _ (List.mem_append_left _ (List.mem_cons_of_mem _ (List.mem_cons_of_mem _ (List.mem_cons_of_mem _ (List.mem_cons_of_mem _ (List.mem_cons_of_mem _ (List.mem_cons_of_mem _ (List.mem_cons_of_mem _ (List.mem_cons_of_mem _ (List.mem_cons_of_mem _ (List.mem_cons_of_mem _ (List.mem_cons_of_mem _ (List.mem_cons_of_mem _ (List.mem_cons_of_mem _ (List.mem_cons_of_mem _ (List.mem_cons_of_mem _ (List.mem_cons_of_mem _ (List.mem_cons_of_mem _ (List.mem_cons_of_mem _ (List.mem_cons_of_mem _ (List.mem_cons_of_mem _ (List.mem_cons_of_mem _ (List.mem_cons_of_mem _ (List.mem_cons_of_mem _ (List.mem_cons_self)))))))))))))))))))))))))
theorem u_39_0 : (Cond.instanceMethod yX10_hidden) ∈ uU := uT_38 _ (List.mem_append_left _ (List.mem_cons_self))
theorem u_39_1 : (Cond.selects RX10 yX10_hidden yX10_hidden) ∈ uU := uT_38 _ (List.mem_append_left _ (List.mem_cons_of_mem _ (List.mem_cons_self)))
theorem u_39_2 : (Cond.code yX10_hidden cX10_hidden 7 (some .int)) ∈ uU := uT_38 _ (List.mem_append_left _ (List.mem_cons_of_mem _ (List.mem_cons_of_mem _ (List.mem_cons_self))))
theorem u_39_3 : (Cond.constantLong RX10 256 (2)) ∈ uU := uT_38 _ (List.mem_append_left _ (List.mem_cons_of_mem _ (List.mem_cons_of_mem _ (List.mem_cons_of_mem _ (List.mem_cons_self)))))
theorem u_39_4 : (Cond.methodLink RL 134 yX9_sign) ∈ uU := uT_38 _ (List.mem_append_left _ (List.mem_cons_of_mem _ (List.mem_cons_of_mem _ (List.mem_cons_of_mem _ (List.mem_cons_of_mem _ (List.mem_cons_self))))))
theorem u_39_5 : (Cond.instanceMethod yX9_sign) ∈ uU := uT_38 _ (List.mem_append_left _ (List.mem_cons_of_mem _ (List.mem_cons_of_mem _ (List.mem_cons_of_mem _ (List.mem_cons_of_mem _ (List.mem_cons_of_mem _ (List.mem_cons_self)))))))
theorem u_39_6 : (Cond.selects RX9 yX9_sign yX9_sign) ∈ uU := uT_38 _ (List.mem_append_left _ (List.mem_cons_of_mem _ (List.mem_cons_of_mem _ (List.mem_cons_of_mem _ (List.mem_cons_of_mem _ (List.mem_cons_of_mem _ (List.mem_cons_of_mem _ (List.mem_cons_self))))))))
theorem u_39_7 : (Cond.code yX9_sign cX9_sign 2 (some .int)) ∈ uU := uT_38 _ (List.mem_append_left _ (List.mem_cons_of_mem _ (List.mem_cons_of_mem _ (List.mem_cons_of_mem _ (List.mem_cons_of_mem _ (List.mem_cons_of_mem _ (List.mem_cons_of_mem _ (List.mem_cons_of_mem _ (List.mem_cons_self)))))))))
theorem u_39_8 : (Cond.fieldLink RX9 212 "ChainLetters$Fraction" "above" "LChainLetters$Natural;") ∈ uU := uT_38 _ (List.mem_append_left _ (List.mem_cons_of_mem _ (List.mem_cons_of_mem _ (List.mem_cons_of_mem _ (List.mem_cons_of_mem _ (List.mem_cons_of_mem _ (List.mem_cons_of_mem _ (List.mem_cons_of_mem _ (List.mem_cons_of_mem _ (List.mem_cons_self))))))))))
theorem u_39_9 : (Cond.fieldLink RX9 216 "ChainLetters$Natural" "size" "I") ∈ uU := uT_38 _ (List.mem_append_left _ (List.mem_cons_of_mem _ (List.mem_cons_of_mem _ (List.mem_cons_of_mem _ (List.mem_cons_of_mem _ (List.mem_cons_of_mem _ (List.mem_cons_of_mem _ (List.mem_cons_of_mem _ (List.mem_cons_of_mem _ (List.mem_cons_of_mem _ (List.mem_cons_self)))))))))))
theorem u_39_10 : (Cond.fieldLink RX9 221 "ChainLetters$Fraction" "below" "LChainLetters$Natural;") ∈ uU := uT_38 _ (List.mem_append_left _ (List.mem_cons_of_mem _ (List.mem_cons_of_mem _ (List.mem_cons_of_mem _ (List.mem_cons_of_mem _ (List.mem_cons_of_mem _ (List.mem_cons_of_mem _ (List.mem_cons_of_mem _ (List.mem_cons_of_mem _ (List.mem_cons_of_mem _ (List.mem_cons_of_mem _ (List.mem_cons_self))))))))))))
theorem u_39_11 : (Cond.methodLink RL 137 yX10_sign) ∈ uU := uT_38 _ (List.mem_append_left _ (List.mem_cons_of_mem _ (List.mem_cons_of_mem _ (List.mem_cons_of_mem _ (List.mem_cons_of_mem _ (List.mem_cons_of_mem _ (List.mem_cons_of_mem _ (List.mem_cons_of_mem _ (List.mem_cons_of_mem _ (List.mem_cons_of_mem _ (List.mem_cons_of_mem _ (List.mem_cons_of_mem _ (List.mem_cons_self)))))))))))))
theorem u_39_12 : (Cond.instanceMethod yX10_sign) ∈ uU := uT_38 _ (List.mem_append_left _ (List.mem_cons_of_mem _ (List.mem_cons_of_mem _ (List.mem_cons_of_mem _ (List.mem_cons_of_mem _ (List.mem_cons_of_mem _ (List.mem_cons_of_mem _ (List.mem_cons_of_mem _ (List.mem_cons_of_mem _ (List.mem_cons_of_mem _ (List.mem_cons_of_mem _ (List.mem_cons_of_mem _ (List.mem_cons_of_mem _ (List.mem_cons_self))))))))))))))
theorem u_39_13 : (Cond.selects RX10 yX10_sign yX10_sign) ∈ uU := uT_38 _ (List.mem_append_left _ (List.mem_cons_of_mem _ (List.mem_cons_of_mem _ (List.mem_cons_of_mem _ (List.mem_cons_of_mem _ (List.mem_cons_of_mem _ (List.mem_cons_of_mem _ (List.mem_cons_of_mem _ (List.mem_cons_of_mem _ (List.mem_cons_of_mem _ (List.mem_cons_of_mem _ (List.mem_cons_of_mem _ (List.mem_cons_of_mem _ (List.mem_cons_of_mem _ (List.mem_cons_self)))))))))))))))
theorem u_39_14 : (Cond.code yX10_sign cX10_sign 2 (some .int)) ∈ uU := uT_38 _ (List.mem_append_left _ (List.mem_cons_of_mem _ (List.mem_cons_of_mem _ (List.mem_cons_of_mem _ (List.mem_cons_of_mem _ (List.mem_cons_of_mem _ (List.mem_cons_of_mem _ (List.mem_cons_of_mem _ (List.mem_cons_of_mem _ (List.mem_cons_of_mem _ (List.mem_cons_of_mem _ (List.mem_cons_of_mem _ (List.mem_cons_of_mem _ (List.mem_cons_of_mem _ (List.mem_cons_of_mem _ (List.mem_cons_self))))))))))))))))
theorem u_39_15 : (Cond.methodLink RL 138 yX9_limb) ∈ uU := uT_38 _ (List.mem_append_left _ (List.mem_cons_of_mem _ (List.mem_cons_of_mem _ (List.mem_cons_of_mem _ (List.mem_cons_of_mem _ (List.mem_cons_of_mem _ (List.mem_cons_of_mem _ (List.mem_cons_of_mem _ (List.mem_cons_of_mem _ (List.mem_cons_of_mem _ (List.mem_cons_of_mem _ (List.mem_cons_of_mem _ (List.mem_cons_of_mem _ (List.mem_cons_of_mem _ (List.mem_cons_of_mem _ (List.mem_cons_of_mem _ (List.mem_cons_self)))))))))))))))))
theorem u_39_16 : (Cond.instanceMethod yX9_limb) ∈ uU := uT_38 _ (List.mem_append_left _ (List.mem_cons_of_mem _ (List.mem_cons_of_mem _ (List.mem_cons_of_mem _ (List.mem_cons_of_mem _ (List.mem_cons_of_mem _ (List.mem_cons_of_mem _ (List.mem_cons_of_mem _ (List.mem_cons_of_mem _ (List.mem_cons_of_mem _ (List.mem_cons_of_mem _ (List.mem_cons_of_mem _ (List.mem_cons_of_mem _ (List.mem_cons_of_mem _ (List.mem_cons_of_mem _ (List.mem_cons_of_mem _ (List.mem_cons_of_mem _ (List.mem_cons_self))))))))))))))))))
theorem u_39_17 : (Cond.selects RX9 yX9_limb yX9_limb) ∈ uU := uT_38 _ (List.mem_append_left _ (List.mem_cons_of_mem _ (List.mem_cons_of_mem _ (List.mem_cons_of_mem _ (List.mem_cons_of_mem _ (List.mem_cons_of_mem _ (List.mem_cons_of_mem _ (List.mem_cons_of_mem _ (List.mem_cons_of_mem _ (List.mem_cons_of_mem _ (List.mem_cons_of_mem _ (List.mem_cons_of_mem _ (List.mem_cons_of_mem _ (List.mem_cons_of_mem _ (List.mem_cons_of_mem _ (List.mem_cons_of_mem _ (List.mem_cons_of_mem _ (List.mem_cons_of_mem _ (List.mem_cons_self)))))))))))))))))))
theorem u_39_18 : (Cond.code yX9_limb cX9_limb 3 (some .int)) ∈ uU := uT_38 _ (List.mem_append_left _ (List.mem_cons_of_mem _ (List.mem_cons_of_mem _ (List.mem_cons_of_mem _ (List.mem_cons_of_mem _ (List.mem_cons_of_mem _ (List.mem_cons_of_mem _ (List.mem_cons_of_mem _ (List.mem_cons_of_mem _ (List.mem_cons_of_mem _ (List.mem_cons_of_mem _ (List.mem_cons_of_mem _ (List.mem_cons_of_mem _ (List.mem_cons_of_mem _ (List.mem_cons_of_mem _ (List.mem_cons_of_mem _ (List.mem_cons_of_mem _ (List.mem_cons_of_mem _ (List.mem_cons_of_mem _ (List.mem_cons_self))))))))))))))))))))
theorem u_39_19 : (Cond.methodLink RX9 224 yX6_digit) ∈ uU := uT_38 _ (List.mem_append_left _ (List.mem_cons_of_mem _ (List.mem_cons_of_mem _ (List.mem_cons_of_mem _ (List.mem_cons_of_mem _ (List.mem_cons_of_mem _ (List.mem_cons_of_mem _ (List.mem_cons_of_mem _ (List.mem_cons_of_mem _ (List.mem_cons_of_mem _ (List.mem_cons_of_mem _ (List.mem_cons_of_mem _ (List.mem_cons_of_mem _ (List.mem_cons_of_mem _ (List.mem_cons_of_mem _ (List.mem_cons_of_mem _ (List.mem_cons_of_mem _ (List.mem_cons_of_mem _ (List.mem_cons_of_mem _ (List.mem_cons_of_mem _ (List.mem_cons_self)))))))))))))))))))))
theorem u_39_20 : (Cond.instanceMethod yX6_digit) ∈ uU := uT_38 _ (List.mem_append_left _ (List.mem_cons_of_mem _ (List.mem_cons_of_mem _ (List.mem_cons_of_mem _ (List.mem_cons_of_mem _ (List.mem_cons_of_mem _ (List.mem_cons_of_mem _ (List.mem_cons_of_mem _ (List.mem_cons_of_mem _ (List.mem_cons_of_mem _ (List.mem_cons_of_mem _ (List.mem_cons_of_mem _ (List.mem_cons_of_mem _ (List.mem_cons_of_mem _ (List.mem_cons_of_mem _ (List.mem_cons_of_mem _ (List.mem_cons_of_mem _ (List.mem_cons_of_mem _ (List.mem_cons_of_mem _ (List.mem_cons_of_mem _ (List.mem_cons_of_mem _ (List.mem_cons_self))))))))))))))))))))))
theorem u_39_21 : (Cond.selects RX6 yX6_digit yX6_digit) ∈ uU := uT_38 _ (List.mem_append_left _ (List.mem_cons_of_mem _ (List.mem_cons_of_mem _ (List.mem_cons_of_mem _ (List.mem_cons_of_mem _ (List.mem_cons_of_mem _ (List.mem_cons_of_mem _ (List.mem_cons_of_mem _ (List.mem_cons_of_mem _ (List.mem_cons_of_mem _ (List.mem_cons_of_mem _ (List.mem_cons_of_mem _ (List.mem_cons_of_mem _ (List.mem_cons_of_mem _ (List.mem_cons_of_mem _ (List.mem_cons_of_mem _ (List.mem_cons_of_mem _ (List.mem_cons_of_mem _ (List.mem_cons_of_mem _ (List.mem_cons_of_mem _ (List.mem_cons_of_mem _ (List.mem_cons_of_mem _ (List.mem_cons_self)))))))))))))))))))))))
theorem u_39_22 : (Cond.code yX6_digit cX6_digit 2 (some .int)) ∈ uU := uT_38 _ (List.mem_append_left _ (List.mem_cons_of_mem _ (List.mem_cons_of_mem _ (List.mem_cons_of_mem _ (List.mem_cons_of_mem _ (List.mem_cons_of_mem _ (List.mem_cons_of_mem _ (List.mem_cons_of_mem _ (List.mem_cons_of_mem _ (List.mem_cons_of_mem _ (List.mem_cons_of_mem _ (List.mem_cons_of_mem _ (List.mem_cons_of_mem _ (List.mem_cons_of_mem _ (List.mem_cons_of_mem _ (List.mem_cons_of_mem _ (List.mem_cons_of_mem _ (List.mem_cons_of_mem _ (List.mem_cons_of_mem _ (List.mem_cons_of_mem _ (List.mem_cons_of_mem _ (List.mem_cons_of_mem _ (List.mem_cons_of_mem _ (List.mem_cons_self))))))))))))))))))))))))
theorem u_39_23 : (Cond.methodLink RL 141 yX10_limb) ∈ uU := uT_38 _ (List.mem_append_left _ (List.mem_cons_of_mem _ (List.mem_cons_of_mem _ (List.mem_cons_of_mem _ (List.mem_cons_of_mem _ (List.mem_cons_of_mem _ (List.mem_cons_of_mem _ (List.mem_cons_of_mem _ (List.mem_cons_of_mem _ (List.mem_cons_of_mem _ (List.mem_cons_of_mem _ (List.mem_cons_of_mem _ (List.mem_cons_of_mem _ (List.mem_cons_of_mem _ (List.mem_cons_of_mem _ (List.mem_cons_of_mem _ (List.mem_cons_of_mem _ (List.mem_cons_of_mem _ (List.mem_cons_of_mem _ (List.mem_cons_of_mem _ (List.mem_cons_of_mem _ (List.mem_cons_of_mem _ (List.mem_cons_of_mem _ (List.mem_cons_of_mem _ (List.mem_cons_self)))))))))))))))))))))))))
theorem u_40_0 : (Cond.instanceMethod yX10_limb) ∈ uU := uT_39 _ (List.mem_append_left _ (List.mem_cons_self))
theorem u_40_1 : (Cond.selects RX10 yX10_limb yX10_limb) ∈ uU := uT_39 _ (List.mem_append_left _ (List.mem_cons_of_mem _ (List.mem_cons_self)))
theorem u_40_2 : (Cond.code yX10_limb cX10_limb 3 (some .int)) ∈ uU := uT_39 _ (List.mem_append_left _ (List.mem_cons_of_mem _ (List.mem_cons_of_mem _ (List.mem_cons_self))))
theorem u_40_3 : (Cond.methodLink RL 142 yX9_count) ∈ uU := uT_39 _ (List.mem_append_left _ (List.mem_cons_of_mem _ (List.mem_cons_of_mem _ (List.mem_cons_of_mem _ (List.mem_cons_self)))))
theorem u_40_4 : (Cond.instanceMethod yX9_count) ∈ uU := uT_39 _ (List.mem_append_left _ (List.mem_cons_of_mem _ (List.mem_cons_of_mem _ (List.mem_cons_of_mem _ (List.mem_cons_of_mem _ (List.mem_cons_self))))))
theorem u_40_5 : (Cond.selects RX9 yX9_count yX9_count) ∈ uU := uT_39 _ (List.mem_append_left _ (List.mem_cons_of_mem _ (List.mem_cons_of_mem _ (List.mem_cons_of_mem _ (List.mem_cons_of_mem _ (List.mem_cons_of_mem _ (List.mem_cons_self)))))))
theorem u_40_6 : (Cond.code yX9_count cX9_count 2 (some .int)) ∈ uU := uT_39 _ (List.mem_append_left _ (List.mem_cons_of_mem _ (List.mem_cons_of_mem _ (List.mem_cons_of_mem _ (List.mem_cons_of_mem _ (List.mem_cons_of_mem _ (List.mem_cons_of_mem _ (List.mem_cons_self))))))))
theorem u_40_7 : (Cond.methodLink RX9 227 yX4_sentencesOfAll) ∈ uU := uT_39 _ (List.mem_append_left _ (List.mem_cons_of_mem _ (List.mem_cons_of_mem _ (List.mem_cons_of_mem _ (List.mem_cons_of_mem _ (List.mem_cons_of_mem _ (List.mem_cons_of_mem _ (List.mem_cons_of_mem _ (List.mem_cons_self)))))))))
theorem u_40_8 : (Cond.instanceMethod yX4_sentencesOfAll) ∈ uU := uT_39 _ (List.mem_append_left _ (List.mem_cons_of_mem _ (List.mem_cons_of_mem _ (List.mem_cons_of_mem _ (List.mem_cons_of_mem _ (List.mem_cons_of_mem _ (List.mem_cons_of_mem _ (List.mem_cons_of_mem _ (List.mem_cons_of_mem _ (List.mem_cons_self))))))))))
theorem u_40_9 : (Cond.selects RX4 yX4_sentencesOfAll yX4_sentencesOfAll) ∈ uU := uT_39 _ (List.mem_append_left _ (List.mem_cons_of_mem _ (List.mem_cons_of_mem _ (List.mem_cons_of_mem _ (List.mem_cons_of_mem _ (List.mem_cons_of_mem _ (List.mem_cons_of_mem _ (List.mem_cons_of_mem _ (List.mem_cons_of_mem _ (List.mem_cons_of_mem _ (List.mem_cons_self)))))))))))
theorem u_40_10 : (Cond.code yX4_sentencesOfAll cX4_sentencesOfAll 3 (some .int)) ∈ uU := uT_39 _ (List.mem_append_left _ (List.mem_cons_of_mem _ (List.mem_cons_of_mem _ (List.mem_cons_of_mem _ (List.mem_cons_of_mem _ (List.mem_cons_of_mem _ (List.mem_cons_of_mem _ (List.mem_cons_of_mem _ (List.mem_cons_of_mem _ (List.mem_cons_of_mem _ (List.mem_cons_of_mem _ (List.mem_cons_self))))))))))))
theorem u_40_11 : (Cond.methodLink RL 145 yX10_count) ∈ uU := uT_39 _ (List.mem_append_left _ (List.mem_cons_of_mem _ (List.mem_cons_of_mem _ (List.mem_cons_of_mem _ (List.mem_cons_of_mem _ (List.mem_cons_of_mem _ (List.mem_cons_of_mem _ (List.mem_cons_of_mem _ (List.mem_cons_of_mem _ (List.mem_cons_of_mem _ (List.mem_cons_of_mem _ (List.mem_cons_of_mem _ (List.mem_cons_self)))))))))))))
theorem u_40_12 : (Cond.instanceMethod yX10_count) ∈ uU := uT_39 _ (List.mem_append_left _ (List.mem_cons_of_mem _ (List.mem_cons_of_mem _ (List.mem_cons_of_mem _ (List.mem_cons_of_mem _ (List.mem_cons_of_mem _ (List.mem_cons_of_mem _ (List.mem_cons_of_mem _ (List.mem_cons_of_mem _ (List.mem_cons_of_mem _ (List.mem_cons_of_mem _ (List.mem_cons_of_mem _ (List.mem_cons_of_mem _ (List.mem_cons_self))))))))))))))
theorem u_40_13 : (Cond.selects RX10 yX10_count yX10_count) ∈ uU := uT_39 _ (List.mem_append_left _ (List.mem_cons_of_mem _ (List.mem_cons_of_mem _ (List.mem_cons_of_mem _ (List.mem_cons_of_mem _ (List.mem_cons_of_mem _ (List.mem_cons_of_mem _ (List.mem_cons_of_mem _ (List.mem_cons_of_mem _ (List.mem_cons_of_mem _ (List.mem_cons_of_mem _ (List.mem_cons_of_mem _ (List.mem_cons_of_mem _ (List.mem_cons_of_mem _ (List.mem_cons_self)))))))))))))))
theorem u_40_14 : (Cond.code yX10_count cX10_count 2 (some .int)) ∈ uU := uT_39 _ (List.mem_append_left _ (List.mem_cons_of_mem _ (List.mem_cons_of_mem _ (List.mem_cons_of_mem _ (List.mem_cons_of_mem _ (List.mem_cons_of_mem _ (List.mem_cons_of_mem _ (List.mem_cons_of_mem _ (List.mem_cons_of_mem _ (List.mem_cons_of_mem _ (List.mem_cons_of_mem _ (List.mem_cons_of_mem _ (List.mem_cons_of_mem _ (List.mem_cons_of_mem _ (List.mem_cons_of_mem _ (List.mem_cons_self))))))))))))))))
theorem u_40_15 : (Cond.methodLink RX10 258 yX10_countOf) ∈ uU := uT_39 _ (List.mem_append_left _ (List.mem_cons_of_mem _ (List.mem_cons_of_mem _ (List.mem_cons_of_mem _ (List.mem_cons_of_mem _ (List.mem_cons_of_mem _ (List.mem_cons_of_mem _ (List.mem_cons_of_mem _ (List.mem_cons_of_mem _ (List.mem_cons_of_mem _ (List.mem_cons_of_mem _ (List.mem_cons_of_mem _ (List.mem_cons_of_mem _ (List.mem_cons_of_mem _ (List.mem_cons_of_mem _ (List.mem_cons_of_mem _ (List.mem_cons_self)))))))))))))))))
theorem u_40_16 : (Cond.instanceMethod yX10_countOf) ∈ uU := uT_39 _ (List.mem_append_left _ (List.mem_cons_of_mem _ (List.mem_cons_of_mem _ (List.mem_cons_of_mem _ (List.mem_cons_of_mem _ (List.mem_cons_of_mem _ (List.mem_cons_of_mem _ (List.mem_cons_of_mem _ (List.mem_cons_of_mem _ (List.mem_cons_of_mem _ (List.mem_cons_of_mem _ (List.mem_cons_of_mem _ (List.mem_cons_of_mem _ (List.mem_cons_of_mem _ (List.mem_cons_of_mem _ (List.mem_cons_of_mem _ (List.mem_cons_of_mem _ (List.mem_cons_self))))))))))))))))))
theorem u_40_17 : (Cond.selects RX10 yX10_countOf yX10_countOf) ∈ uU := uT_39 _ (List.mem_append_left _ (List.mem_cons_of_mem _ (List.mem_cons_of_mem _ (List.mem_cons_of_mem _ (List.mem_cons_of_mem _ (List.mem_cons_of_mem _ (List.mem_cons_of_mem _ (List.mem_cons_of_mem _ (List.mem_cons_of_mem _ (List.mem_cons_of_mem _ (List.mem_cons_of_mem _ (List.mem_cons_of_mem _ (List.mem_cons_of_mem _ (List.mem_cons_of_mem _ (List.mem_cons_of_mem _ (List.mem_cons_of_mem _ (List.mem_cons_of_mem _ (List.mem_cons_of_mem _ (List.mem_cons_self)))))))))))))))))))
theorem u_40_18 : (Cond.code yX10_countOf cX10_countOf 4 (some .int)) ∈ uU := uT_39 _ (List.mem_append_left _ (List.mem_cons_of_mem _ (List.mem_cons_of_mem _ (List.mem_cons_of_mem _ (List.mem_cons_of_mem _ (List.mem_cons_of_mem _ (List.mem_cons_of_mem _ (List.mem_cons_of_mem _ (List.mem_cons_of_mem _ (List.mem_cons_of_mem _ (List.mem_cons_of_mem _ (List.mem_cons_of_mem _ (List.mem_cons_of_mem _ (List.mem_cons_of_mem _ (List.mem_cons_of_mem _ (List.mem_cons_of_mem _ (List.mem_cons_of_mem _ (List.mem_cons_of_mem _ (List.mem_cons_of_mem _ (List.mem_cons_self))))))))))))))))))))
theorem u_40_19 : (Cond.methodLink RL 146 yX9_digest) ∈ uU := uT_39 _ (List.mem_append_left _ (List.mem_cons_of_mem _ (List.mem_cons_of_mem _ (List.mem_cons_of_mem _ (List.mem_cons_of_mem _ (List.mem_cons_of_mem _ (List.mem_cons_of_mem _ (List.mem_cons_of_mem _ (List.mem_cons_of_mem _ (List.mem_cons_of_mem _ (List.mem_cons_of_mem _ (List.mem_cons_of_mem _ (List.mem_cons_of_mem _ (List.mem_cons_of_mem _ (List.mem_cons_of_mem _ (List.mem_cons_of_mem _ (List.mem_cons_of_mem _ (List.mem_cons_of_mem _ (List.mem_cons_of_mem _ (List.mem_cons_of_mem _ (List.mem_cons_self)))))))))))))))))))))
theorem u_40_20 : (Cond.instanceMethod yX9_digest) ∈ uU := uT_39 _ (List.mem_append_left _ (List.mem_cons_of_mem _ (List.mem_cons_of_mem _ (List.mem_cons_of_mem _ (List.mem_cons_of_mem _ (List.mem_cons_of_mem _ (List.mem_cons_of_mem _ (List.mem_cons_of_mem _ (List.mem_cons_of_mem _ (List.mem_cons_of_mem _ (List.mem_cons_of_mem _ (List.mem_cons_of_mem _ (List.mem_cons_of_mem _ (List.mem_cons_of_mem _ (List.mem_cons_of_mem _ (List.mem_cons_of_mem _ (List.mem_cons_of_mem _ (List.mem_cons_of_mem _ (List.mem_cons_of_mem _ (List.mem_cons_of_mem _ (List.mem_cons_of_mem _ (List.mem_cons_self))))))))))))))))))))))
theorem u_40_21 : (Cond.selects RX9 yX9_digest yX9_digest) ∈ uU := uT_39 _ (List.mem_append_left _ (List.mem_cons_of_mem _ (List.mem_cons_of_mem _ (List.mem_cons_of_mem _ (List.mem_cons_of_mem _ (List.mem_cons_of_mem _ (List.mem_cons_of_mem _ (List.mem_cons_of_mem _ (List.mem_cons_of_mem _ (List.mem_cons_of_mem _ (List.mem_cons_of_mem _ (List.mem_cons_of_mem _ (List.mem_cons_of_mem _ (List.mem_cons_of_mem _ (List.mem_cons_of_mem _ (List.mem_cons_of_mem _ (List.mem_cons_of_mem _ (List.mem_cons_of_mem _ (List.mem_cons_of_mem _ (List.mem_cons_of_mem _ (List.mem_cons_of_mem _ (List.mem_cons_of_mem _ (List.mem_cons_self)))))))))))))))))))))))
theorem u_40_22 : (Cond.code yX9_digest cX9_digest 4 (some .long)) ∈ uU := uT_39 _ (List.mem_append_left _ (List.mem_cons_of_mem _ (List.mem_cons_of_mem _ (List.mem_cons_of_mem _ (List.mem_cons_of_mem _ (List.mem_cons_of_mem _ (List.mem_cons_of_mem _ (List.mem_cons_of_mem _ (List.mem_cons_of_mem _ (List.mem_cons_of_mem _ (List.mem_cons_of_mem _ (List.mem_cons_of_mem _ (List.mem_cons_of_mem _ (List.mem_cons_of_mem _ (List.mem_cons_of_mem _ (List.mem_cons_of_mem _ (List.mem_cons_of_mem _ (List.mem_cons_of_mem _ (List.mem_cons_of_mem _ (List.mem_cons_of_mem _ (List.mem_cons_of_mem _ (List.mem_cons_of_mem _ (List.mem_cons_of_mem _ (List.mem_cons_self))))))))))))))))))))))))
theorem u_40_23 : (Cond.constantLong RX9 230 (457)) ∈ uU := uT_39 _ (List.mem_append_left _ (List.mem_cons_of_mem _ (List.mem_cons_of_mem _ (List.mem_cons_of_mem _ (List.mem_cons_of_mem _ (List.mem_cons_of_mem _ (List.mem_cons_of_mem _ (List.mem_cons_of_mem _ (List.mem_cons_of_mem _ (List.mem_cons_of_mem _ (List.mem_cons_of_mem _ (List.mem_cons_of_mem _ (List.mem_cons_of_mem _ (List.mem_cons_of_mem _ (List.mem_cons_of_mem _ (List.mem_cons_of_mem _ (List.mem_cons_of_mem _ (List.mem_cons_of_mem _ (List.mem_cons_of_mem _ (List.mem_cons_of_mem _ (List.mem_cons_of_mem _ (List.mem_cons_of_mem _ (List.mem_cons_of_mem _ (List.mem_cons_of_mem _ (List.mem_cons_self)))))))))))))))))))))))))
theorem u_41_0 : (Cond.constantLong RX9 232 (31)) ∈ uU := uT_40 _ (List.mem_append_left _ (List.mem_cons_self))
theorem u_41_1 : (Cond.methodLink RX9 234 yX9_count) ∈ uU := uT_40 _ (List.mem_append_left _ (List.mem_cons_of_mem _ (List.mem_cons_self)))
theorem u_41_2 : (Cond.methodLink RX9 236 yX4_foldInto) ∈ uU := uT_40 _ (List.mem_append_left _ (List.mem_cons_of_mem _ (List.mem_cons_of_mem _ (List.mem_cons_self))))
theorem u_41_3 : (Cond.instanceMethod yX4_foldInto) ∈ uU := uT_40 _ (List.mem_append_left _ (List.mem_cons_of_mem _ (List.mem_cons_of_mem _ (List.mem_cons_of_mem _ (List.mem_cons_self)))))
theorem u_41_4 : (Cond.selects RX4 yX4_foldInto yX4_foldInto) ∈ uU := uT_40 _ (List.mem_append_left _ (List.mem_cons_of_mem _ (List.mem_cons_of_mem _ (List.mem_cons_of_mem _ (List.mem_cons_of_mem _ (List.mem_cons_self))))))
theorem u_41_5 : (Cond.code yX4_foldInto cX4_foldInto 7 (some .long)) ∈ uU := uT_40 _ (List.mem_append_left _ (List.mem_cons_of_mem _ (List.mem_cons_of_mem _ (List.mem_cons_of_mem _ (List.mem_cons_of_mem _ (List.mem_cons_of_mem _ (List.mem_cons_self)))))))
theorem u_41_6 : (Cond.constantLong RX4 62 (31)) ∈ uU := uT_40 _ (List.mem_append_left _ (List.mem_cons_of_mem _ (List.mem_cons_of_mem _ (List.mem_cons_of_mem _ (List.mem_cons_of_mem _ (List.mem_cons_of_mem _ (List.mem_cons_of_mem _ (List.mem_cons_self))))))))
theorem u_41_7 : (Cond.methodLink RX9 240 yX5_foldInto) ∈ uU := uT_40 _ (List.mem_append_left _ (List.mem_cons_of_mem _ (List.mem_cons_of_mem _ (List.mem_cons_of_mem _ (List.mem_cons_of_mem _ (List.mem_cons_of_mem _ (List.mem_cons_of_mem _ (List.mem_cons_of_mem _ (List.mem_cons_self)))))))))
theorem u_41_8 : (Cond.instanceMethod yX5_foldInto) ∈ uU := uT_40 _ (List.mem_append_left _ (List.mem_cons_of_mem _ (List.mem_cons_of_mem _ (List.mem_cons_of_mem _ (List.mem_cons_of_mem _ (List.mem_cons_of_mem _ (List.mem_cons_of_mem _ (List.mem_cons_of_mem _ (List.mem_cons_of_mem _ (List.mem_cons_self))))))))))
theorem u_41_9 : (Cond.selects RX5 yX5_foldInto yX5_foldInto) ∈ uU := uT_40 _ (List.mem_append_left _ (List.mem_cons_of_mem _ (List.mem_cons_of_mem _ (List.mem_cons_of_mem _ (List.mem_cons_of_mem _ (List.mem_cons_of_mem _ (List.mem_cons_of_mem _ (List.mem_cons_of_mem _ (List.mem_cons_of_mem _ (List.mem_cons_of_mem _ (List.mem_cons_self)))))))))))
theorem u_41_10 : (Cond.code yX5_foldInto cX5_foldInto 6 (some .long)) ∈ uU := uT_40 _ (List.mem_append_left _ (List.mem_cons_of_mem _ (List.mem_cons_of_mem _ (List.mem_cons_of_mem _ (List.mem_cons_of_mem _ (List.mem_cons_of_mem _ (List.mem_cons_of_mem _ (List.mem_cons_of_mem _ (List.mem_cons_of_mem _ (List.mem_cons_of_mem _ (List.mem_cons_of_mem _ (List.mem_cons_self))))))))))))
theorem u_41_11 : (Cond.constantLong RX5 57 (31)) ∈ uU := uT_40 _ (List.mem_append_left _ (List.mem_cons_of_mem _ (List.mem_cons_of_mem _ (List.mem_cons_of_mem _ (List.mem_cons_of_mem _ (List.mem_cons_of_mem _ (List.mem_cons_of_mem _ (List.mem_cons_of_mem _ (List.mem_cons_of_mem _ (List.mem_cons_of_mem _ (List.mem_cons_of_mem _ (List.mem_cons_of_mem _ (List.mem_cons_self)))))))))))))
theorem u_41_12 : (Cond.methodLink RX9 241 yX3_foldInto) ∈ uU := uT_40 _ (List.mem_append_left _ (List.mem_cons_of_mem _ (List.mem_cons_of_mem _ (List.mem_cons_of_mem _ (List.mem_cons_of_mem _ (List.mem_cons_of_mem _ (List.mem_cons_of_mem _ (List.mem_cons_of_mem _ (List.mem_cons_of_mem _ (List.mem_cons_of_mem _ (List.mem_cons_of_mem _ (List.mem_cons_of_mem _ (List.mem_cons_of_mem _ (List.mem_cons_self))))))))))))))
theorem u_41_13 : (Cond.instanceMethod yX3_foldInto) ∈ uU := uT_40 _ (List.mem_append_left _ (List.mem_cons_of_mem _ (List.mem_cons_of_mem _ (List.mem_cons_of_mem _ (List.mem_cons_of_mem _ (List.mem_cons_of_mem _ (List.mem_cons_of_mem _ (List.mem_cons_of_mem _ (List.mem_cons_of_mem _ (List.mem_cons_of_mem _ (List.mem_cons_of_mem _ (List.mem_cons_of_mem _ (List.mem_cons_of_mem _ (List.mem_cons_of_mem _ (List.mem_cons_self)))))))))))))))
theorem u_41_14 : (Cond.selects RX3 yX3_foldInto yX3_foldInto) ∈ uU := uT_40 _ (List.mem_append_left _ (List.mem_cons_of_mem _ (List.mem_cons_of_mem _ (List.mem_cons_of_mem _ (List.mem_cons_of_mem _ (List.mem_cons_of_mem _ (List.mem_cons_of_mem _ (List.mem_cons_of_mem _ (List.mem_cons_of_mem _ (List.mem_cons_of_mem _ (List.mem_cons_of_mem _ (List.mem_cons_of_mem _ (List.mem_cons_of_mem _ (List.mem_cons_of_mem _ (List.mem_cons_of_mem _ (List.mem_cons_self))))))))))))))))
theorem u_41_15 : (Cond.code yX3_foldInto cX3_foldInto 6 (some .long)) ∈ uU := uT_40 _ (List.mem_append_left _ (List.mem_cons_of_mem _ (List.mem_cons_of_mem _ (List.mem_cons_of_mem _ (List.mem_cons_of_mem _ (List.mem_cons_of_mem _ (List.mem_cons_of_mem _ (List.mem_cons_of_mem _ (List.mem_cons_of_mem _ (List.mem_cons_of_mem _ (List.mem_cons_of_mem _ (List.mem_cons_of_mem _ (List.mem_cons_of_mem _ (List.mem_cons_of_mem _ (List.mem_cons_of_mem _ (List.mem_cons_of_mem _ (List.mem_cons_self)))))))))))))))))
theorem u_41_16 : (Cond.constantLong RX3 78 (31)) ∈ uU := uT_40 _ (List.mem_append_left _ (List.mem_cons_of_mem _ (List.mem_cons_of_mem _ (List.mem_cons_of_mem _ (List.mem_cons_of_mem _ (List.mem_cons_of_mem _ (List.mem_cons_of_mem _ (List.mem_cons_of_mem _ (List.mem_cons_of_mem _ (List.mem_cons_of_mem _ (List.mem_cons_of_mem _ (List.mem_cons_of_mem _ (List.mem_cons_of_mem _ (List.mem_cons_of_mem _ (List.mem_cons_of_mem _ (List.mem_cons_of_mem _ (List.mem_cons_of_mem _ (List.mem_cons_self))))))))))))))))))
theorem u_41_17 : (Cond.methodLink RX9 242 yX0_foldInto) ∈ uU := uT_40 _ (List.mem_append_left _ (List.mem_cons_of_mem _ (List.mem_cons_of_mem _ (List.mem_cons_of_mem _ (List.mem_cons_of_mem _ (List.mem_cons_of_mem _ (List.mem_cons_of_mem _ (List.mem_cons_of_mem _ (List.mem_cons_of_mem _ (List.mem_cons_of_mem _ (List.mem_cons_of_mem _ (List.mem_cons_of_mem _ (List.mem_cons_of_mem _ (List.mem_cons_of_mem _ (List.mem_cons_of_mem _ (List.mem_cons_of_mem _ (List.mem_cons_of_mem _ (List.mem_cons_of_mem _ (List.mem_cons_self)))))))))))))))))))
theorem u_41_18 : (Cond.instanceMethod yX0_foldInto) ∈ uU := uT_40 _ (List.mem_append_left _ (List.mem_cons_of_mem _ (List.mem_cons_of_mem _ (List.mem_cons_of_mem _ (List.mem_cons_of_mem _ (List.mem_cons_of_mem _ (List.mem_cons_of_mem _ (List.mem_cons_of_mem _ (List.mem_cons_of_mem _ (List.mem_cons_of_mem _ (List.mem_cons_of_mem _ (List.mem_cons_of_mem _ (List.mem_cons_of_mem _ (List.mem_cons_of_mem _ (List.mem_cons_of_mem _ (List.mem_cons_of_mem _ (List.mem_cons_of_mem _ (List.mem_cons_of_mem _ (List.mem_cons_of_mem _ (List.mem_cons_self))))))))))))))))))))
theorem u_41_19 : (Cond.selects RX0 yX0_foldInto yX0_foldInto) ∈ uU := uT_40 _ (List.mem_append_left _ (List.mem_cons_of_mem _ (List.mem_cons_of_mem _ (List.mem_cons_of_mem _ (List.mem_cons_of_mem _ (List.mem_cons_of_mem _ (List.mem_cons_of_mem _ (List.mem_cons_of_mem _ (List.mem_cons_of_mem _ (List.mem_cons_of_mem _ (List.mem_cons_of_mem _ (List.mem_cons_of_mem _ (List.mem_cons_of_mem _ (List.mem_cons_of_mem _ (List.mem_cons_of_mem _ (List.mem_cons_of_mem _ (List.mem_cons_of_mem _ (List.mem_cons_of_mem _ (List.mem_cons_of_mem _ (List.mem_cons_of_mem _ (List.mem_cons_self)))))))))))))))))))))
theorem u_41_20 : (Cond.code yX0_foldInto cX0_foldInto 6 (some .long)) ∈ uU := uT_40 _ (List.mem_append_left _ (List.mem_cons_of_mem _ (List.mem_cons_of_mem _ (List.mem_cons_of_mem _ (List.mem_cons_of_mem _ (List.mem_cons_of_mem _ (List.mem_cons_of_mem _ (List.mem_cons_of_mem _ (List.mem_cons_of_mem _ (List.mem_cons_of_mem _ (List.mem_cons_of_mem _ (List.mem_cons_of_mem _ (List.mem_cons_of_mem _ (List.mem_cons_of_mem _ (List.mem_cons_of_mem _ (List.mem_cons_of_mem _ (List.mem_cons_of_mem _ (List.mem_cons_of_mem _ (List.mem_cons_of_mem _ (List.mem_cons_of_mem _ (List.mem_cons_of_mem _ (List.mem_cons_self))))))))))))))))))))))
theorem u_41_21 : (Cond.constantLong RX0 16 (31)) ∈ uU := uT_40 _ (List.mem_append_left _ (List.mem_cons_of_mem _ (List.mem_cons_of_mem _ (List.mem_cons_of_mem _ (List.mem_cons_of_mem _ (List.mem_cons_of_mem _ (List.mem_cons_of_mem _ (List.mem_cons_of_mem _ (List.mem_cons_of_mem _ (List.mem_cons_of_mem _ (List.mem_cons_of_mem _ (List.mem_cons_of_mem _ (List.mem_cons_of_mem _ (List.mem_cons_of_mem _ (List.mem_cons_of_mem _ (List.mem_cons_of_mem _ (List.mem_cons_of_mem _ (List.mem_cons_of_mem _ (List.mem_cons_of_mem _ (List.mem_cons_of_mem _ (List.mem_cons_of_mem _ (List.mem_cons_of_mem _ (List.mem_cons_self)))))))))))))))))))))))
theorem u_41_22 : (Cond.methodLink RX9 243 yX7_foldInto) ∈ uU := uT_40 _ (List.mem_append_left _ (List.mem_cons_of_mem _ (List.mem_cons_of_mem _ (List.mem_cons_of_mem _ (List.mem_cons_of_mem _ (List.mem_cons_of_mem _ (List.mem_cons_of_mem _ (List.mem_cons_of_mem _ (List.mem_cons_of_mem _ (List.mem_cons_of_mem _ (List.mem_cons_of_mem _ (List.mem_cons_of_mem _ (List.mem_cons_of_mem _ (List.mem_cons_of_mem _ (List.mem_cons_of_mem _ (List.mem_cons_of_mem _ (List.mem_cons_of_mem _ (List.mem_cons_of_mem _ (List.mem_cons_of_mem _ (List.mem_cons_of_mem _ (List.mem_cons_of_mem _ (List.mem_cons_of_mem _ (List.mem_cons_of_mem _ (List.mem_cons_self))))))))))))))))))))))))
theorem u_41_23 : (Cond.instanceMethod yX7_foldInto) ∈ uU := uT_40 _ (List.mem_append_left _ (List.mem_cons_of_mem _ (List.mem_cons_of_mem _ (List.mem_cons_of_mem _ (List.mem_cons_of_mem _ (List.mem_cons_of_mem _ (List.mem_cons_of_mem _ (List.mem_cons_of_mem _ (List.mem_cons_of_mem _ (List.mem_cons_of_mem _ (List.mem_cons_of_mem _ (List.mem_cons_of_mem _ (List.mem_cons_of_mem _ (List.mem_cons_of_mem _ (List.mem_cons_of_mem _ (List.mem_cons_of_mem _ (List.mem_cons_of_mem _ (List.mem_cons_of_mem _ (List.mem_cons_of_mem _ (List.mem_cons_of_mem _ (List.mem_cons_of_mem _ (List.mem_cons_of_mem _ (List.mem_cons_of_mem _ (List.mem_cons_of_mem _ (List.mem_cons_self)))))))))))))))))))))))))
theorem u_42_0 : (Cond.selects RX7 yX7_foldInto yX7_foldInto) ∈ uU := uT_41 _ (List.mem_append_left _ (List.mem_cons_self))
theorem u_42_1 : (Cond.code yX7_foldInto cX7_foldInto 6 (some .long)) ∈ uU := uT_41 _ (List.mem_append_left _ (List.mem_cons_of_mem _ (List.mem_cons_self)))
theorem u_42_2 : (Cond.constantLong RX7 49 (31)) ∈ uU := uT_41 _ (List.mem_append_left _ (List.mem_cons_of_mem _ (List.mem_cons_of_mem _ (List.mem_cons_self))))
theorem u_42_3 : (Cond.methodLink RX9 244 yX1_foldInto) ∈ uU := uT_41 _ (List.mem_append_left _ (List.mem_cons_of_mem _ (List.mem_cons_of_mem _ (List.mem_cons_of_mem _ (List.mem_cons_self)))))
theorem u_42_4 : (Cond.instanceMethod yX1_foldInto) ∈ uU := uT_41 _ (List.mem_append_left _ (List.mem_cons_of_mem _ (List.mem_cons_of_mem _ (List.mem_cons_of_mem _ (List.mem_cons_of_mem _ (List.mem_cons_self))))))
theorem u_42_5 : (Cond.selects RX1 yX1_foldInto yX1_foldInto) ∈ uU := uT_41 _ (List.mem_append_left _ (List.mem_cons_of_mem _ (List.mem_cons_of_mem _ (List.mem_cons_of_mem _ (List.mem_cons_of_mem _ (List.mem_cons_of_mem _ (List.mem_cons_self)))))))
theorem u_42_6 : (Cond.code yX1_foldInto cX1_foldInto 6 (some .long)) ∈ uU := uT_41 _ (List.mem_append_left _ (List.mem_cons_of_mem _ (List.mem_cons_of_mem _ (List.mem_cons_of_mem _ (List.mem_cons_of_mem _ (List.mem_cons_of_mem _ (List.mem_cons_of_mem _ (List.mem_cons_self))))))))
theorem u_42_7 : (Cond.constantLong RX1 31 (31)) ∈ uU := uT_41 _ (List.mem_append_left _ (List.mem_cons_of_mem _ (List.mem_cons_of_mem _ (List.mem_cons_of_mem _ (List.mem_cons_of_mem _ (List.mem_cons_of_mem _ (List.mem_cons_of_mem _ (List.mem_cons_of_mem _ (List.mem_cons_self)))))))))
theorem u_42_8 : (Cond.methodLink RX9 245 yX9_least) ∈ uU := uT_41 _ (List.mem_append_left _ (List.mem_cons_of_mem _ (List.mem_cons_of_mem _ (List.mem_cons_of_mem _ (List.mem_cons_of_mem _ (List.mem_cons_of_mem _ (List.mem_cons_of_mem _ (List.mem_cons_of_mem _ (List.mem_cons_of_mem _ (List.mem_cons_self))))))))))
theorem u_42_9 : (Cond.methodLink RX9 248 yX9_sign) ∈ uU := uT_41 _ (List.mem_append_left _ (List.mem_cons_of_mem _ (List.mem_cons_of_mem _ (List.mem_cons_of_mem _ (List.mem_cons_of_mem _ (List.mem_cons_of_mem _ (List.mem_cons_of_mem _ (List.mem_cons_of_mem _ (List.mem_cons_of_mem _ (List.mem_cons_of_mem _ (List.mem_cons_self)))))))))))
theorem u_42_10 : (Cond.methodLink RX9 251 yX6_foldInto) ∈ uU := uT_41 _ (List.mem_append_left _ (List.mem_cons_of_mem _ (List.mem_cons_of_mem _ (List.mem_cons_of_mem _ (List.mem_cons_of_mem _ (List.mem_cons_of_mem _ (List.mem_cons_of_mem _ (List.mem_cons_of_mem _ (List.mem_cons_of_mem _ (List.mem_cons_of_mem _ (List.mem_cons_of_mem _ (List.mem_cons_self))))))))))))
theorem u_42_11 : (Cond.instanceMethod yX6_foldInto) ∈ uU := uT_41 _ (List.mem_append_left _ (List.mem_cons_of_mem _ (List.mem_cons_of_mem _ (List.mem_cons_of_mem _ (List.mem_cons_of_mem _ (List.mem_cons_of_mem _ (List.mem_cons_of_mem _ (List.mem_cons_of_mem _ (List.mem_cons_of_mem _ (List.mem_cons_of_mem _ (List.mem_cons_of_mem _ (List.mem_cons_of_mem _ (List.mem_cons_self)))))))))))))
theorem u_42_12 : (Cond.selects RX6 yX6_foldInto yX6_foldInto) ∈ uU := uT_41 _ (List.mem_append_left _ (List.mem_cons_of_mem _ (List.mem_cons_of_mem _ (List.mem_cons_of_mem _ (List.mem_cons_of_mem _ (List.mem_cons_of_mem _ (List.mem_cons_of_mem _ (List.mem_cons_of_mem _ (List.mem_cons_of_mem _ (List.mem_cons_of_mem _ (List.mem_cons_of_mem _ (List.mem_cons_of_mem _ (List.mem_cons_of_mem _ (List.mem_cons_self))))))))))))))
theorem u_42_13 : (Cond.code yX6_foldInto cX6_foldInto 6 (some .long)) ∈ uU := uT_41 _ (List.mem_append_left _ (List.mem_cons_of_mem _ (List.mem_cons_of_mem _ (List.mem_cons_of_mem _ (List.mem_cons_of_mem _ (List.mem_cons_of_mem _ (List.mem_cons_of_mem _ (List.mem_cons_of_mem _ (List.mem_cons_of_mem _ (List.mem_cons_of_mem _ (List.mem_cons_of_mem _ (List.mem_cons_of_mem _ (List.mem_cons_of_mem _ (List.mem_cons_of_mem _ (List.mem_cons_self)))))))))))))))
theorem u_42_14 : (Cond.constantLong RX6 30 (31)) ∈ uU := uT_41 _ (List.mem_append_left _ (List.mem_cons_of_mem _ (List.mem_cons_of_mem _ (List.mem_cons_of_mem _ (List.mem_cons_of_mem _ (List.mem_cons_of_mem _ (List.mem_cons_of_mem _ (List.mem_cons_of_mem _ (List.mem_cons_of_mem _ (List.mem_cons_of_mem _ (List.mem_cons_of_mem _ (List.mem_cons_of_mem _ (List.mem_cons_of_mem _ (List.mem_cons_of_mem _ (List.mem_cons_of_mem _ (List.mem_cons_self))))))))))))))))
theorem u_42_15 : (Cond.methodLink RL 150 yX10_digest) ∈ uU := uT_41 _ (List.mem_append_left _ (List.mem_cons_of_mem _ (List.mem_cons_of_mem _ (List.mem_cons_of_mem _ (List.mem_cons_of_mem _ (List.mem_cons_of_mem _ (List.mem_cons_of_mem _ (List.mem_cons_of_mem _ (List.mem_cons_of_mem _ (List.mem_cons_of_mem _ (List.mem_cons_of_mem _ (List.mem_cons_of_mem _ (List.mem_cons_of_mem _ (List.mem_cons_of_mem _ (List.mem_cons_of_mem _ (List.mem_cons_of_mem _ (List.mem_cons_self)))))))))))))))))
theorem u_42_16 : (Cond.instanceMethod yX10_digest) ∈ uU := uT_41 _ (List.mem_append_left _ (List.mem_cons_of_mem _ (List.mem_cons_of_mem _ (List.mem_cons_of_mem _ (List.mem_cons_of_mem _ (List.mem_cons_of_mem _ (List.mem_cons_of_mem _ (List.mem_cons_of_mem _ (List.mem_cons_of_mem _ (List.mem_cons_of_mem _ (List.mem_cons_of_mem _ (List.mem_cons_of_mem _ (List.mem_cons_of_mem _ (List.mem_cons_of_mem _ (List.mem_cons_of_mem _ (List.mem_cons_of_mem _ (List.mem_cons_of_mem _ (List.mem_cons_self))))))))))))))))))
theorem u_42_17 : (Cond.selects RX10 yX10_digest yX10_digest) ∈ uU := uT_41 _ (List.mem_append_left _ (List.mem_cons_of_mem _ (List.mem_cons_of_mem _ (List.mem_cons_of_mem _ (List.mem_cons_of_mem _ (List.mem_cons_of_mem _ (List.mem_cons_of_mem _ (List.mem_cons_of_mem _ (List.mem_cons_of_mem _ (List.mem_cons_of_mem _ (List.mem_cons_of_mem _ (List.mem_cons_of_mem _ (List.mem_cons_of_mem _ (List.mem_cons_of_mem _ (List.mem_cons_of_mem _ (List.mem_cons_of_mem _ (List.mem_cons_of_mem _ (List.mem_cons_of_mem _ (List.mem_cons_self)))))))))))))))))))
theorem u_42_18 : (Cond.code yX10_digest cX10_digest 4 (some .long)) ∈ uU := uT_41 _ (List.mem_append_left _ (List.mem_cons_of_mem _ (List.mem_cons_of_mem _ (List.mem_cons_of_mem _ (List.mem_cons_of_mem _ (List.mem_cons_of_mem _ (List.mem_cons_of_mem _ (List.mem_cons_of_mem _ (List.mem_cons_of_mem _ (List.mem_cons_of_mem _ (List.mem_cons_of_mem _ (List.mem_cons_of_mem _ (List.mem_cons_of_mem _ (List.mem_cons_of_mem _ (List.mem_cons_of_mem _ (List.mem_cons_of_mem _ (List.mem_cons_of_mem _ (List.mem_cons_of_mem _ (List.mem_cons_of_mem _ (List.mem_cons_self))))))))))))))))))))
theorem u_42_19 : (Cond.constantLong RX10 263 (457)) ∈ uU := uT_41 _ (List.mem_append_left _ (List.mem_cons_of_mem _ (List.mem_cons_of_mem _ (List.mem_cons_of_mem _ (List.mem_cons_of_mem _ (List.mem_cons_of_mem _ (List.mem_cons_of_mem _ (List.mem_cons_of_mem _ (List.mem_cons_of_mem _ (List.mem_cons_of_mem _ (List.mem_cons_of_mem _ (List.mem_cons_of_mem _ (List.mem_cons_of_mem _ (List.mem_cons_of_mem _ (List.mem_cons_of_mem _ (List.mem_cons_of_mem _ (List.mem_cons_of_mem _ (List.mem_cons_of_mem _ (List.mem_cons_of_mem _ (List.mem_cons_of_mem _ (List.mem_cons_self)))))))))))))))))))))
theorem u_42_20 : (Cond.constantLong RX10 261 (31)) ∈ uU := uT_41 _ (List.mem_append_left _ (List.mem_cons_of_mem _ (List.mem_cons_of_mem _ (List.mem_cons_of_mem _ (List.mem_cons_of_mem _ (List.mem_cons_of_mem _ (List.mem_cons_of_mem _ (List.mem_cons_of_mem _ (List.mem_cons_of_mem _ (List.mem_cons_of_mem _ (List.mem_cons_of_mem _ (List.mem_cons_of_mem _ (List.mem_cons_of_mem _ (List.mem_cons_of_mem _ (List.mem_cons_of_mem _ (List.mem_cons_of_mem _ (List.mem_cons_of_mem _ (List.mem_cons_of_mem _ (List.mem_cons_of_mem _ (List.mem_cons_of_mem _ (List.mem_cons_of_mem _ (List.mem_cons_self))))))))))))))))))))))
theorem u_42_21 : (Cond.methodLink RX10 265 yX10_mixed) ∈ uU := uT_41 _ (List.mem_append_left _ (List.mem_cons_of_mem _ (List.mem_cons_of_mem _ (List.mem_cons_of_mem _ (List.mem_cons_of_mem _ (List.mem_cons_of_mem _ (List.mem_cons_of_mem _ (List.mem_cons_of_mem _ (List.mem_cons_of_mem _ (List.mem_cons_of_mem _ (List.mem_cons_of_mem _ (List.mem_cons_of_mem _ (List.mem_cons_of_mem _ (List.mem_cons_of_mem _ (List.mem_cons_of_mem _ (List.mem_cons_of_mem _ (List.mem_cons_of_mem _ (List.mem_cons_of_mem _ (List.mem_cons_of_mem _ (List.mem_cons_of_mem _ (List.mem_cons_of_mem _ (List.mem_cons_of_mem _ (List.mem_cons_self)))))))))))))))))))))))
theorem u_42_22 : (Cond.static yX10_mixed) ∈ uU := uT_41 _ (List.mem_append_left _ (List.mem_cons_of_mem _ (List.mem_cons_of_mem _ (List.mem_cons_of_mem _ (List.mem_cons_of_mem _ (List.mem_cons_of_mem _ (List.mem_cons_of_mem _ (List.mem_cons_of_mem _ (List.mem_cons_of_mem _ (List.mem_cons_of_mem _ (List.mem_cons_of_mem _ (List.mem_cons_of_mem _ (List.mem_cons_of_mem _ (List.mem_cons_of_mem _ (List.mem_cons_of_mem _ (List.mem_cons_of_mem _ (List.mem_cons_of_mem _ (List.mem_cons_of_mem _ (List.mem_cons_of_mem _ (List.mem_cons_of_mem _ (List.mem_cons_of_mem _ (List.mem_cons_of_mem _ (List.mem_cons_of_mem _ (List.mem_cons_self))))))))))))))))))))))))
theorem u_42_23 : (Cond.code yX10_mixed cX10_mixed 8 (some .long)) ∈ uU := uT_41 _ (List.mem_append_left _ (List.mem_cons_of_mem _ (List.mem_cons_of_mem _ (List.mem_cons_of_mem _ (List.mem_cons_of_mem _ (List.mem_cons_of_mem _ (List.mem_cons_of_mem _ (List.mem_cons_of_mem _ (List.mem_cons_of_mem _ (List.mem_cons_of_mem _ (List.mem_cons_of_mem _ (List.mem_cons_of_mem _ (List.mem_cons_of_mem _ (List.mem_cons_of_mem _ (List.mem_cons_of_mem _ (List.mem_cons_of_mem _ (List.mem_cons_of_mem _ (List.mem_cons_of_mem _ (List.mem_cons_of_mem _ (List.mem_cons_of_mem _ (List.mem_cons_of_mem _ (List.mem_cons_of_mem _ (List.mem_cons_of_mem _ (List.mem_cons_of_mem _ (List.mem_cons_self)))))))))))))))))))))))))
theorem u_43_0 : (Cond.methodLink RX10 269 yX10_sign) ∈ uU := uT_42 _ (List.mem_append_left _ (List.mem_cons_self))
theorem u_lay_X9 : ∀ w ∈ u_ws RX9 TX9 8, w ∈ uU := fun w h => uT_43 w (List.mem_append_left _ h)
theorem u_lay_X10 : ∀ w ∈ u_ws RX10 TX10 29, w ∈ uU := fun w h => uT_44 w (List.mem_append_left _ h)
theorem u_lay_X4 : ∀ w ∈ u_ws RX4 TX4 7, w ∈ uU := fun w h => uT_45 w (List.mem_append_left _ h)
theorem u_lay_X8 : ∀ w ∈ u_ws RX8 TX8 15, w ∈ uU := fun w h => uT_46 w (List.mem_append_left _ h)
theorem u_lay_X5 : ∀ w ∈ u_ws RX5 TX5 8, w ∈ uU := fun w h => uT_47 w (List.mem_append_left _ h)
theorem u_lay_X3 : ∀ w ∈ u_ws RX3 TX3 6, w ∈ uU := fun w h => uT_48 w (List.mem_append_left _ h)
theorem u_lay_X0 : ∀ w ∈ u_ws RX0 TX0 2, w ∈ uU := fun w h => uT_49 w (List.mem_append_left _ h)
theorem u_lay_X7 : ∀ w ∈ u_ws RX7 TX7 7, w ∈ uU := fun w h => uT_50 w (List.mem_append_left _ h)
theorem u_lay_X1 : ∀ w ∈ u_ws RX1 TX1 6, w ∈ uU := fun w h => uT_51 w (List.mem_append_left _ h)
theorem u_lay_X2 : ∀ w ∈ u_ws RX2 TX2 2, w ∈ uU := fun w h => uT_52 w (List.mem_append_left _ h)
theorem u_lay_X6 : ∀ w ∈ u_ws RX6 TX6 2, w ∈ uU := fun w h => uT_53 w (List.mem_append_left _ h)
theorem uGc_1 : uC_1.all goodWord = true := by decide +kernel
theorem uGc_2 : uC_2.all goodWord = true := by decide +kernel
theorem uGc_3 : uC_3.all goodWord = true := by decide +kernel
theorem uGc_4 : uC_4.all goodWord = true := by decide +kernel
theorem uGc_5 : uC_5.all goodWord = true := by decide +kernel
theorem uGc_6 : uC_6.all goodWord = true := by decide +kernel
theorem uGc_7 : uC_7.all goodWord = true := by decide +kernel
theorem uGc_8 : uC_8.all goodWord = true := by decide +kernel
theorem uGc_9 : uC_9.all goodWord = true := by decide +kernel
theorem uGc_10 : uC_10.all goodWord = true := by decide +kernel
theorem uGc_11 : uC_11.all goodWord = true := by decide +kernel
theorem uGc_12 : uC_12.all goodWord = true := by decide +kernel
theorem uGc_13 : uC_13.all goodWord = true := by decide +kernel
theorem uGc_14 : uC_14.all goodWord = true := by decide +kernel
theorem uGc_15 : uC_15.all goodWord = true := by decide +kernel
theorem uGc_16 : uC_16.all goodWord = true := by decide +kernel
theorem uGc_17 : uC_17.all goodWord = true := by decide +kernel
theorem uGc_18 : uC_18.all goodWord = true := by decide +kernel
theorem uGc_19 : uC_19.all goodWord = true := by decide +kernel
theorem uGc_20 : uC_20.all goodWord = true := by decide +kernel
theorem uGc_21 : uC_21.all goodWord = true := by decide +kernel
theorem uGc_22 : uC_22.all goodWord = true := by decide +kernel
theorem uGc_23 : uC_23.all goodWord = true := by decide +kernel
theorem uGc_24 : uC_24.all goodWord = true := by decide +kernel
theorem uGc_25 : uC_25.all goodWord = true := by decide +kernel
theorem uGc_26 : uC_26.all goodWord = true := by decide +kernel
theorem uGc_27 : uC_27.all goodWord = true := by decide +kernel
theorem uGc_28 : uC_28.all goodWord = true := by decide +kernel
theorem uGc_29 : uC_29.all goodWord = true := by decide +kernel
theorem uGc_30 : uC_30.all goodWord = true := by decide +kernel
theorem uGc_31 : uC_31.all goodWord = true := by decide +kernel
theorem uGc_32 : uC_32.all goodWord = true := by decide +kernel
theorem uGc_33 : uC_33.all goodWord = true := by decide +kernel
theorem uGc_34 : uC_34.all goodWord = true := by decide +kernel
theorem uGc_35 : uC_35.all goodWord = true := by decide +kernel
theorem uGc_36 : uC_36.all goodWord = true := by decide +kernel
theorem uGc_37 : uC_37.all goodWord = true := by decide +kernel
theorem uGc_38 : uC_38.all goodWord = true := by decide +kernel
theorem uGc_39 : uC_39.all goodWord = true := by decide +kernel
theorem uGc_40 : uC_40.all goodWord = true := by decide +kernel
theorem uGc_41 : uC_41.all goodWord = true := by decide +kernel
theorem uGc_42 : uC_42.all goodWord = true := by decide +kernel
theorem uGc_43 : uC_43.all goodWord = true := by decide +kernel
theorem uGx_X9 : wsX90.all goodWord = true := by decide +kernel
theorem uGx_X10 : wsX100.all goodWord = true := by decide +kernel
theorem uGx_X4 : wsX40.all goodWord = true := by decide +kernel
theorem uGx_X8 : wsX80.all goodWord = true := by decide +kernel
theorem uGx_X5 : wsX50.all goodWord = true := by decide +kernel
theorem uGx_X3 : wsX30.all goodWord = true := by decide +kernel
theorem uGx_X0 : wsX00.all goodWord = true := by decide +kernel
theorem uGx_X7 : wsX70.all goodWord = true := by decide +kernel
theorem uGx_X1 : wsX10.all goodWord = true := by decide +kernel
theorem uGx_X2 : wsX20.all goodWord = true := by decide +kernel
theorem uGx_X6 : wsX60.all goodWord = true := by decide +kernel
theorem uG_app {a b : List Cond} (h1 : a.all goodWord = true) (h2 : b.all goodWord = true) : (a ++ b).all goodWord = true := by rw [List.all_append, h1, h2]; rfl
theorem uG_54 : uS_54.all goodWord = true := rfl
theorem uG_53 : uS_53.all goodWord = true := uG_app uGx_X6 uG_54
theorem uG_52 : uS_52.all goodWord = true := uG_app uGx_X2 uG_53
theorem uG_51 : uS_51.all goodWord = true := uG_app uGx_X1 uG_52
theorem uG_50 : uS_50.all goodWord = true := uG_app uGx_X7 uG_51
theorem uG_49 : uS_49.all goodWord = true := uG_app uGx_X0 uG_50
theorem uG_48 : uS_48.all goodWord = true := uG_app uGx_X3 uG_49
theorem uG_47 : uS_47.all goodWord = true := uG_app uGx_X5 uG_48
theorem uG_46 : uS_46.all goodWord = true := uG_app uGx_X8 uG_47
theorem uG_45 : uS_45.all goodWord = true := uG_app uGx_X4 uG_46
theorem uG_44 : uS_44.all goodWord = true := uG_app uGx_X10 uG_45
theorem uG_43 : uS_43.all goodWord = true := uG_app uGx_X9 uG_44
theorem uG_42 : uS_42.all goodWord = true := uG_app uGc_43 uG_43
theorem uG_41 : uS_41.all goodWord = true := uG_app uGc_42 uG_42
theorem uG_40 : uS_40.all goodWord = true := uG_app uGc_41 uG_41
theorem uG_39 : uS_39.all goodWord = true := uG_app uGc_40 uG_40
theorem uG_38 : uS_38.all goodWord = true := uG_app uGc_39 uG_39
theorem uG_37 : uS_37.all goodWord = true := uG_app uGc_38 uG_38
theorem uG_36 : uS_36.all goodWord = true := uG_app uGc_37 uG_37
theorem uG_35 : uS_35.all goodWord = true := uG_app uGc_36 uG_36
theorem uG_34 : uS_34.all goodWord = true := uG_app uGc_35 uG_35
theorem uG_33 : uS_33.all goodWord = true := uG_app uGc_34 uG_34
theorem uG_32 : uS_32.all goodWord = true := uG_app uGc_33 uG_33
theorem uG_31 : uS_31.all goodWord = true := uG_app uGc_32 uG_32
theorem uG_30 : uS_30.all goodWord = true := uG_app uGc_31 uG_31
theorem uG_29 : uS_29.all goodWord = true := uG_app uGc_30 uG_30
theorem uG_28 : uS_28.all goodWord = true := uG_app uGc_29 uG_29
theorem uG_27 : uS_27.all goodWord = true := uG_app uGc_28 uG_28
theorem uG_26 : uS_26.all goodWord = true := uG_app uGc_27 uG_27
theorem uG_25 : uS_25.all goodWord = true := uG_app uGc_26 uG_26
theorem uG_24 : uS_24.all goodWord = true := uG_app uGc_25 uG_25
theorem uG_23 : uS_23.all goodWord = true := uG_app uGc_24 uG_24
theorem uG_22 : uS_22.all goodWord = true := uG_app uGc_23 uG_23
theorem uG_21 : uS_21.all goodWord = true := uG_app uGc_22 uG_22
theorem uG_20 : uS_20.all goodWord = true := uG_app uGc_21 uG_21
theorem uG_19 : uS_19.all goodWord = true := uG_app uGc_20 uG_20
theorem uG_18 : uS_18.all goodWord = true := uG_app uGc_19 uG_19
theorem uG_17 : uS_17.all goodWord = true := uG_app uGc_18 uG_18
theorem uG_16 : uS_16.all goodWord = true := uG_app uGc_17 uG_17
theorem uG_15 : uS_15.all goodWord = true := uG_app uGc_16 uG_16
theorem uG_14 : uS_14.all goodWord = true := uG_app uGc_15 uG_15
theorem uG_13 : uS_13.all goodWord = true := uG_app uGc_14 uG_14
theorem uG_12 : uS_12.all goodWord = true := uG_app uGc_13 uG_13
theorem uG_11 : uS_11.all goodWord = true := uG_app uGc_12 uG_12
theorem uG_10 : uS_10.all goodWord = true := uG_app uGc_11 uG_11
theorem uG_9 : uS_9.all goodWord = true := uG_app uGc_10 uG_10
theorem uG_8 : uS_8.all goodWord = true := uG_app uGc_9 uG_9
theorem uG_7 : uS_7.all goodWord = true := uG_app uGc_8 uG_8
theorem uG_6 : uS_6.all goodWord = true := uG_app uGc_7 uG_7
theorem uG_5 : uS_5.all goodWord = true := uG_app uGc_6 uG_6
theorem uG_4 : uS_4.all goodWord = true := uG_app uGc_5 uG_5
theorem uG_3 : uS_3.all goodWord = true := uG_app uGc_4 uG_4
theorem uG_2 : uS_2.all goodWord = true := uG_app uGc_3 uG_3
theorem uG_1 : uS_1.all goodWord = true := uG_app uGc_2 uG_2
theorem uG_0 : uS_0.all goodWord = true := uG_app uGc_1 uG_1
theorem uGood : ∀ w ∈ uU, goodWord w = true := fun w h => List.all_eq_true.mp uG_0 w h
theorem uGin {c0 : Cond} {own C : String} {idx : Nat} {y : MethodName} {cd : Cond} (h1 : Cond.methodLink own idx y ∈ uU) (h2 : Cond.instanceMethod y ∈ uU) (h3 : Cond.selects C y y ∈ uU) (h4 : Cond.initialized C ∈ uU) (h5 : cd ∈ uU) : GoodIn (c0 :: uU) (wsV own idx C y (cd :: uU)) := by
  intro w hw
  have hm : w ∈ uU := by
    simp only [wsV, List.mem_append, List.mem_cons, List.not_mem_nil, or_false] at hw
    rcases hw with (rfl | rfl | rfl | rfl) | (rfl | hw)
    · exact h1
    · exact h2
    · exact h3
    · exact h4
    · exact h5
    · exact hw
  exact ⟨List.mem_cons_of_mem _ hm, good_of_word (uGood w hm)⟩
theorem uGinS {c0 : Cond} {own : String} {idx : Nat} {y : MethodName} {cd : Cond} (h1 : Cond.methodLink own idx y ∈ uU) (h2 : Cond.static y ∈ uU) (h3 : Cond.initialized y.cls ∈ uU) (h5 : cd ∈ uU) : GoodIn (c0 :: uU) (va_wsS own idx y (cd :: uU)) := by
  intro w hw
  have hm : w ∈ uU := by
    simp only [va_wsS, List.mem_append, List.mem_cons, List.not_mem_nil, or_false] at hw
    rcases hw with (rfl | rfl | rfl) | (rfl | hw)
    · exact h1
    · exact h2
    · exact h3
    · exact h5
    · exact hw
  exact ⟨List.mem_cons_of_mem _ hm, good_of_word (uGood w hm)⟩
end
section
/-! ===== the layer: a method's state as whole numbers; straight stretches of code as one function ===== -/
abbrev zV : Type := Nat × Int
abbrev zM : Type := List Int × List (Nat → Int)
abbrev zT : Type := List zM
abbrev zL : Type := List (Option zV)
abbrev zE : Type := (Nat × Nat × Nat) ⊕ (Nat × List (Nat ⊕ (Nat × Nat)))
abbrev zI (x : Int) : Prop := -2147483648 ≤ x ∧ x ≤ 2147483647
abbrev zJ (x : Int) : Prop := -9223372036854775808 ≤ x ∧ x ≤ 9223372036854775807
abbrev zin (x : Int) (n : Nat) : Prop := 0 ≤ x ∧ x < (n : Int)
abbrev zbit (x : Int) : Prop := x = 0 ∨ x = 1
def zg {α : Type} (d : α) : List α → Nat → α
  | [], _ => d
  | a :: _, 0 => a
  | _ :: l, n + 1 => zg d l n
def zo {α : Type} : List α → Nat → Option α
  | [], _ => none
  | a :: _, 0 => some a
  | _ :: l, n + 1 => zo l n
def zp {α : Type} : List α → Nat → α → List α
  | [], _, _ => []
  | _ :: l, 0, v => v :: l
  | a :: l, n + 1, v => a :: zp l n v
def zlk {α : Type} : List (Nat × α) → Nat → Option α
  | [], _ => none
  | a :: l, n => cond (Nat.beq a.1 n) (some a.2) (zlk l n)
def zu (f : Nat → Int) (k : Nat) (v : Int) : Nat → Int := fun j => if j = k then v else f j
def zgi (σ : zT) (m j : Nat) : Int := zg 0 (zg ([], []) σ m).1 j
def zga (σ : zT) (m i : Nat) : Nat → Int := zg (fun _ => 0) (zg ([], []) σ m).2 i
def zpi (σ : zT) (m j : Nat) (v : Int) : zT := zp σ m (zp (zg ([], []) σ m).1 j v, (zg ([], []) σ m).2)
def zpa (σ : zT) (m i : Nat) (f : Nat → Int) : zT := zp σ m ((zg ([], []) σ m).1, zp (zg ([], []) σ m).2 i f)
def zw (x : Int) : Int := (Int32.ofInt x).toInt
def zwl (x : Int) : Int := (Int64.ofInt x).toInt
def zand (x y : Int) : Int := (Int32.ofInt x &&& Int32.ofInt y).toInt
def zor (x y : Int) : Int := (Int32.ofInt x ||| Int32.ofInt y).toInt
def zxor (x y : Int) : Int := (Int32.ofInt x ^^^ Int32.ofInt y).toInt
def zshl (x y : Int) : Int := (Int32.ofInt x <<< (Int32.ofInt y &&& 31)).toInt
def zshr (x y : Int) : Int := (Int32.ofInt x >>> (Int32.ofInt y &&& 31)).toInt
def zushr (x y : Int) : Int := ((Int32.ofInt x).toUInt32 >>> ((Int32.ofInt y).toUInt32 &&& Int32.toUInt32 31)).toInt32.toInt
def zandl (x y : Int) : Int := (Int64.ofInt x &&& Int64.ofInt y).toInt
def zorl (x y : Int) : Int := (Int64.ofInt x ||| Int64.ofInt y).toInt
def zshll (x y : Int) : Int := (Int64.ofInt x <<< ((Int32.ofInt y).toInt64 &&& 63)).toInt
def zshrl (x y : Int) : Int := (Int64.ofInt x >>> ((Int32.ofInt y).toInt64 &&& 63)).toInt
def zushrl (x y : Int) : Int := ((Int64.ofInt x).toUInt64 >>> ((Int32.ofInt y).toInt64.toUInt64 &&& Int64.toUInt64 63)).toInt64.toInt
def zlc (x y : Int) : Int := if x < y then -1 else if x = y then 0 else 1
/-! what an instruction does: the Props that it asks, the locals, the stack, the cells -/
abbrev zO : Type := Option (List Prop × zL × List zV × zT)
def zi (t : Nat) : Bool := match t with
  | 0 => true
  | 3 => true
  | _ => false
def zil (t : Nat) : Bool := match t with
  | 1 => true
  | 4 => true
  | _ => false
def zr (t : Nat) (x : Int) : List Prop := match t with
  | 3 => [zI x]
  | _ => []
def zrl (t : Nat) (x : Int) : List Prop := match t with
  | 4 => [zJ x]
  | _ => []
def znrm (wr : Bool) (v : zV) : List Prop × zV := match v with
  | (3, x) => cond wr ([], (0, zw x)) ([zI x], (0, x))
  | (4, x) => cond wr ([], (1, zwl x)) ([zJ x], (1, x))
  | v => ([], v)
def zld (t : Nat) (L : zL) (st : List zV) (σ : zT) (k : Nat) : zO := match zg none L k with
  | some (u, x) => cond (Nat.beq u t) (some ([], L, (u, x) :: st, σ)) none
  | none => none
def zc1 (t : Nat) : Bool := match t with
  | 1 => false
  | 4 => false
  | _ => true
def zcl (L : zL) (k : Nat) : zL := match k with
  | 0 => L
  | k + 1 => match zg none L k with
    | some v => cond (zc1 v.1) L (zp L k none)
    | none => L
def zst (ok : Nat → Bool) (wide wr : Bool) (L : zL) (σ : zT) (k : Nat) (st : List zV) : zO := match st with
  | (t, x) :: r => cond (ok t) (match znrm wr (t, x) with
    | (ps, w) => some (ps, cond wide (zp (zp (zcl L k) k (some w)) (k + 1) none) (zp (zcl L k) k (some w)), r, σ)) none
  | [] => none
def zii (f : Int → Int → zV) (L : zL) (σ : zT) (st : List zV) : zO := match st with
  | (t1, y) :: (t2, x) :: r => cond (zi t1) (cond (zi t2) (some ([], L, f x y :: r, σ)) none) none
  | _ => none
def zll (f : Int → Int → zV) (L : zL) (σ : zT) (st : List zV) : zO := match st with
  | (t1, y) :: (t2, x) :: r => cond (zil t1) (cond (zil t2) (some ([], L, f x y :: r, σ)) none) none
  | _ => none
def zli (f : Int → Int → zV) (L : zL) (σ : zT) (st : List zV) : zO := match st with
  | (t1, y) :: (t2, x) :: r => cond (zi t1) (cond (zil t2) (some ([], L, f x y :: r, σ)) none) none
  | _ => none
def ziiv (f : Int → Int → zV) (ne : Bool) (L : zL) (σ : zT) (st : List zV) : zO := match st with
  | (t1, y) :: (t2, x) :: r => cond (zi t1) (cond (zi t2) (some (zr t2 x ++ (zr t1 y ++ cond ne [y ≠ 0] []), L, f x y :: r, σ)) none) none
  | _ => none
def zllv (f : Int → Int → zV) (ne : Bool) (L : zL) (σ : zT) (st : List zV) : zO := match st with
  | (t1, y) :: (t2, x) :: r => cond (zil t1) (cond (zil t2) (some (zrl t2 x ++ (zrl t1 y ++ cond ne [y ≠ 0] []), L, f x y :: r, σ)) none) none
  | _ => none
abbrev zEnv : Type := List (Nat × Nat × Nat × Nat) × List (Nat × Int) × List (Nat × Int) × List (Nat × Bool)
def zgf (Λ : List zE) (E : zEnv) (L : zL) (σ : zT) (q : Nat) (st : List zV) : zO := match st with
  | (t, a) :: r => cond (Nat.beq t 2) (match zlk E.1 q with
    | some (ci, j, _) => match zo Λ a.toNat with
      | some (.inr (di, fs)) => cond (Nat.beq di ci) (match zo fs j with
        | some (.inl k) => some ([], L, (2, Int.ofNat k) :: r, σ)
        | some (.inr (m, i)) => match zo σ m with
          | some (is, _) => match zo is i with
            | some x => some ([], L, (0, x) :: r, σ)
            | none => none
          | none => none
        | none => none) none
      | _ => none
    | none => none) none
  | _ => none
def zpf (Λ : List zE) (E : zEnv) (wr : Bool) (L : zL) (σ : zT) (q : Nat) (st : List zV) : zO := match st with
  | (u, x) :: (t, a) :: r => cond (zi u) (cond (Nat.beq t 2) (match zlk E.1 q with
    | some (ci, j, kd) => match zo Λ a.toNat with
      | some (.inr (di, fs)) => cond (Nat.beq di ci) (match zo fs j with
        | some (.inr (m, i)) => match kd with
          | 1 => match znrm wr (u, x) with
            | (ps, _, y) => some (ps, L, r, zpi σ m i y)
          | 2 => some ([zbit x], L, r, zpi σ m i x)
          | _ => none
        | _ => none) none
      | _ => none
    | none => none) none) none
  | _ => none
def zal (Λ : List zE) (L : zL) (σ : zT) (st : List zV) : zO := match st with
  | (u, x) :: (t, a) :: r => cond (zi u) (cond (Nat.beq t 2) (match zo Λ a.toNat with
    | some (.inl (m, i, n)) => match zo σ m with
      | some (_, fs) => match zo fs i with
        | some f => some ([zin x n], L, (0, f x.toNat) :: r, σ)
        | none => none
      | none => none
    | _ => none) none) none
  | _ => none
def zas (Λ : List zE) (wr : Bool) (L : zL) (σ : zT) (st : List zV) : zO := match st with
  | (w, y) :: (u, x) :: (t, a) :: r => cond (zi w) (cond (zi u) (cond (Nat.beq t 2) (match zo Λ a.toNat with
    | some (.inl (m, i, n)) => match zo σ m with
      | some (_, fs) => match zo fs i with
        | some f => match znrm wr (w, y) with
          | (ps, _, z) => some (zin x n :: ps, L, r, zpa σ m i (zu f x.toNat z))
        | none => none
      | none => none
    | _ => none) none) none) none
  | _ => none
def zalen (Λ : List zE) (L : zL) (σ : zT) (st : List zV) : zO := match st with
  | (t, a) :: r => cond (Nat.beq t 2) (match zo Λ a.toNat with
    | some (.inl (_, _, n)) => some ([], L, (0, Int.ofNat n) :: r, σ)
    | _ => none) none
  | _ => none
def zct : List zV → Nat
  | [] => 0
  | v :: r => cond (zc1 v.1) 1 2 + zct r
def zmm (E : zEnv) (L : zL) (σ : zT) (q : Nat) (st : List zV) : zO := match st with
  | (t1, y) :: (t2, x) :: r => cond (zi t1) (cond (zi t2) (cond (Nat.ble (zct r) 8) (match zlk E.2.2.2 q with
    | some true => some (zr t2 x ++ zr t1 y, L, (0, max x y) :: r, σ)
    | some false => some (zr t2 x ++ zr t1 y, L, (0, min x y) :: r, σ)
    | none => none) none) none) none
  | _ => none
def zx (Λ : List zE) (E : zEnv) (wr : Bool) (i : Instr) (L : zL) (st : List zV) (σ : zT) : zO := match i with
  | .iconst n => some ([], L, (0, n) :: st, σ)
  | .bipush n => some ([], L, (0, n) :: st, σ)
  | .sipush n => some ([], L, (0, n) :: st, σ)
  | .lconst n => some ([], L, (match n.val with | 0 => (1, 0) | _ => (1, 1)) :: st, σ)
  | .ldc q => match zlk E.2.1 q with
    | some v => some ([], L, (0, v) :: st, σ)
    | none => none
  | .ldc_w q => match zlk E.2.1 q with
    | some v => some ([], L, (0, v) :: st, σ)
    | none => none
  | .ldc2_w q => match zlk E.2.2.1 q with
    | some v => some ([], L, (1, v) :: st, σ)
    | none => none
  | .iload k => zld 0 L st σ k
  | .iload_n k => zld 0 L st σ k.val
  | .lload k => zld 1 L st σ k
  | .lload_n k => zld 1 L st σ k.val
  | .aload k => zld 2 L st σ k
  | .aload_n k => zld 2 L st σ k.val
  | .istore k => zst zi false wr L σ k st
  | .istore_n k => zst zi false wr L σ k.val st
  | .lstore k => zst zil true wr L σ k st
  | .lstore_n k => zst zil true wr L σ k.val st
  | .astore k => zst (Nat.beq 2) false wr L σ k st
  | .astore_n k => zst (Nat.beq 2) false wr L σ k.val st
  | .iinc k n => match zg none L k with
    | some (t, x) => cond (Nat.beq t 0) (some ([zI (x + n)], zp L k (some (0, x + n)), st, σ)) none
    | none => none
  | .iadd => zii (fun x y => (3, x + y)) L σ st
  | .isub => zii (fun x y => (3, x - y)) L σ st
  | .imul => zii (fun x y => (3, x * y)) L σ st
  | .iand => zii (fun x y => (0, zand x y)) L σ st
  | .ior => zii (fun x y => (0, zor x y)) L σ st
  | .ixor => zii (fun x y => (0, zxor x y)) L σ st
  | .ishl => zii (fun x y => (0, zshl x y)) L σ st
  | .ishr => zii (fun x y => (0, zshr x y)) L σ st
  | .iushr => zii (fun x y => (0, zushr x y)) L σ st
  | .idiv => ziiv (fun x y => (3, x.tdiv y)) true L σ st
  | .irem => ziiv (fun x y => (0, x.tmod y)) true L σ st
  | .ladd => zll (fun x y => (4, x + y)) L σ st
  | .lsub => zll (fun x y => (4, x - y)) L σ st
  | .lmul => zll (fun x y => (4, x * y)) L σ st
  | .land => zll (fun x y => (1, zandl x y)) L σ st
  | .lor => zll (fun x y => (1, zorl x y)) L σ st
  | .lshl => zli (fun x y => (1, zshll x y)) L σ st
  | .lshr => zli (fun x y => (1, zshrl x y)) L σ st
  | .lushr => zli (fun x y => (1, zushrl x y)) L σ st
  | .ldiv => zllv (fun x y => (4, x.tdiv y)) true L σ st
  | .lrem => zllv (fun x y => (1, x.tmod y)) true L σ st
  | .lcmp => zllv (fun x y => (0, zlc x y)) false L σ st
  | .lneg => match st with
    | (t, x) :: r => cond (zil t) (some ([], L, (4, -x) :: r, σ)) none
    | _ => none
  | .ineg => match st with
    | (t, x) :: r => cond (zi t) (some ([], L, (3, -x) :: r, σ)) none
    | _ => none
  | .i2l => match st with
    | (t, x) :: r => cond (zi t) (some (zr t x, L, (1, x) :: r, σ)) none
    | _ => none
  | .l2i => match st with
    | (t, x) :: r => cond (zil t) (some ([], L, (3, x) :: r, σ)) none
    | _ => none
  | .getfield q => zgf Λ E L σ q st
  | .putfield q => zpf Λ E wr L σ q st
  | .iaload => zal Λ L σ st
  | .iastore => zas Λ wr L σ st
  | .arraylength => zalen Λ L σ st
  | .dup => match st with
    | v :: r => cond (zc1 v.1) (some ([], L, v :: v :: r, σ)) none
    | _ => none
  | .pop => match st with
    | v :: r => cond (zc1 v.1) (some ([], L, r, σ)) none
    | _ => none
  | .dup2 => match st with
    | v :: w :: r => cond (zc1 v.1) (cond (zc1 w.1) (some ([], L, v :: w :: v :: w :: r, σ)) none) none
    | _ => none
  | .invokestatic q => zmm E L σ q st
  | _ => none
def zxs (Λ : List zE) (E : zEnv) (wr : Bool) : List (Instr × Nat) → zL → List zV → zT → zO
  | [], L, st, σ => some ([], L, st, σ)
  | i :: r, L, st, σ => match zx Λ E wr i.1 L st σ with
    | some (ps, L', st', σ') => match zxs Λ E wr r L' st' σ' with
      | some (qs, L2, st2, σ2) => some (ps ++ qs, L2, st2, σ2)
      | none => none
    | none => none
def zcj : List Prop → Prop
  | [] => True
  | [p] => p
  | p :: q :: r => p ∧ zcj (q :: r)
/-- what of an instruction is looked at once: its length, its literals, its local -/
def zlit (nL : Nat) (i : Instr) (n : Nat) : Bool := match i with
  | .iconst v => decide (n = 1 ∧ zI v)
  | .bipush v => decide (n = 2 ∧ -128 ≤ v ∧ v ≤ 127)
  | .sipush v => decide (n = 3 ∧ -32768 ≤ v ∧ v ≤ 32767)
  | .ldc _ => n == 2
  | .ldc_w _ => n == 3
  | .ldc2_w _ => n == 3
  | .iload _ => n == 2
  | .lload _ => n == 2
  | .aload _ => n == 2
  | .istore k => n == 2 && Nat.blt k nL
  | .lstore k => n == 2 && Nat.blt (k + 1) nL
  | .astore k => n == 2 && Nat.blt k nL
  | .istore_n k => n == 1 && Nat.blt k.val nL
  | .lstore_n k => n == 1 && Nat.blt (k.val + 1) nL
  | .astore_n k => n == 1 && Nat.blt k.val nL
  | .iinc k _ => n == 3 && Nat.blt k nL
  | .getfield _ => n == 3
  | .putfield _ => n == 3
  | .invokestatic _ => n == 3
  | _ => n == 1
def zdk (cc : ByteArray) (nL : Nat) : Nat → List (Instr × Nat) → Nat → Bool
  | pc, [], z => Nat.beq pc z
  | pc, i :: r, z => decide (decode cc pc = .ok i) && zlit nL i.1 i.2 && zdk cc nL (pc + i.2) r z
/-! the worlds that the cells stand for -/
def zokV (v : zV) : Prop := match v with
  | (0, x) => zI x
  | (1, x) => zJ x
  | _ => True
def zc (ad : Nat → Nat) (v : zV) : Value := match v with
  | (1, x) => .long (Int64.ofInt x)
  | (2, x) => .ref (ad x.toNat)
  | (4, x) => .long (Int64.ofInt x)
  | (_, x) => .int (Int32.ofInt x)
def zF (ad : Nat → Nat) (σ : zT) (f : Nat ⊕ (Nat × Nat)) : Value := match f with
  | .inl k => .ref (ad k)
  | .inr mj => .int (Int32.ofInt (zgi σ mj.1 mj.2))
def zEc (cA : ClassId) (ad : Nat → Nat) (σ : zT) (e : zE) : va_E := match e with
  | .inl a => .inl (cA, a.2.2, .inl (fun q => Int32.ofInt (zga σ a.1 a.2.1 q)))
  | .inr o => .inr (o.1, o.2.map (zF ad σ))
def zW (cA : ClassId) (ad : Nat → Nat) (σ : zT) : Nat → List zE → va_W
  | _, [] => []
  | k, e :: r => (ad k, zEc cA ad σ e) :: zW cA ad σ (k + 1) r
def zA (ad : Nat → Nat) : Nat → zL → List (Nat × Value)
  | _, [] => []
  | k, none :: r => zA ad (k + 1) r
  | k, some v :: r => (k, zc ad v) :: zA ad (k + 1) r
def zok (shp : List (Nat × Nat)) (σ : zT) : Prop := σ.map (fun M => (M.1.length, M.2.length)) = shp ∧ (∀ m j, zI (zgi σ m j)) ∧ ∀ m i q, zI (zga σ m i q)
def zokL (L : zL) : Prop := ∀ i v, zg none L i = some v → zokV v
def zokT (st : List zV) : Prop := ∀ v ∈ st, zokV v
/-- a layout whose cells share nothing -/
def zLok (Λ : List zE) (shp : List (Nat × Nat)) : Prop :=
  (∀ k, k < Λ.length → match zo Λ k with
    | some (.inl a) => a.1 < shp.length ∧ a.2.1 < (zg (0, 0) shp a.1).2 ∧ a.2.2 < 2147483648
    | some (.inr o) => ∀ j, j < o.2.length → match zo o.2 j with
      | some (.inr mj) => mj.1 < shp.length ∧ mj.2 < (zg (0, 0) shp mj.1).1
      | some (.inl k) => k < Λ.length
      | none => True
    | none => True) ∧
  (∀ k, k < Λ.length → ∀ k2, k2 < Λ.length → match zo Λ k, zo Λ k2 with
    | some (.inl a), some (.inl b) => k = k2 ∨ ¬ (a.1 = b.1 ∧ a.2.1 = b.2.1)
    | some (.inr o), some (.inr u) => ∀ j, j < o.2.length → ∀ j2, j2 < u.2.length → match zo o.2 j, zo u.2 j2 with
      | some (.inr x), some (.inr y) => (k = k2 ∧ j = j2) ∨ ¬ (x.1 = y.1 ∧ x.2 = y.2)
      | _, _ => True
    | _, _ => True)
theorem zo_get {α : Type} (l : List α) (k : Nat) : zo l k = l[k]? := by
  induction l generalizing k with
  | nil => simp [zo]
  | cons a l ih => cases k with
    | zero => simp [zo]
    | succ k => simp [zo, ih]
theorem zg_get {α : Type} (d : α) (l : List α) (k : Nat) : zg d l k = (l[k]?).getD d := by
  induction l generalizing k with
  | nil => simp [zg]
  | cons a l ih => cases k with
    | zero => simp [zg]
    | succ k => simp [zg, ih]
theorem zp_set {α : Type} (l : List α) (k : Nat) (v : α) : zp l k v = l.set k v := by
  induction l generalizing k with
  | nil => simp [zp]
  | cons a l ih => cases k with
    | zero => simp [zp]
    | succ k => simp [zp, ih]
theorem zg_zp {α : Type} (d : α) (l : List α) (k j : Nat) (v : α) : zg d (zp l k v) j = if j = k ∧ k < l.length then v else zg d l j := by
  rw [zp_set, zg_get, zg_get, List.getElem?_set]
  by_cases h : k = j
  · subst h
    by_cases h2 : k < l.length
    · simp [h2]
    · simp [h2]
  · simp [h, Ne.symm h]
theorem zW_get (cA : ClassId) (ad : Nat → Nat) (σ : zT) (Λ : List zE) (b k : Nat) : (zW cA ad σ b Λ)[k]? = (zo Λ k).map (fun e => (ad (b + k), zEc cA ad σ e)) := by
  induction Λ generalizing b k with
  | nil => simp [zW, zo]
  | cons e r ih => cases k with
    | zero => simp [zW, zo]
    | succ k => simp [zW, zo, ih, Nat.add_assoc, Nat.add_comm 1 k]
theorem zW_len (cA : ClassId) (ad : Nat → Nat) (σ : zT) (Λ : List zE) (b : Nat) : (zW cA ad σ b Λ).length = Λ.length := by
  induction Λ generalizing b with
  | nil => rfl
  | cons e r ih => simp [zW, ih]
theorem zA_mem (ad : Nat → Nat) (L : zL) (b : Nat) (q : Nat × Value) : q ∈ zA ad b L ↔ ∃ k v, q = (b + k, zc ad v) ∧ zg none L k = some v := by
  induction L generalizing b with
  | nil => simp [zA, zg]
  | cons o r ih =>
    cases o with
    | none =>
      simp only [zA, ih]
      constructor
      · rintro ⟨k, v, h1, h2⟩
        exact ⟨k + 1, v, by rw [h1]; congr 1; omega, by simpa [zg] using h2⟩
      · rintro ⟨k, v, h1, h2⟩
        cases k with
        | zero => simp [zg] at h2
        | succ k => exact ⟨k, v, by rw [h1]; congr 1; omega, by simpa [zg] using h2⟩
    | some w =>
      simp only [zA, List.mem_cons, ih]
      constructor
      · rintro (h | ⟨k, v, h1, h2⟩)
        · exact ⟨0, w, by simpa using h, rfl⟩
        · exact ⟨k + 1, v, by rw [h1]; congr 1; omega, by simpa [zg] using h2⟩
      · rintro ⟨k, v, h1, h2⟩
        cases k with
        | zero =>
          simp [zg] at h2
          subst h2
          exact Or.inl (by simpa using h1)
        | succ k => exact Or.inr ⟨k, v, by rw [h1]; congr 1; omega, by simpa [zg] using h2⟩
theorem zA_read {ls : Array Slot} {n : Nat} {ad : Nat → Nat} {L : zL} (h : lv_has ls n (zA ad 0 L)) {k : Nat} {v : zV} (hk : zg none L k = some v) : ls[k]? = some (.val (zc ad v)) := by
  have := h.2.2 (k, zc ad v) ((zA_mem ad L 0 _).mpr ⟨k, v, by simp, hk⟩)
  exact this
theorem zmap_set {α β : Type} (f : α → β) (l : List α) (k : Nat) (a d : α) (h : f a = f (zg d l k)) : (zp l k a).map f = l.map f := by
  rw [zp_set]
  apply List.ext_getElem?
  intro i
  rw [List.getElem?_map, List.getElem?_map, List.getElem?_set]
  by_cases hk : k = i
  · subst hk
    by_cases h2 : k < l.length
    · simp only [h2, if_true]
      rw [Option.map_some, h, zg_get, List.getElem?_eq_getElem h2]
      rfl
    · simp [h2]
  · simp [hk]
theorem zg_map (shp : List (Nat × Nat)) (σ : zT) (m : Nat) (h : σ.map (fun M => (M.1.length, M.2.length)) = shp) : zg (0, 0) shp m = ((zg ([], []) σ m).1.length, (zg ([], []) σ m).2.length) := by
  subst h
  rw [zg_get, zg_get, List.getElem?_map]
  cases σ[m]? <;> rfl
theorem zp_len {α : Type} (l : List α) (k : Nat) (v : α) : (zp l k v).length = l.length := by rw [zp_set]; simp
theorem zgi_zpi (σ : zT) (m j m2 j2 : Nat) (v : Int) : zgi (zpi σ m j v) m2 j2 = if (m2 = m ∧ m < σ.length) ∧ (j2 = j ∧ j < (zg ([], []) σ m).1.length) then v else zgi σ m2 j2 := by
  unfold zgi zpi
  rw [zg_zp]
  by_cases h : m2 = m ∧ m < σ.length
  · rw [if_pos h]
    show zg 0 (zp (zg ([], []) σ m).1 j v) j2 = _
    rw [zg_zp]
    obtain ⟨rfl, h2⟩ := h
    by_cases h3 : j2 = j ∧ j < (zg ([], []) σ m2).1.length
    · simp [h3, h2]
    · rw [if_neg h3, if_neg (fun q => h3 q.2)]
  · rw [if_neg h, if_neg (fun q => h q.1)]
theorem zga_zpi (σ : zT) (m j m2 i2 : Nat) (v : Int) : zga (zpi σ m j v) m2 i2 = zga σ m2 i2 := by
  unfold zga zpi
  rw [zg_zp]
  by_cases h : m2 = m ∧ m < σ.length
  · rw [if_pos h]
    obtain ⟨rfl, h2⟩ := h
    rfl
  · rw [if_neg h]
theorem zgi_zpa (σ : zT) (m i m2 j2 : Nat) (f : Nat → Int) : zgi (zpa σ m i f) m2 j2 = zgi σ m2 j2 := by
  unfold zgi zpa
  rw [zg_zp]
  by_cases h : m2 = m ∧ m < σ.length
  · rw [if_pos h]
    obtain ⟨rfl, h2⟩ := h
    rfl
  · rw [if_neg h]
theorem zga_zpa (σ : zT) (m i m2 i2 : Nat) (f : Nat → Int) : zga (zpa σ m i f) m2 i2 = if (m2 = m ∧ m < σ.length) ∧ (i2 = i ∧ i < (zg ([], []) σ m).2.length) then f else zga σ m2 i2 := by
  unfold zga zpa
  rw [zg_zp]
  by_cases h : m2 = m ∧ m < σ.length
  · rw [if_pos h]
    show zg (fun _ => 0) (zp (zg ([], []) σ m).2 i f) i2 = _
    rw [zg_zp]
    obtain ⟨rfl, h2⟩ := h
    by_cases h3 : i2 = i ∧ i < (zg ([], []) σ m2).2.length
    · simp [h3, h2]
    · rw [if_neg h3, if_neg (fun q => h3 q.2)]
  · rw [if_neg h, if_neg (fun q => h q.1)]
theorem zok_zpi {shp : List (Nat × Nat)} {σ : zT} (h : zok shp σ) (m j : Nat) {v : Int} (hv : zI v) : zok shp (zpi σ m j v) := by
  refine ⟨?_, fun m2 j2 => ?_, fun m2 i2 q => ?_⟩
  · rw [← h.1]
    exact zmap_set _ σ m _ ([], []) (by simp [zp_len])
  · rw [zgi_zpi]
    split
    · exact hv
    · exact h.2.1 m2 j2
  · rw [zga_zpi]
    exact h.2.2 m2 i2 q
theorem zok_zpa {shp : List (Nat × Nat)} {σ : zT} (h : zok shp σ) (m i : Nat) {f : Nat → Int} (hv : ∀ q, zI (f q)) : zok shp (zpa σ m i f) := by
  refine ⟨?_, fun m2 j2 => ?_, fun m2 i2 q => ?_⟩
  · rw [← h.1]
    exact zmap_set _ σ m _ ([], []) (by simp [zp_len])
  · rw [zgi_zpa]
    exact h.2.1 m2 j2
  · rw [zga_zpa]
    split
    · exact hv q
    · exact h.2.2 m2 i2 q
theorem zo_lt {α : Type} {l : List α} {k : Nat} {a : α} (h : zo l k = some a) : k < l.length := by
  rw [zo_get] at h
  exact (List.getElem?_eq_some_iff.mp h).1
theorem zW_putA {Λ : List zE} {shp : List (Nat × Nat)} (hΛ : zLok Λ shp) {σ : zT} (hok : zok shp σ) (cA : ClassId) (ad : Nat → Nat) {k : Nat} {a : Nat × Nat × Nat} (hk : zo Λ k = some (.inl a)) (f : Nat → Int) : (zW cA ad σ 0 Λ).set k (ad k, .inl (cA, a.2.2, .inl (fun q => Int32.ofInt (f q)))) = zW cA ad (zpa σ a.1 a.2.1 f) 0 Λ := by
  have hkl := zo_lt hk
  have h1 := hΛ.1 k hkl
  rw [hk] at h1
  have hlen : σ.length = shp.length := by rw [← hok.1]; simp
  have hm : a.1 < σ.length := by rw [hlen]; exact h1.1
  have hi : a.2.1 < (zg ([], []) σ a.1).2.length := by
    have := h1.2.1
    rw [zg_map shp σ a.1 hok.1] at this
    exact this
  apply List.ext_getElem?
  intro i
  rw [List.getElem?_set, zW_get, zW_get, zW_len]
  by_cases hik : k = i
  · subst hik
    simp only [hkl, if_true, hk, Option.map_some, Nat.zero_add, zEc]
    rw [zga_zpa, if_pos ⟨⟨rfl, hm⟩, rfl, hi⟩]
  · rw [if_neg hik]
    cases hz : zo Λ i with
    | none => rfl
    | some e =>
      simp only [Option.map_some]
      congr 2
      have h2 := hΛ.2 k hkl i (zo_lt hz)
      rw [hk, hz] at h2
      cases e with
      | inl b =>
        simp only [zEc]
        rw [zga_zpa, if_neg]
        intro q
        rcases h2 with h2 | h2
        · exact hik h2
        · exact h2 ⟨q.1.1.symm, q.2.1.symm⟩
      | inr o =>
        simp only [zEc]
        congr 2
        apply List.map_congr_left
        intro f' _
        cases f' with
        | inl k => rfl
        | inr mj => simp [zF, zgi_zpa]
theorem zW_putI {Λ : List zE} {shp : List (Nat × Nat)} (hΛ : zLok Λ shp) {σ : zT} (hok : zok shp σ) (cA : ClassId) (ad : Nat → Nat) {k j : Nat} {o : Nat × List (Nat ⊕ (Nat × Nat))} {mj : Nat × Nat} (hk : zo Λ k = some (.inr o)) (hj : zo o.2 j = some (.inr mj)) (v : Int) : (zW cA ad σ 0 Λ).set k (ad k, .inr (o.1, (o.2.map (zF ad σ)).set j (.int (Int32.ofInt v)))) = zW cA ad (zpi σ mj.1 mj.2 v) 0 Λ := by
  have hkl := zo_lt hk
  have hjl := zo_lt hj
  have h1 := hΛ.1 k hkl
  rw [hk] at h1
  have h1 := h1 j hjl
  rw [hj] at h1
  have hlen : σ.length = shp.length := by rw [← hok.1]; simp
  have hm : mj.1 < σ.length := by rw [hlen]; exact h1.1
  have hi : mj.2 < (zg ([], []) σ mj.1).1.length := by
    have := h1.2
    rw [zg_map shp σ mj.1 hok.1] at this
    exact this
  apply List.ext_getElem?
  intro i
  rw [List.getElem?_set, zW_get, zW_get, zW_len]
  by_cases hik : k = i
  · subst hik
    simp only [hkl, if_true, hk, Option.map_some, Nat.zero_add, zEc]
    congr 4
    apply List.ext_getElem?
    intro j2
    rw [List.getElem?_set, List.getElem?_map, List.getElem?_map, List.length_map]
    by_cases hj2 : j = j2
    · subst hj2
      rw [zo_get] at hj
      simp only [hjl, if_true, hj, Option.map_some, zF]
      rw [zgi_zpi, if_pos ⟨⟨rfl, hm⟩, rfl, hi⟩]
    · rw [if_neg hj2]
      cases hz : o.2[j2]? with
      | none => rfl
      | some f' =>
        simp only [Option.map_some]
        congr 1
        cases f' with
        | inl k => rfl
        | inr u =>
          simp only [zF]
          rw [zgi_zpi, if_neg]
          intro q
          have h2 := hΛ.2 k hkl k hkl
          rw [hk] at h2
          have h2 := h2 j hjl j2 (List.getElem?_eq_some_iff.mp hz).1
          rw [hj, zo_get, hz] at h2
          rcases h2 with h2 | h2
          · exact hj2 h2.2
          · exact h2 ⟨q.1.1.symm, q.2.1.symm⟩
  · rw [if_neg hik]
    cases hz : zo Λ i with
    | none => rfl
    | some e =>
      simp only [Option.map_some]
      congr 2
      have h2 := hΛ.2 k hkl i (zo_lt hz)
      rw [hk, hz] at h2
      cases e with
      | inl b => simp only [zEc, zga_zpi]
      | inr u =>
        simp only [zEc]
        congr 2
        apply List.ext_getElem?
        intro j2
        rw [List.getElem?_map, List.getElem?_map]
        cases hz2 : u.2[j2]? with
        | none => rfl
        | some f' =>
          simp only [Option.map_some]
          congr 1
          cases f' with
          | inl k => rfl
          | inr w =>
            simp only [zF]
            rw [zgi_zpi, if_neg]
            intro q
            have h3 := h2 j hjl j2 (List.getElem?_eq_some_iff.mp hz2).1
            rw [hj, zo_get, hz2] at h3
            rcases h3 with h3 | h3
            · exact hik h3.1
            · exact h3 ⟨q.1.1.symm, q.2.1.symm⟩
end
section
def zFl (Ts : List Cond) (own : String) (q : Nat) (f : Nat × Nat × Nat) : Prop :=
  ∃ (C : String) (T : u_T) (N : Nat) (ty : Nat → FieldType), vwCl[f.1]? = some (C, T, N) ∧ f.2.1 < N ∧ (∀ w ∈ u_ws C T N, w ∈ Ts) ∧ Cond.fieldLink own q (T f.2.1).1 (T f.2.1).2.1 (T f.2.1).2.2.1 ∈ Ts ∧
    (∀ k, k < N → parseFieldDescriptor (T k).2.2.1 = some (ty k)) ∧ (∀ a, a < N → ∀ b, b < N → a ≠ b → (T a).2.1 ≠ (T b).2.1) ∧
    (f.2.2 = 1 → (T f.2.1).2.2.2 = false ∧ parseFieldDescriptor (T f.2.1).2.2.1 = some .int) ∧ (f.2.2 = 2 → (T f.2.1).2.2.2 = false ∧ parseFieldDescriptor (T f.2.1).2.2.1 = some .boolean)
def zEok (Ts : List Cond) (own : String) (E : zEnv) : Prop :=
  (∀ q f, zlk E.1 q = some f → zFl Ts own q f) ∧
  (∀ q v, zlk E.2.1 q = some v → zI v ∧ Cond.constant own q (Int32.ofInt v) ∈ Ts) ∧
  (∀ q v, zlk E.2.2.1 q = some v → zJ v ∧ Cond.constantLong own q (Int64.ofInt v) ∈ Ts) ∧
  (∀ q b, zlk E.2.2.2 q = some b → Cond.initialized "java/lang/Math" ∈ Ts ∧
    (b = true → Cond.methodLink own q Lib.Math.max.name ∈ Ts ∧ Cond.static Lib.Math.max.name ∈ Ts ∧ Cond.code Lib.Math.max.name Lib.Math.max.code 2 (some .int) ∈ Ts) ∧
    (b = false → Cond.methodLink own q Lib.Math.min.name ∈ Ts ∧ Cond.static Lib.Math.min.name ∈ Ts ∧ Cond.code Lib.Math.min.name Lib.Math.min.code 2 (some .int) ∈ Ts))
/-- what stands fast while a method runs -/
def zC (p : Program) (R : Room) (s : State) (m : MethodId) (args : Array Value) (c : Code) (D : va_G) (cA : ClassId) (A : Nat → Prop) (Λ : List zE) (shp : List (Nat × Nat)) (cc : ByteArray) (own : String) (nL : Nat) (Ts : List Cond) (E : zEnv) : Prop :=
  p.tables.exec = Jvm.exec ∧ c.code = cc ∧ c.maxLocals = nL ∧ s.vm.findClass own = some m.cls ∧ (∀ w ∈ Ts, w.before args s = true) ∧ va_K D vwCl [(cA, .int)] s ∧ (∀ q : Nat, s.heap.size ≤ q → A q) ∧ zLok Λ shp ∧ zEok Ts own E ∧ (E.2.2.2 = [] ∨ (1 ≤ R.frames ∧ 21 ≤ R.locals))
def zS (p : Program) (l : Launch) (e : Env) (R : Room) (s : State) (m : MethodId) (args : Array Value) (below : List Frame) (meth : Method) (c : Code) (Q : State → Prop) (D : va_G) (cA : ClassId) (ad : Nat → Nat) (A : Nat → Prop) (Λ : List zE) (shp : List (Nat × Nat)) (nL : Nat) (pc : Nat) (L : zL) (st : List zV) (σ : zT) : Prop :=
  zok shp σ → zokL L → zokT st → ∀ (H : Heap) (locs : List Loc) (ls : Array Slot), va_P D vwCl (zW cA ad σ 0 Λ) H → va_D A (zW cA ad σ 0 Λ) → va_S A s.heap H locs → lv_has ls nL (zA ad 0 L) → W p l e R s m args below meth c H locs 0 0 Q (F0 m pc ls (st.map (zc ad)))
theorem zokT_tl {v : zV} {r : List zV} (h : zokT (v :: r)) : zokT r := fun w hw => h w (List.mem_cons_of_mem _ hw)
theorem zokT_hd {v : zV} {r : List zV} (h : zokT (v :: r)) : zokV v := h v List.mem_cons_self
theorem zokT_cons {v : zV} {r : List zV} (hv : zokV v) (h : zokT r) : zokT (v :: r) := fun w hw => by
  rcases List.mem_cons.mp hw with rfl | hw
  · exact hv
  · exact h w hw
theorem zc_i {t : Nat} (h : zi t = true) (ad : Nat → Nat) (x : Int) : zc ad (t, x) = .int (Int32.ofInt x) := by
  match t, h with
  | 0, _ => rfl
  | 3, _ => rfl
theorem zc_l {t : Nat} (h : zil t = true) (ad : Nat → Nat) (x : Int) : zc ad (t, x) = .long (Int64.ofInt x) := by
  match t, h with
  | 1, _ => rfl
  | 4, _ => rfl
theorem zcond {b : Bool} {α : Type} {x : Option α} {y : α} (h : cond b x none = some y) : b = true ∧ x = some y := by
  cases b with
  | true => exact ⟨rfl, h⟩
  | false => cases h
theorem zI_of32 (x : Int32) : zI x.toInt := ⟨x.le_toInt, by have := x.toInt_lt; omega⟩
theorem zJ_of64 (x : Int64) : zJ x.toInt := ⟨x.le_toInt, by have := x.toInt_lt; omega⟩
theorem zti {x : Int} (h : zI x) : (Int32.ofInt x).toInt = x := Int32.toInt_ofInt_of_le h.1 (by have := h.2; omega)
theorem ztl {x : Int} (h : zJ x) : (Int64.ofInt x).toInt = x := Int64.toInt_ofInt_of_le h.1 (by have := h.2; omega)
theorem zoi (x : Int32) : Int32.ofInt x.toInt = x := Int32.ofInt_toInt x
theorem zol (x : Int64) : Int64.ofInt x.toInt = x := Int64.ofInt_toInt x
theorem zw_ok (x : Int) : zI (zw x) := zI_of32 _
theorem zwl_ok (x : Int) : zJ (zwl x) := zJ_of64 _
theorem zcj_cons {p : Prop} {r : List Prop} (h : zcj (p :: r)) : p ∧ zcj r := by
  cases r with
  | nil => exact ⟨h, trivial⟩
  | cons q r => exact h
theorem zcj_append {a b : List Prop} (h : zcj (a ++ b)) : zcj a ∧ zcj b := by
  induction a with
  | nil => exact ⟨trivial, h⟩
  | cons p r ih =>
    obtain ⟨h1, h2⟩ := zcj_cons h
    obtain ⟨h3, h4⟩ := ih h2
    cases r with
    | nil => exact ⟨h1, h4⟩
    | cons q r => exact ⟨⟨h1, h3⟩, h4⟩
theorem znrm_ok {wr : Bool} {v : zV} (hv : zokV v) (h : zcj (znrm wr v).1) : zokV (znrm wr v).2 := by
  obtain ⟨t, x⟩ := v
  match t, hv, h with
  | 0, hv, _ => exact hv
  | 1, hv, _ => exact hv
  | 2, _, _ => trivial
  | 3, _, h => cases wr with
    | true => exact zw_ok x
    | false => exact h
  | 4, _, h => cases wr with
    | true => exact zwl_ok x
    | false => exact h
  | n + 5, _, _ => trivial
theorem znrm_c (wr : Bool) (ad : Nat → Nat) (v : zV) : zc ad (znrm wr v).2 = zc ad v := by
  obtain ⟨t, x⟩ := v
  match t with
  | 0 => rfl
  | 1 => rfl
  | 2 => rfl
  | 3 => cases wr with
    | true => show Value.int (Int32.ofInt (zw x)) = .int (Int32.ofInt x); unfold zw; rw [zoi]
    | false => rfl
  | 4 => cases wr with
    | true => show Value.long (Int64.ofInt (zwl x)) = .long (Int64.ofInt x); unfold zwl; rw [zol]
    | false => rfl
  | n + 5 => rfl
theorem znrm_i {wr : Bool} {v : zV} (h : zi v.1 = true) : (znrm wr v).2.1 = 0 := by
  obtain ⟨t, x⟩ := v
  match t, h with
  | 0, _ => rfl
  | 3, _ => cases wr <;> rfl
theorem zr_ok {t : Nat} {x : Int} (h : zi t = true) (hv : zokV (t, x)) (hr : zcj (zr t x)) : zI x := by
  match t, h, hv, hr with
  | 0, _, hv, _ => exact hv
  | 3, _, _, hr => exact hr
theorem zrl_ok {t : Nat} {x : Int} (h : zil t = true) (hv : zokV (t, x)) (hr : zcj (zrl t x)) : zJ x := by
  match t, h, hv, hr with
  | 1, _, hv, _ => exact hv
  | 4, _, _, hr => exact hr
theorem zcat (ad : Nat → Nat) (v : zV) : (zc ad v).category = cond (zc1 v.1) 1 2 := by
  obtain ⟨t, x⟩ := v
  match t with
  | 0 => rfl
  | 1 => rfl
  | 2 => rfl
  | 3 => rfl
  | 4 => rfl
  | n + 5 => rfl
theorem zcts (ad : Nat → Nat) (st : List zV) : ((st.map (zc ad)).map fun v => v.category).sum = zct st := by
  induction st with
  | nil => rfl
  | cons v r ih =>
    simp only [List.map_cons, List.sum_cons, zct, zcat, ih]
theorem zvin {X : Int} {n : Nat} (h : zin X n) (hn : n < 2147483648) : vp_in (Int32.ofInt X) n ∧ (Int32.ofInt X).toNatClampNeg = X.toNat := by
  obtain ⟨h1, h2⟩ := h
  have e : (Int32.ofInt X).toInt = X := zti ⟨by omega, by omega⟩
  have e2 : (Int32.ofInt X).toNatClampNeg = X.toNat := by
    show (Int32.ofInt X).toInt.toNat = _
    rw [e]
  refine ⟨?_, e2⟩
  unfold vp_in
  rw [e2, Int32.lt_iff_toInt_lt, e]
  rintro (h | h)
  · have h0 : (0 : Int32).toInt = 0 := rfl
    omega
  · omega
theorem zupd_c (f : Nat → Int) (k : Nat) (v : Int) : (fun q => Int32.ofInt (zu f k v q)) = upd (fun q => Int32.ofInt (f q)) k (Int32.ofInt v) := by
  funext q
  unfold zu upd
  split <;> rfl
section ZX
variable {p : Program} {l : Launch} {e : Env} {R : Room} {s : State} {m : MethodId} {args : Array Value} {below : List Frame} {meth : Method} {c : Code} {Q : State → Prop} {D : va_G} {cA : ClassId} {ad : Nat → Nat} {A : Nat → Prop} {Λ : List zE} {shp : List (Nat × Nat)} {nL : Nat} {cc : ByteArray} {own : String} {Ts : List Cond} {E : zEnv}
variable {pc n : Nat} {L L2 : zL} {st st2 : List zV} {σ σ2 : zT} {ps : List Prop} {wr : Bool}
theorem zx_push {v : zV} (hv : zokV v) (row : ∀ (H : Heap) (locs : List Loc) (ls : Array Slot) (rest : List Value), W p l e R s m args below meth c H locs 0 0 Q (F0 m (pc + n) ls (zc ad v :: rest)) → W p l e R s m args below meth c H locs 0 0 Q (F0 m pc ls rest))
    (k : zS p l e R s m args below meth c Q D cA ad A Λ shp nL (pc + n) L (v :: st) σ) : zS p l e R s m args below meth c Q D cA ad A Λ shp nL pc L st σ :=
  fun h1 h2 h3 H locs ls hP hD hS hl => row H locs ls _ (k h1 h2 (zokT_cons hv h3) H locs ls hP hD hS hl)
theorem zx_bin {op : Int → Int → zV} {cx : Nat → Bool} {y x : zV} {r : List zV} {g : Int → Int → Value} (hg : zc ad (op x.2 y.2) = g x.2 y.2) (hv : zokV x → zokV y → zokV (op x.2 y.2))
    (row : ∀ (H : Heap) (locs : List Loc) (ls : Array Slot) (rest : List Value), W p l e R s m args below meth c H locs 0 0 Q (F0 m (pc + n) ls (g x.2 y.2 :: rest)) → W p l e R s m args below meth c H locs 0 0 Q (F0 m pc ls (zc ad y :: zc ad x :: rest)))
    (k : zS p l e R s m args below meth c Q D cA ad A Λ shp nL (pc + n) L (op x.2 y.2 :: r) σ) : zS p l e R s m args below meth c Q D cA ad A Λ shp nL pc L (y :: x :: r) σ := by
  intro h1 h2 h3 H locs ls hP hD hS hl
  refine row H locs ls _ ?_
  rw [← hg]
  exact k h1 h2 (zokT_cons (hv (zokT_hd (zokT_tl h3)) (zokT_hd h3)) (zokT_tl (zokT_tl h3))) H locs ls hP hD hS hl
theorem zii_inv {f : Int → Int → zV} (h : zii f L σ st = some (ps, L2, st2, σ2)) : ∃ t1 y t2 x r, st = (t1, y) :: (t2, x) :: r ∧ zi t1 = true ∧ zi t2 = true ∧ L2 = L ∧ st2 = f x y :: r ∧ σ2 = σ := by
  match st, h with
  | (t1, y) :: (t2, x) :: r, h =>
    replace h := zcond h
    obtain ⟨h1, h⟩ := h
    replace h := zcond h
    obtain ⟨h2, h⟩ := h
    simp only [Option.some.injEq, Prod.mk.injEq] at h
    exact ⟨t1, y, t2, x, r, rfl, h1, h2, h.2.1.symm, h.2.2.1.symm, h.2.2.2.symm⟩
  | [], h => cases h
  | [_], h => cases h
theorem zll_inv {f : Int → Int → zV} (h : zll f L σ st = some (ps, L2, st2, σ2)) : ∃ t1 y t2 x r, st = (t1, y) :: (t2, x) :: r ∧ zil t1 = true ∧ zil t2 = true ∧ L2 = L ∧ st2 = f x y :: r ∧ σ2 = σ := by
  match st, h with
  | (t1, y) :: (t2, x) :: r, h =>
    replace h := zcond h
    obtain ⟨h1, h⟩ := h
    replace h := zcond h
    obtain ⟨h2, h⟩ := h
    simp only [Option.some.injEq, Prod.mk.injEq] at h
    exact ⟨t1, y, t2, x, r, rfl, h1, h2, h.2.1.symm, h.2.2.1.symm, h.2.2.2.symm⟩
  | [], h => cases h
  | [_], h => cases h
theorem zli_inv {f : Int → Int → zV} (h : zli f L σ st = some (ps, L2, st2, σ2)) : ∃ t1 y t2 x r, st = (t1, y) :: (t2, x) :: r ∧ zi t1 = true ∧ zil t2 = true ∧ L2 = L ∧ st2 = f x y :: r ∧ σ2 = σ := by
  match st, h with
  | (t1, y) :: (t2, x) :: r, h =>
    replace h := zcond h
    obtain ⟨h1, h⟩ := h
    replace h := zcond h
    obtain ⟨h2, h⟩ := h
    simp only [Option.some.injEq, Prod.mk.injEq] at h
    exact ⟨t1, y, t2, x, r, rfl, h1, h2, h.2.1.symm, h.2.2.1.symm, h.2.2.2.symm⟩
  | [], h => cases h
  | [_], h => cases h
theorem ziiv_inv {f : Int → Int → zV} {ne : Bool} (h : ziiv f ne L σ st = some (ps, L2, st2, σ2)) : ∃ t1 y t2 x r, st = (t1, y) :: (t2, x) :: r ∧ zi t1 = true ∧ zi t2 = true ∧ L2 = L ∧ st2 = f x y :: r ∧ σ2 = σ ∧ ps = zr t2 x ++ (zr t1 y ++ cond ne [y ≠ 0] []) := by
  match st, h with
  | (t1, y) :: (t2, x) :: r, h =>
    replace h := zcond h
    obtain ⟨h1, h⟩ := h
    replace h := zcond h
    obtain ⟨h2, h⟩ := h
    simp only [Option.some.injEq, Prod.mk.injEq] at h
    exact ⟨t1, y, t2, x, r, rfl, h1, h2, h.2.1.symm, h.2.2.1.symm, h.2.2.2.symm, h.1.symm⟩
  | [], h => cases h
  | [_], h => cases h
theorem zllv_inv {f : Int → Int → zV} {ne : Bool} (h : zllv f ne L σ st = some (ps, L2, st2, σ2)) : ∃ t1 y t2 x r, st = (t1, y) :: (t2, x) :: r ∧ zil t1 = true ∧ zil t2 = true ∧ L2 = L ∧ st2 = f x y :: r ∧ σ2 = σ ∧ ps = zrl t2 x ++ (zrl t1 y ++ cond ne [y ≠ 0] []) := by
  match st, h with
  | (t1, y) :: (t2, x) :: r, h =>
    replace h := zcond h
    obtain ⟨h1, h⟩ := h
    replace h := zcond h
    obtain ⟨h2, h⟩ := h
    simp only [Option.some.injEq, Prod.mk.injEq] at h
    exact ⟨t1, y, t2, x, r, rfl, h1, h2, h.2.1.symm, h.2.2.1.symm, h.2.2.2.symm, h.1.symm⟩
  | [], h => cases h
  | [_], h => cases h
/-- two ints give one value -/
theorem zx_ii {f : Int → Int → zV} (g : Int32 → Int32 → Value) (hg : ∀ x y, zc ad (f x y) = g (Int32.ofInt x) (Int32.ofInt y)) (hv : ∀ x y, zokV (f x y))
    (row : ∀ (H : Heap) (locs : List Loc) (ls : Array Slot) (rest : List Value) (a b : Int32), W p l e R s m args below meth c H locs 0 0 Q (F0 m (pc + n) ls (g a b :: rest)) → W p l e R s m args below meth c H locs 0 0 Q (F0 m pc ls (.int b :: .int a :: rest)))
    (hx : zii f L σ st = some (ps, L2, st2, σ2)) (k : zS p l e R s m args below meth c Q D cA ad A Λ shp nL (pc + n) L2 st2 σ2) : zS p l e R s m args below meth c Q D cA ad A Λ shp nL pc L st σ := by
  obtain ⟨t1, y, t2, x, r, rfl, h1, h2, rfl, rfl, rfl⟩ := zii_inv hx
  intro q1 q2 q3 H locs ls hP hD hS hl
  simp only [List.map_cons, zc_i h1, zc_i h2]
  refine row H locs ls _ _ _ ?_
  rw [← hg]
  exact k q1 q2 (zokT_cons (hv x y) (zokT_tl (zokT_tl q3))) H locs ls hP hD hS hl
theorem zx_ll {f : Int → Int → zV} (g : Int64 → Int64 → Value) (hg : ∀ x y, zc ad (f x y) = g (Int64.ofInt x) (Int64.ofInt y)) (hv : ∀ x y, zokV (f x y))
    (row : ∀ (H : Heap) (locs : List Loc) (ls : Array Slot) (rest : List Value) (a b : Int64), W p l e R s m args below meth c H locs 0 0 Q (F0 m (pc + n) ls (g a b :: rest)) → W p l e R s m args below meth c H locs 0 0 Q (F0 m pc ls (.long b :: .long a :: rest)))
    (hx : zll f L σ st = some (ps, L2, st2, σ2)) (k : zS p l e R s m args below meth c Q D cA ad A Λ shp nL (pc + n) L2 st2 σ2) : zS p l e R s m args below meth c Q D cA ad A Λ shp nL pc L st σ := by
  obtain ⟨t1, y, t2, x, r, rfl, h1, h2, rfl, rfl, rfl⟩ := zll_inv hx
  intro q1 q2 q3 H locs ls hP hD hS hl
  simp only [List.map_cons, zc_l h1, zc_l h2]
  refine row H locs ls _ _ _ ?_
  rw [← hg]
  exact k q1 q2 (zokT_cons (hv x y) (zokT_tl (zokT_tl q3))) H locs ls hP hD hS hl
theorem zx_li {f : Int → Int → zV} (g : Int64 → Int32 → Value) (hg : ∀ x y, zc ad (f x y) = g (Int64.ofInt x) (Int32.ofInt y)) (hv : ∀ x y, zokV (f x y))
    (row : ∀ (H : Heap) (locs : List Loc) (ls : Array Slot) (rest : List Value) (a : Int64) (b : Int32), W p l e R s m args below meth c H locs 0 0 Q (F0 m (pc + n) ls (g a b :: rest)) → W p l e R s m args below meth c H locs 0 0 Q (F0 m pc ls (.int b :: .long a :: rest)))
    (hx : zli f L σ st = some (ps, L2, st2, σ2)) (k : zS p l e R s m args below meth c Q D cA ad A Λ shp nL (pc + n) L2 st2 σ2) : zS p l e R s m args below meth c Q D cA ad A Λ shp nL pc L st σ := by
  obtain ⟨t1, y, t2, x, r, rfl, h1, h2, rfl, rfl, rfl⟩ := zli_inv hx
  intro q1 q2 q3 H locs ls hP hD hS hl
  simp only [List.map_cons, zc_i h1, zc_l h2]
  refine row H locs ls _ _ _ ?_
  rw [← hg]
  exact k q1 q2 (zokT_cons (hv x y) (zokT_tl (zokT_tl q3))) H locs ls hP hD hS hl
/-- two ints that are looked at as numbers -/
theorem zx_iiv {f : Int → Int → zV} {ne : Bool} (g : Int32 → Int32 → Value) (hg : ∀ x y, zI x → zI y → (ne = true → y ≠ 0) → zc ad (f x y) = g (Int32.ofInt x) (Int32.ofInt y)) (hv : ∀ x y, zI x → zI y → zokV (f x y))
    (row : ∀ (H : Heap) (locs : List Loc) (ls : Array Slot) (rest : List Value) (a b : Int32), (ne = true → ¬ b = 0) → W p l e R s m args below meth c H locs 0 0 Q (F0 m (pc + n) ls (g a b :: rest)) → W p l e R s m args below meth c H locs 0 0 Q (F0 m pc ls (.int b :: .int a :: rest)))
    (hx : ziiv f ne L σ st = some (ps, L2, st2, σ2)) (hp : zcj ps) (k : zS p l e R s m args below meth c Q D cA ad A Λ shp nL (pc + n) L2 st2 σ2) : zS p l e R s m args below meth c Q D cA ad A Λ shp nL pc L st σ := by
  obtain ⟨t1, y, t2, x, r, rfl, h1, h2, rfl, rfl, rfl, rfl⟩ := ziiv_inv hx
  intro q1 q2 q3 H locs ls hP hD hS hl
  obtain ⟨g1, g2⟩ := zcj_append hp
  obtain ⟨g2, g3⟩ := zcj_append g2
  have o1 := zr_ok h2 (zokT_hd (zokT_tl q3)) g1
  have o2 := zr_ok h1 (zokT_hd q3) g2
  have o3 : ne = true → y ≠ 0 := fun h => by subst h; exact g3
  simp only [List.map_cons, zc_i h1, zc_i h2]
  refine row H locs ls _ _ _ (fun h h4 => o3 h ?_) ?_
  · have h5 := congrArg Int32.toInt h4
    rw [zti o2] at h5
    exact h5
  rw [← hg x y o1 o2 o3]
  exact k q1 q2 (zokT_cons (hv x y o1 o2) (zokT_tl (zokT_tl q3))) H locs ls hP hD hS hl
theorem zx_llv {f : Int → Int → zV} {ne : Bool} (g : Int64 → Int64 → Value) (hg : ∀ x y, zJ x → zJ y → (ne = true → y ≠ 0) → zc ad (f x y) = g (Int64.ofInt x) (Int64.ofInt y)) (hv : ∀ x y, zJ x → zJ y → zokV (f x y))
    (row : ∀ (H : Heap) (locs : List Loc) (ls : Array Slot) (rest : List Value) (a b : Int64), (ne = true → ¬ b = 0) → W p l e R s m args below meth c H locs 0 0 Q (F0 m (pc + n) ls (g a b :: rest)) → W p l e R s m args below meth c H locs 0 0 Q (F0 m pc ls (.long b :: .long a :: rest)))
    (hx : zllv f ne L σ st = some (ps, L2, st2, σ2)) (hp : zcj ps) (k : zS p l e R s m args below meth c Q D cA ad A Λ shp nL (pc + n) L2 st2 σ2) : zS p l e R s m args below meth c Q D cA ad A Λ shp nL pc L st σ := by
  obtain ⟨t1, y, t2, x, r, rfl, h1, h2, rfl, rfl, rfl, rfl⟩ := zllv_inv hx
  intro q1 q2 q3 H locs ls hP hD hS hl
  obtain ⟨g1, g2⟩ := zcj_append hp
  obtain ⟨g2, g3⟩ := zcj_append g2
  have o1 := zrl_ok h2 (zokT_hd (zokT_tl q3)) g1
  have o2 := zrl_ok h1 (zokT_hd q3) g2
  have o3 : ne = true → y ≠ 0 := fun h => by subst h; exact g3
  simp only [List.map_cons, zc_l h1, zc_l h2]
  refine row H locs ls _ _ _ (fun h h4 => o3 h ?_) ?_
  · have h5 := congrArg Int64.toInt h4
    rw [ztl o2] at h5
    exact h5
  rw [← hg x y o1 o2 o3]
  exact k q1 q2 (zokT_cons (hv x y o1 o2) (zokT_tl (zokT_tl q3))) H locs ls hP hD hS hl
theorem zx_load {t k : Nat} (row : ∀ (H : Heap) (locs : List Loc) (ls : Array Slot) (rest : List Value) (x : Int), ls[k]? = some (.val (zc ad (t, x))) → W p l e R s m args below meth c H locs 0 0 Q (F0 m (pc + n) ls (zc ad (t, x) :: rest)) → W p l e R s m args below meth c H locs 0 0 Q (F0 m pc ls rest))
    (hx : zld t L st σ k = some (ps, L2, st2, σ2)) (kk : zS p l e R s m args below meth c Q D cA ad A Λ shp nL (pc + n) L2 st2 σ2) : zS p l e R s m args below meth c Q D cA ad A Λ shp nL pc L st σ := by
  unfold zld at hx
  cases hz : zg none L k with
  | none => rw [hz] at hx; cases hx
  | some v =>
    obtain ⟨t', x⟩ := v
    rw [hz] at hx
    obtain ⟨h1, h⟩ := zcond hx
    simp only [Option.some.injEq, Prod.mk.injEq] at h
    obtain ⟨-, rfl, rfl, rfl⟩ := h
    have ht : t' = t := Nat.eq_of_beq_eq_true h1
    subst ht
    intro q1 q2 q3 H locs ls hP hD hS hl
    exact row H locs ls _ x (zA_read hl hz) (kk q1 q2 (zokT_cons (q2 k _ hz) q3) H locs ls hP hD hS hl)
theorem zcl_get (L : zL) (k i : Nat) (v : zV) (h : zg none (zcl L k) i = some v) : zg none L i = some v ∧ ¬ (i + 1 = k ∧ zc1 v.1 = false) := by
  unfold zcl at h
  cases k with
  | zero => exact ⟨h, fun q => by omega⟩
  | succ k =>
    simp only at h
    cases hz : zg none L k with
    | none =>
      rw [hz] at h
      simp only at h
      refine ⟨h, fun q => ?_⟩
      have : i = k := by omega
      subst this
      rw [hz] at h
      cases h
    | some w =>
      rw [hz] at h
      simp only at h
      cases hb : zc1 w.1 with
      | false =>
        rw [hb] at h
        simp only [cond_false, zg_zp] at h
        split at h
        · cases h
        next hn =>
          refine ⟨h, fun q => ?_⟩
          have : i = k := by omega
          subst this
          have hlt : i < L.length := by
            rw [zg_get] at h
            cases hq : L[i]? with
            | none => rw [hq] at h; cases h
            | some u => exact (List.getElem?_eq_some_iff.mp hq).1
          exact hn ⟨rfl, hlt⟩
      | true =>
        rw [hb] at h
        simp only [cond_true] at h
        refine ⟨h, fun q => ?_⟩
        have : i = k := by omega
        subst this
        rw [hz] at h
        cases h
        rw [q.2] at hb
        cases hb
/-- a store into a local: what the list says afterwards, of the array -/
theorem zst_has {ls : Array Slot} {ad : Nat → Nat} {L : zL} {k : Nat} {v : zV} {wide : Bool} {flt : Nat × Value → Bool}
    (hf : ∀ q : Nat × Value, flt q = (!(q.1 == k) && !(q.1 + 1 == k && q.2.category == 2)) ∨ (wide = true ∧ flt q = (!(q.1 == k) && (!(q.1 == k + 1) && !(q.1 + 1 == k && q.2.category == 2)))))
    (h : lv_has ls nL ((k, zc ad v) :: (zA ad 0 L).filter flt)) : lv_has ls nL (zA ad 0 (cond wide (zp (zp (zcl L k) k (some v)) (k + 1) none) (zp (zcl L k) k (some v)))) := by
  refine ⟨h.1, h.2.1, fun q hq => h.2.2 q ?_⟩
  obtain ⟨i, w, rfl, hz⟩ := (zA_mem ad _ 0 q).mp hq
  simp only [Nat.zero_add] at hq ⊢
  have key : (i = k ∧ w = v) ∨ (i ≠ k ∧ (wide = true → i ≠ k + 1) ∧ zg none (zcl L k) i = some w) := by
    cases wide with
    | true =>
      simp only [cond_true, zg_zp] at hz
      split at hz
      · cases hz
      next h1 =>
        split at hz
        next h2 => exact Or.inl ⟨h2.1, (Option.some.inj hz).symm⟩
        next h2 =>
          have hlt : i < (zcl L k).length := by
            rw [zg_get] at hz
            cases hq : (zcl L k)[i]? with
            | none => rw [hq] at hz; cases hz
            | some u => exact (List.getElem?_eq_some_iff.mp hq).1
          refine Or.inr ⟨fun q => h2 ⟨q, by omega⟩, fun _ q => h1 ⟨q, ?_⟩, hz⟩
          rw [zp_len]; omega
    | false =>
      simp only [cond_false, zg_zp] at hz
      split at hz
      next h2 => exact Or.inl ⟨h2.1, (Option.some.inj hz).symm⟩
      next h2 =>
        have hlt : i < (zcl L k).length := by
          rw [zg_get] at hz
          cases hq : (zcl L k)[i]? with
          | none => rw [hq] at hz; cases hz
          | some u => exact (List.getElem?_eq_some_iff.mp hq).1
        exact Or.inr ⟨fun q => h2 ⟨q, by omega⟩, fun q => (by cases q), hz⟩
  rcases key with ⟨rfl, rfl⟩ | ⟨h1, h2, h3⟩
  · exact List.mem_cons_self
  · refine List.mem_cons_of_mem _ (List.mem_filter.mpr ⟨(zA_mem ad L 0 _).mpr ⟨i, w, by simp, (zcl_get L k i w h3).1⟩, ?_⟩)
    have h4 := (zcl_get L k i w h3).2
    have h5 : (i + 1 == k && (zc ad w).category == 2) = false := by
      rw [zcat]
      cases hb : zc1 w.1 with
      | true => simp
      | false => simp only [cond_false, beq_self_eq_true, Bool.and_true]; exact beq_eq_false_iff_ne.mpr (fun q => h4 ⟨q, hb⟩)
    have h6 : (i == k) = false := beq_eq_false_iff_ne.mpr h1
    rcases hf (i, zc ad w) with hf | ⟨hw, hf⟩
    · rw [hf]; simp only [h5, h6]; rfl
    · rw [hf]
      have h7 : (i == k + 1) = false := beq_eq_false_iff_ne.mpr (h2 hw)
      simp only [h5, h6, h7]; rfl
theorem zx_store {ok : Nat → Bool} {wide : Bool} {k : Nat}
    (row : ∀ (H : Heap) (locs : List Loc) (ls : Array Slot) (rest : List Value) (v : zV), ok v.1 = true → lv_has ls nL (zA ad 0 L) → (∀ ls' : Array Slot, lv_has ls' nL (zA ad 0 (cond wide (zp (zp (zcl L k) k (some v)) (k + 1) none) (zp (zcl L k) k (some v)))) → W p l e R s m args below meth c H locs 0 0 Q (F0 m (pc + n) ls' rest)) → W p l e R s m args below meth c H locs 0 0 Q (F0 m pc ls (zc ad v :: rest)))
    (hnok : ∀ v : zV, ok v.1 = true → ok (znrm wr v).2.1 = true) (hx : zst ok wide wr L σ k st = some (ps, L2, st2, σ2)) (hp : zcj ps) (kk : zS p l e R s m args below meth c Q D cA ad A Λ shp nL (pc + n) L2 st2 σ2) : zS p l e R s m args below meth c Q D cA ad A Λ shp nL pc L st σ := by
  match st, hx with
  | v :: r, hx =>
    obtain ⟨h1, h⟩ : ok v.1 = true ∧ some ((znrm wr v).1, cond wide (zp (zp (zcl L k) k (some (znrm wr v).2)) (k + 1) none) (zp (zcl L k) k (some (znrm wr v).2)), r, σ) = some (ps, L2, st2, σ2) := zcond hx
    simp only [Option.some.injEq, Prod.mk.injEq] at h
    obtain ⟨rfl, rfl, rfl, rfl⟩ := h
    intro q1 q2 q3 H locs ls hP hD hS hl
    have hv := znrm_ok (zokT_hd q3) hp
    simp only [List.map_cons]
    rw [← znrm_c wr ad v]
    refine row H locs ls _ _ (hnok v h1) hl fun ls' hl' => kk q1 (fun i w hz => ?_) (zokT_tl q3) H locs ls' hP hD hS hl'
    have key : w = (znrm wr v).2 ∨ zg none (zcl L k) i = some w := by
      cases wide with
      | true =>
        simp only [cond_true, zg_zp] at hz
        split at hz
        · cases hz
        · split at hz
          · exact Or.inl (Option.some.inj hz).symm
          · exact Or.inr hz
      | false =>
        simp only [cond_false, zg_zp] at hz
        split at hz
        · exact Or.inl (Option.some.inj hz).symm
        · exact Or.inr hz
    rcases key with rfl | hz
    · exact hv
    · exact q2 i w (zcl_get L k i w hz).1
  | [], hx => cases hx
end ZX
end
section
section ZX2
variable {p : Program} {l : Launch} {e : Env} {R : Room} {s : State} {m : MethodId} {args : Array Value} {below : List Frame} {meth : Method} {c : Code} {Q : State → Prop} {D : va_G} {cA : ClassId} {ad : Nat → Nat} {A : Nat → Prop} {Λ : List zE} {shp : List (Nat × Nat)} {nL : Nat} {cc : ByteArray} {own : String} {Ts : List Cond} {E : zEnv}
variable {pc n : Nat} {L L2 : zL} {st st2 : List zV} {σ σ2 : zT} {ps : List Prop} {wr : Bool}
theorem zbeq {a b : Nat} (h : Nat.beq a b = true) : a = b := Nat.eq_of_beq_eq_true h
theorem zgi_of {σ : zT} {m i : Nat} {is : List Int} {fs : List (Nat → Int)} {x : Int} (h1 : zo σ m = some (is, fs)) (h2 : zo is i = some x) : zgi σ m i = x := by
  unfold zgi
  rw [zo_get] at h1 h2
  rw [zg_get, zg_get, h1]
  show (is[i]?).getD 0 = x
  rw [h2]
  rfl
theorem zga_of {σ : zT} {m i : Nat} {is : List Int} {fs : List (Nat → Int)} {f : Nat → Int} (h1 : zo σ m = some (is, fs)) (h2 : zo fs i = some f) : zga σ m i = f := by
  unfold zga
  rw [zo_get] at h1 h2
  rw [zg_get, zg_get, h1]
  show (fs[i]?).getD _ = f
  rw [h2]
  rfl
theorem zx_getf (C0 : zC p R s m args c D cA A Λ shp cc own nL Ts E) {q : Nat} (hd : decode cc pc = .ok (.getfield q, 3)) (hx : zgf Λ E L σ q st = some (ps, L2, st2, σ2)) (k : zS p l e R s m args below meth c Q D cA ad A Λ shp nL (pc + 3) L2 st2 σ2) : zS p l e R s m args below meth c Q D cA ad A Λ shp nL pc L st σ := by
  obtain ⟨hex, hb, hml, hown, hts, hK, hA, hΛ, ⟨hF, -⟩, -⟩ := C0
  match st, hx with
  | [], hx => cases hx
  | (t, a) :: r, hx =>
    replace hx := zcond hx
    obtain ⟨h1, hx⟩ := hx
    have ht : t = 2 := zbeq h1
    subst ht
    cases hf : zlk E.1 q with
    | none => rw [hf] at hx; cases hx
    | some f =>
      obtain ⟨ci, j, kd⟩ := f
      rw [hf] at hx
      simp only at hx
      cases ho : zo Λ a.toNat with
      | none => rw [ho] at hx; cases hx
      | some z =>
        rw [ho] at hx
        cases z with
        | inl y => cases hx
        | inr o =>
          obtain ⟨di, fs⟩ := o
          replace hx := zcond hx
          obtain ⟨h2, hx⟩ := hx
          have h2 : di = ci := zbeq h2
          subst h2
          obtain ⟨C, T, N, ty, c1, c2, c3, c4, -, -, -, -⟩ := hF q _ hf
          have hgo : ∀ w : zV, zokV w → zo (fs.map (zF ad σ)) j = some (zc ad w) → zS p l e R s m args below meth c Q D cA ad A Λ shp nL (pc + 3) L (w :: r) σ → zS p l e R s m args below meth c Q D cA ad A Λ shp nL pc L ((2, a) :: r) σ := by
            intro w hw hz k q1 q2 q3 H locs ls hP hD hS hl
            have he : (zW cA ad σ 0 Λ)[a.toNat]? = some (ad a.toNat, .inr (di, fs.map (zF ad σ))) := by
              rw [zW_get, ho]
              simp [zEc]
            refine va_get hex hb hts c3 hown hK hP a.toNat he c1 j c2 (hts _ c4) (fun _ h9 => h9) (v := zc ad w) (by rw [← zo_get]; exact hz) hd ?_
            exact k q1 q2 (zokT_cons hw (zokT_tl q3)) H locs ls hP hD hS hl
          cases hj : zo fs j with
          | none => rw [hj] at hx; cases hx
          | some y =>
            rw [hj] at hx
            have hz : zo (fs.map (zF ad σ)) j = some (zF ad σ y) := by
              rw [zo_get] at hj ⊢
              rw [List.getElem?_map, hj]
              rfl
            cases y with
            | inl i =>
              simp only [Option.some.injEq, Prod.mk.injEq] at hx
              obtain ⟨-, rfl, rfl, rfl⟩ := hx
              exact hgo (2, Int.ofNat i) trivial hz k
            | inr mj =>
              obtain ⟨mm, ii⟩ := mj
              simp only at hx
              cases hm : zo σ mm with
              | none => rw [hm] at hx; cases hx
              | some M =>
                obtain ⟨is, fs2⟩ := M
                rw [hm] at hx
                simp only at hx
                cases hi : zo is ii with
                | none => rw [hi] at hx; cases hx
                | some x =>
                  rw [hi] at hx
                  simp only [Option.some.injEq, Prod.mk.injEq] at hx
                  obtain ⟨-, rfl, rfl, rfl⟩ := hx
                  have e1 := zgi_of hm hi
                  intro q1 q2 q3
                  exact hgo (0, x) (by rw [← e1]; exact q1.2.1 mm ii) (by rw [hz, ← e1]; rfl) k q1 q2 q3
theorem zx_putf (C0 : zC p R s m args c D cA A Λ shp cc own nL Ts E) {q : Nat} (hd : decode cc pc = .ok (.putfield q, 3)) (hx : zpf Λ E wr L σ q st = some (ps, L2, st2, σ2)) (hp : zcj ps) (k : zS p l e R s m args below meth c Q D cA ad A Λ shp nL (pc + 3) L2 st2 σ2) : zS p l e R s m args below meth c Q D cA ad A Λ shp nL pc L st σ := by
  obtain ⟨hex, hb, hml, hown, hts, hK, hA, hΛ, ⟨hF, -⟩, -⟩ := C0
  match st, hx with
  | [], hx => cases hx
  | [_], hx => cases hx
  | (u, xw) :: (t, a) :: r, hx =>
    replace hx := zcond hx
    obtain ⟨h0, hx⟩ := hx
    replace hx := zcond hx
    obtain ⟨h1, hx⟩ := hx
    have ht : t = 2 := zbeq h1
    subst ht
    cases hf : zlk E.1 q with
    | none => rw [hf] at hx; cases hx
    | some f =>
      obtain ⟨ci, j, kd⟩ := f
      rw [hf] at hx
      simp only at hx
      cases ho : zo Λ a.toNat with
      | none => rw [ho] at hx; cases hx
      | some z =>
        rw [ho] at hx
        cases z with
        | inl y => cases hx
        | inr o =>
          obtain ⟨di, fs⟩ := o
          replace hx := zcond hx
          obtain ⟨h2, hx⟩ := hx
          have h2 : di = ci := zbeq h2
          subst h2
          obtain ⟨C, T, N, ty, c1, c2, c3, c4, c5, c6, c7, c8⟩ := hF q _ hf
          cases hj : zo fs j with
          | none => rw [hj] at hx; cases hx
          | some y =>
            rw [hj] at hx
            cases y with
            | inl i => cases hx
            | inr mj =>
              obtain ⟨mm, ii⟩ := mj
              simp only at hx
              have hgo : ∀ (x : Int) (fty : FieldType), zI x → zc ad (u, xw) = .int (Int32.ofInt x) → (T j).2.2.2 = false → parseFieldDescriptor (T j).2.2.1 = some fty → narrow fty (.int (Int32.ofInt x)) = .int (Int32.ofInt x) → fits fty (.int (Int32.ofInt x)) = true → zS p l e R s m args below meth c Q D cA ad A Λ shp nL (pc + 3) L r (zpi σ mm ii x) → zok shp σ → zokL L → zokT ((u, xw) :: (2, a) :: r) → ∀ (H : Heap) (locs : List Loc) (ls : Array Slot), va_P D vwCl (zW cA ad σ 0 Λ) H → va_D A (zW cA ad σ 0 Λ) → va_S A s.heap H locs → lv_has ls nL (zA ad 0 L) → W p l e R s m args below meth c H locs 0 0 Q (F0 m pc ls (((u, xw) :: (2, a) :: r).map (zc ad))) := by
                intro x fty hx hw hfin hde hn hfit k q1 q2 q3 H locs ls hP hD hS hl
                have he : (zW cA ad σ 0 Λ)[a.toNat]? = some (ad a.toNat, .inr (di, fs.map (zF ad σ))) := by
                  rw [zW_get, ho]
                  simp [zEc]
                simp only [List.map_cons]
                rw [hw]
                refine va_put hex hb hts c3 ty c5 c6 hown hK hP hD hS a.toNat he c1 j c2 (hts _ c4) (fun _ h9 => h9) hfin hde hn hfit (by rw [List.length_map]; exact zo_lt hj) hd (fun H1 locs1 hP hD hS => ?_)
                have e9 := zW_putI hΛ q1 cA ad ho hj x
                rw [e9] at hP hD
                exact k (zok_zpi q1 _ _ hx) q2 (zokT_tl (zokT_tl q3)) H1 locs1 ls hP hD hS hl
              match kd, hx, c7, c8 with
              | 0, hx, _, _ => cases hx
              | 1, hx, c7, _ =>
                have hx : some ((znrm wr (u, xw)).1, L, r, zpi σ mm ii (znrm wr (u, xw)).2.2) = some (ps, L2, st2, σ2) := hx
                simp only [Option.some.injEq, Prod.mk.injEq] at hx
                obtain ⟨rfl, rfl, rfl, rfl⟩ := hx
                intro q1 q2 q3
                have hv := znrm_ok (zokT_hd q3) hp
                have hi := znrm_i (wr := wr) (v := (u, xw)) h0
                have e1 : (znrm wr (u, xw)).2 = (0, (znrm wr (u, xw)).2.2) := by rw [← hi]
                rw [e1] at hv
                refine hgo _ .int hv ?_ (c7 rfl).1 (c7 rfl).2 rfl rfl k q1 q2 q3
                rw [← znrm_c wr ad (u, xw), e1]
                rfl
              | 2, hx, _, c8 =>
                simp only [Option.some.injEq, Prod.mk.injEq] at hx
                obtain ⟨rfl, rfl, rfl, rfl⟩ := hx
                intro q1 q2 q3
                have hb2 : xw = 0 ∨ xw = 1 := hp
                refine hgo xw .boolean ?_ (zc_i h0 ad xw) (c8 rfl).1 (c8 rfl).2 ?_ ?_ k q1 q2 q3
                · rcases hb2 with rfl | rfl <;> exact ⟨by decide, by decide⟩
                · rcases hb2 with rfl | rfl <;> rfl
                · rcases hb2 with rfl | rfl <;> rfl
              | n + 3, hx, _, _ => cases hx
theorem zx_aload (C0 : zC p R s m args c D cA A Λ shp cc own nL Ts E) (hd : decode cc pc = .ok (.iaload, 1)) (hx : zal Λ L σ st = some (ps, L2, st2, σ2)) (hp : zcj ps) (k : zS p l e R s m args below meth c Q D cA ad A Λ shp nL (pc + 1) L2 st2 σ2) : zS p l e R s m args below meth c Q D cA ad A Λ shp nL pc L st σ := by
  obtain ⟨hex, hb, hml, hown, hts, hK, hA, hΛ, -, -⟩ := C0
  match st, hx with
  | [], hx => cases hx
  | [_], hx => cases hx
  | (tw, xw) :: (t, a) :: r, hx =>
    replace hx := zcond hx
    obtain ⟨h0, hx⟩ := hx
    replace hx := zcond hx
    obtain ⟨h1, hx⟩ := hx
    have ht : t = 2 := zbeq h1
    subst ht
    cases ho : zo Λ a.toNat with
    | none => rw [ho] at hx; cases hx
    | some z =>
      rw [ho] at hx
      cases z with
      | inr o => cases hx
      | inl y =>
        obtain ⟨mm, ii, nn⟩ := y
        simp only at hx
        cases hm : zo σ mm with
        | none => rw [hm] at hx; cases hx
        | some M =>
          obtain ⟨is, fs⟩ := M
          rw [hm] at hx
          simp only at hx
          cases hi : zo fs ii with
          | none => rw [hi] at hx; cases hx
          | some f =>
            rw [hi] at hx
            simp only [Option.some.injEq, Prod.mk.injEq] at hx
            obtain ⟨rfl, rfl, rfl, rfl⟩ := hx
            have e0 := zga_of hm hi
            intro q1 q2 q3 H locs ls hP hD hS hl
            have hin : zin xw nn := hp
            have hb1 := hΛ.1 _ (zo_lt ho)
            rw [ho] at hb1
            obtain ⟨g1, g2⟩ := zvin hin hb1.2.2
            have he : (zW cA ad σ 0 Λ)[a.toNat]? = some (ad a.toNat, .inl (cA, nn, .inl (fun q => Int32.ofInt (f q)))) := by
              rw [zW_get, ho, ← e0]
              simp [zEc]
            simp only [List.map_cons, zc_i h0]
            refine va_iald hex hb hK hP a.toNat 0 he rfl g1 hd ?_
            rw [g2]
            exact k q1 q2 (zokT_cons (v := (0, f xw.toNat)) (by rw [← e0]; exact q1.2.2 _ _ _) (zokT_tl (zokT_tl q3))) H locs ls hP hD hS hl
theorem zx_astore (C0 : zC p R s m args c D cA A Λ shp cc own nL Ts E) (hd : decode cc pc = .ok (.iastore, 1)) (hx : zas Λ wr L σ st = some (ps, L2, st2, σ2)) (hp : zcj ps) (k : zS p l e R s m args below meth c Q D cA ad A Λ shp nL (pc + 1) L2 st2 σ2) : zS p l e R s m args below meth c Q D cA ad A Λ shp nL pc L st σ := by
  obtain ⟨hex, hb, hml, hown, hts, hK, hA, hΛ, -, -⟩ := C0
  match st, hx with
  | [], hx => cases hx
  | [_], hx => cases hx
  | [_, _], hx => cases hx
  | (tu, xu) :: (tw, xw) :: (t, a) :: r, hx =>
    replace hx := zcond hx
    obtain ⟨hu, hx⟩ := hx
    replace hx := zcond hx
    obtain ⟨h0, hx⟩ := hx
    replace hx := zcond hx
    obtain ⟨h1, hx⟩ := hx
    have ht : t = 2 := zbeq h1
    subst ht
    cases ho : zo Λ a.toNat with
    | none => rw [ho] at hx; cases hx
    | some z =>
      rw [ho] at hx
      cases z with
      | inr o => cases hx
      | inl y =>
        obtain ⟨mm, ii, nn⟩ := y
        simp only at hx
        cases hm : zo σ mm with
        | none => rw [hm] at hx; cases hx
        | some M =>
          obtain ⟨is, fs⟩ := M
          rw [hm] at hx
          simp only at hx
          cases hi : zo fs ii with
          | none => rw [hi] at hx; cases hx
          | some f =>
            rw [hi] at hx
            have hx : some (zin xw nn :: (znrm wr (tu, xu)).1, L, r, zpa σ mm ii (zu f xw.toNat (znrm wr (tu, xu)).2.2)) = some (ps, L2, st2, σ2) := hx
            simp only [Option.some.injEq, Prod.mk.injEq] at hx
            obtain ⟨rfl, rfl, rfl, rfl⟩ := hx
            have e0 := zga_of hm hi
            intro q1 q2 q3 H locs ls hP hD hS hl
            obtain ⟨hin, hp2⟩ := zcj_cons hp
            have hb1 := hΛ.1 _ (zo_lt ho)
            rw [ho] at hb1
            obtain ⟨g1, g2⟩ := zvin hin hb1.2.2
            have he : (zW cA ad σ 0 Λ)[a.toNat]? = some (ad a.toNat, .inl (cA, nn, .inl (fun q => Int32.ofInt (f q)))) := by
              rw [zW_get, ho, ← e0]
              simp [zEc]
            have hv := znrm_ok (zokT_hd q3) hp2
            have hi2 := znrm_i (wr := wr) (v := (tu, xu)) hu
            have e1 : (znrm wr (tu, xu)).2 = (0, (znrm wr (tu, xu)).2.2) := by rw [← hi2]
            have e2 : zc ad (tu, xu) = .int (Int32.ofInt (znrm wr (tu, xu)).2.2) := by rw [← znrm_c wr ad (tu, xu), e1]; rfl
            rw [e1] at hv
            simp only [List.map_cons, zc_i h0]
            rw [e2]
            refine va_iast hex hb hK hP hD hS a.toNat 0 he rfl g1 hd (fun H1 locs1 hP hD hS => ?_)
            have e9 := zW_putA hΛ q1 cA ad ho (zu f xw.toNat (znrm wr (tu, xu)).2.2)
            rw [g2, ← zupd_c, e9] at hP hD
            refine k (zok_zpa q1 _ _ (fun q => ?_)) q2 (zokT_tl (zokT_tl (zokT_tl q3))) H1 locs1 ls hP hD hS hl
            unfold zu
            split
            · exact hv
            · rw [← e0]; exact q1.2.2 _ _ _
theorem zx_alen (C0 : zC p R s m args c D cA A Λ shp cc own nL Ts E) (hd : decode cc pc = .ok (.arraylength, 1)) (hx : zalen Λ L σ st = some (ps, L2, st2, σ2)) (k : zS p l e R s m args below meth c Q D cA ad A Λ shp nL (pc + 1) L2 st2 σ2) : zS p l e R s m args below meth c Q D cA ad A Λ shp nL pc L st σ := by
  obtain ⟨hex, hb, hml, hown, hts, hK, hA, hΛ, -, -⟩ := C0
  match st, hx with
  | [], hx => cases hx
  | (t, a) :: r, hx =>
    replace hx := zcond hx
    obtain ⟨h1, hx⟩ := hx
    have ht : t = 2 := zbeq h1
    subst ht
    cases ho : zo Λ a.toNat with
    | none => rw [ho] at hx; cases hx
    | some z =>
      rw [ho] at hx
      cases z with
      | inr o => cases hx
      | inl y =>
        obtain ⟨mm, ii, nn⟩ := y
        simp only [Option.some.injEq, Prod.mk.injEq] at hx
        obtain ⟨-, rfl, rfl, rfl⟩ := hx
        intro q1 q2 q3 H locs ls hP hD hS hl
        have hb1 := hΛ.1 _ (zo_lt ho)
        rw [ho] at hb1
        have he : (zW cA ad σ 0 Λ)[a.toNat]? = some (ad a.toNat, .inl (cA, nn, .inl (fun q => Int32.ofInt (zga σ mm ii q)))) := by
          rw [zW_get, ho]
          simp [zEc]
        refine va_alen hex hb hK hP a.toNat 0 he rfl (v := Int32.ofInt (Int.ofNat nn)) (by show Int32.ofNat nn = _; exact (Int32.ofInt_eq_ofNat).symm) hd ?_
        have hb2 : nn < 2147483648 := hb1.2.2
        exact k q1 q2 (zokT_cons (show zI (Int.ofNat nn) from ⟨by have : (0:Int) ≤ Int.ofNat nn := Int.natCast_nonneg _; omega, by show ((nn : Nat) : Int) ≤ _; omega⟩) (zokT_tl q3)) H locs ls hP hD hS hl
theorem zx_mm (C0 : zC p R s m args c D cA A Λ shp cc own nL Ts E) {q : Nat} (hd : decode cc pc = .ok (.invokestatic q, 3)) (hx : zmm E L σ q st = some (ps, L2, st2, σ2)) (hp : zcj ps) (k : zS p l e R s m args below meth c Q D cA ad A Λ shp nL (pc + 3) L2 st2 σ2) : zS p l e R s m args below meth c Q D cA ad A Λ shp nL pc L st σ := by
  obtain ⟨hex, hb, hml, hown, hts, hK, hA, hΛ, ⟨-, -, -, hM⟩, hR⟩ := C0
  match st, hx with
  | [], hx => cases hx
  | [_], hx => cases hx
  | (t1, y) :: (t2, x) :: r, hx =>
    replace hx := zcond hx
    obtain ⟨h1, hx⟩ := hx
    replace hx := zcond hx
    obtain ⟨h2, hx⟩ := hx
    replace hx := zcond hx
    obtain ⟨h3, hx⟩ := hx
    cases hz : zlk E.2.2.2 q with
    | none => rw [hz] at hx; cases hx
    | some b =>
      rw [hz] at hx
      have hR : 1 ≤ R.frames ∧ 21 ≤ R.locals := by
        rcases hR with hR | hR
        · rw [hR] at hz; cases hz
        · exact hR
      obtain ⟨hini, hmax, hmin⟩ := hM q b hz
      have hct := Nat.le_of_ble_eq_true h3
      cases b with
      | true =>
        simp only [Option.some.injEq, Prod.mk.injEq] at hx
        obtain ⟨rfl, rfl, rfl, rfl⟩ := hx
        intro q1 q2 q3 H locs ls hP hD hS hl
        obtain ⟨g1, g2⟩ := zcj_append hp
        have o1 := zr_ok h2 (zokT_hd (zokT_tl q3)) g1
        have o2 := zr_ok h1 (zokT_hd q3) g2
        simp only [List.map_cons, zc_i h1, zc_i h2]
        have e1 := zti o1
        have e2 := zti o2
        obtain ⟨m1, m2, m3⟩ := hmax rfl
        refine va_mmax hex hb (by rw [hml, hl.1]) hown (hts _ m1) (hts _ m2) (hts _ hini) (hts _ m3) hR.1 (by rw [zcts]; omega) (Nat.zero_le _) (Nat.zero_le _) hd ?_
        have e3 : (if Int32.ofInt x < Int32.ofInt y then Int32.ofInt y else Int32.ofInt x) = Int32.ofInt (max x y) := by
          have e4 : Int32.ofInt x < Int32.ofInt y ↔ x < y := by rw [Int32.lt_iff_toInt_lt, e1, e2]
          by_cases h : x < y
          · rw [if_pos (e4.mpr h), show max x y = y by omega]
          · rw [if_neg (fun g => h (e4.mp g)), show max x y = x by omega]
        rw [e3]
        exact k q1 q2 (zokT_cons (show zI (max x y) from ⟨by have := o1.1; have := o2.1; omega, by have := o1.2; have := o2.2; omega⟩) (zokT_tl (zokT_tl q3))) H locs ls hP hD hS hl
      | false =>
        simp only [Option.some.injEq, Prod.mk.injEq] at hx
        obtain ⟨rfl, rfl, rfl, rfl⟩ := hx
        intro q1 q2 q3 H locs ls hP hD hS hl
        obtain ⟨g1, g2⟩ := zcj_append hp
        have o1 := zr_ok h2 (zokT_hd (zokT_tl q3)) g1
        have o2 := zr_ok h1 (zokT_hd q3) g2
        simp only [List.map_cons, zc_i h1, zc_i h2]
        have e1 := zti o1
        have e2 := zti o2
        obtain ⟨m1, m2, m3⟩ := hmin rfl
        refine va_mmin hex hb (by rw [hml, hl.1]) hown (hts _ m1) (hts _ m2) (hts _ hini) (hts _ m3) hR.1 (by rw [zcts]; omega) (Nat.zero_le _) (Nat.zero_le _) hd ?_
        have e3 : (if Int32.ofInt y < Int32.ofInt x then Int32.ofInt y else Int32.ofInt x) = Int32.ofInt (min x y) := by
          have e4 : Int32.ofInt y < Int32.ofInt x ↔ y < x := by rw [Int32.lt_iff_toInt_lt, e1, e2]
          by_cases h : y < x
          · rw [if_pos (e4.mpr h), show min x y = y by omega]
          · rw [if_neg (fun g => h (e4.mp g)), show min x y = x by omega]
        rw [e3]
        exact k q1 q2 (zokT_cons (show zI (min x y) from ⟨by have := o1.1; have := o2.1; omega, by have := o1.2; have := o2.2; omega⟩) (zokT_tl (zokT_tl q3))) H locs ls hP hD hS hl
end ZX2
end
section
section ZX3
variable {p : Program} {l : Launch} {e : Env} {R : Room} {s : State} {m : MethodId} {args : Array Value} {below : List Frame} {meth : Method} {c : Code} {Q : State → Prop} {D : va_G} {cA : ClassId} {ad : Nat → Nat} {A : Nat → Prop} {Λ : List zE} {shp : List (Nat × Nat)} {nL : Nat} {cc : ByteArray} {own : String} {Ts : List Cond} {E : zEnv}
variable {pc n : Nat} {L L2 : zL} {st st2 : List zV} {σ σ2 : zT} {ps : List Prop} {wr : Bool}
theorem z_tmod_ok {x y : Int} (hx : zI x) : zI (x.tmod y) := by
  obtain ⟨a, b⟩ := hx
  have h2 : (x.tmod y).natAbs ≤ x.natAbs := by rw [Int.natAbs_tmod]; exact Nat.mod_le _ _
  by_cases h : x = -2147483648
  · subst h
    have h3 : (-2147483648 : Int).tmod y ≤ 0 := by
      have := Int.tmod_nonneg (a := 2147483648) y (by omega)
      have e : (-2147483648 : Int) = -(2147483648) := rfl
      rw [e, Int.neg_tmod]
      omega
    constructor <;> omega
  · constructor <;> omega
theorem z_tmod32 (x y : Int) (hx : zI x) (hy : zI y) : Int32.ofInt (x.tmod y) = Int32.ofInt x - Int32.ofInt x / Int32.ofInt y * Int32.ofInt y := by
  apply Int32.toInt_inj.mp
  rw [rem_toInt, zti hx, zti hy]
  exact zti (z_tmod_ok hx)
theorem z_tmodl_ok {x y : Int} (hx : zJ x) : zJ (x.tmod y) := by
  obtain ⟨a, b⟩ := hx
  have h2 : (x.tmod y).natAbs ≤ x.natAbs := by rw [Int.natAbs_tmod]; exact Nat.mod_le _ _
  by_cases h : x = -9223372036854775808
  · subst h
    have h3 : (-9223372036854775808 : Int).tmod y ≤ 0 := by
      have := Int.tmod_nonneg (a := 9223372036854775808) y (by omega)
      have e : (-9223372036854775808 : Int) = -(9223372036854775808) := rfl
      rw [e, Int.neg_tmod]
      omega
    constructor <;> omega
  · constructor <;> omega
theorem z_tmod64 (x y : Int) (hx : zJ x) (hy : zJ y) : Int64.ofInt (x.tmod y) = Int64.ofInt x - Int64.ofInt x / Int64.ofInt y * Int64.ofInt y := by
  apply Int64.toInt_inj.mp
  have e : (Int64.ofInt x - Int64.ofInt x / Int64.ofInt y * Int64.ofInt y).toInt = (Int64.ofInt x).toInt.tmod (Int64.ofInt y).toInt := by
    have e2 : Int64.ofInt x - Int64.ofInt x / Int64.ofInt y * Int64.ofInt y = Int64.ofInt x % Int64.ofInt y := by
      apply Int64.toInt_inj.mp
      have h1 := Int64.le_toInt (Int64.ofInt x % Int64.ofInt y)
      have h2 := Int64.toInt_lt (Int64.ofInt x % Int64.ofInt y)
      rw [Int64.toInt_sub, Int64.toInt_mul, Int64.toInt_div, Int.bmod_mul_bmod, Int.sub_bmod_bmod, Int.mul_comm ((Int64.ofInt x).toInt.tdiv (Int64.ofInt y).toInt), ← Int.tmod_def, ← Int64.toInt_mod]
      exact Int.bmod_eq_of_le_mul_two (by omega) (by omega)
    rw [e2]
    exact Int64.toInt_mod _ _
  rw [e, ztl hx, ztl hy]
  exact ztl (z_tmodl_ok hx)
theorem z_div32 (x y : Int) (hx : zI x) (hy : zI y) : Int32.ofInt (x.tdiv y) = Int32.ofInt x / Int32.ofInt y := by
  apply Int32.toInt_inj.mp
  rw [Int32.toInt_div, zti hx, zti hy, Int32.toInt_ofInt]
theorem z_div64 (x y : Int) (hx : zJ x) (hy : zJ y) : Int64.ofInt (x.tdiv y) = Int64.ofInt x / Int64.ofInt y := by
  apply Int64.toInt_inj.mp
  rw [Int64.toInt_div, ztl hx, ztl hy, Int64.toInt_ofInt]
theorem z_lcmp (x y : Int) (hx : zJ x) (hy : zJ y) : Int32.ofInt (zlc x y) = lg_cmp (Int64.ofInt x) (Int64.ofInt y) := by
  unfold zlc lg_cmp
  have h1 : (Int64.ofInt x > Int64.ofInt y) ↔ y < x := by rw [gt_iff_lt, Int64.lt_iff_toInt_lt, ztl hx, ztl hy]
  have h2 : (Int64.ofInt x = Int64.ofInt y) ↔ x = y := by rw [← Int64.toInt_inj, ztl hx, ztl hy]
  by_cases a : x < y
  · rw [if_pos a, if_neg (by rw [h1]; omega), if_neg (by rw [h2]; omega)]
    rfl
  · rw [if_neg a]
    by_cases b : x = y
    · rw [if_pos b, if_neg (by rw [h1]; omega), if_pos (by rw [h2]; exact b)]
      rfl
    · rw [if_neg b, if_pos (by rw [h1]; omega)]
      rfl
theorem z_bip {v : Int} (h : -128 ≤ v ∧ v ≤ 127) : (Int8.ofInt v).toInt32 = Int32.ofInt v := by
  apply Int32.toInt_inj.mp
  rw [Int8.toInt_toInt32, zti ⟨by omega, by omega⟩]
  exact Int8.toInt_ofInt_of_le h.1 (by omega)
theorem z_sip {v : Int} (h : -32768 ≤ v ∧ v ≤ 32767) : (Int16.ofInt v).toInt32 = Int32.ofInt v := by
  apply Int32.toInt_inj.mp
  rw [Int16.toInt_toInt32, zti ⟨by omega, by omega⟩]
  exact Int16.toInt_ofInt_of_le h.1 (by omega)
theorem zx_ok (C0 : zC p R s m args c D cA A Λ shp cc own nL Ts E) {i : Instr} (hd : decode cc pc = .ok (i, n)) (hl : zlit nL i n = true) (hx : zx Λ E wr i L st σ = some (ps, L2, st2, σ2)) (hp : zcj ps) (k : zS p l e R s m args below meth c Q D cA ad A Λ shp nL (pc + n) L2 st2 σ2) : zS p l e R s m args below meth c Q D cA ad A Λ shp nL pc L st σ := by
  have hex : p.tables.exec = Jvm.exec := C0.1
  have hb : c.code = cc := C0.2.1
  have hown : s.vm.findClass own = some m.cls := C0.2.2.2.1
  have hts := C0.2.2.2.2.1
  have hE := C0.2.2.2.2.2.2.2.2.1
  cases i
  case iconst v =>
    have hl : n = 1 ∧ zI v := by simpa [zlit] using hl
    obtain ⟨rfl, hv⟩ := hl
    simp only [zx, Option.some.injEq, Prod.mk.injEq] at hx
    obtain ⟨-, rfl, rfl, rfl⟩ := hx
    exact zx_push (v := (0, v)) hv (fun H locs ls rest k => lv_iconst hex hb hd rfl k) k
  case bipush v =>
    have hl : n = 2 ∧ -128 ≤ v ∧ v ≤ 127 := by simpa [zlit] using hl
    obtain ⟨rfl, hv⟩ := hl
    simp only [zx, Option.some.injEq, Prod.mk.injEq] at hx
    obtain ⟨-, rfl, rfl, rfl⟩ := hx
    exact zx_push (v := (0, v)) (show zI v from ⟨by omega, by omega⟩) (fun H locs ls rest k => lv_bipush hex hb hd (z_bip hv) k) k
  case sipush v =>
    have hl : n = 3 ∧ -32768 ≤ v ∧ v ≤ 32767 := by simpa [zlit] using hl
    obtain ⟨rfl, hv⟩ := hl
    simp only [zx, Option.some.injEq, Prod.mk.injEq] at hx
    obtain ⟨-, rfl, rfl, rfl⟩ := hx
    exact zx_push (v := (0, v)) (show zI v from ⟨by omega, by omega⟩) (fun H locs ls rest k => lv_sipush hex hb hd (z_sip hv) k) k
  case lconst v =>
    have hl : n = 1 := by simpa [zlit] using hl
    subst hl
    simp only [zx, Option.some.injEq, Prod.mk.injEq] at hx
    obtain ⟨-, rfl, rfl, rfl⟩ := hx
    match v, hd, k with
    | ⟨0, _⟩, hd, k => exact zx_push (v := (1, 0)) (show zJ 0 from ⟨by omega, by omega⟩) (fun H locs ls rest k => lv_lconst hex hb hd rfl k) k
    | ⟨1, _⟩, hd, k => exact zx_push (v := (1, 1)) (show zJ 1 from ⟨by omega, by omega⟩) (fun H locs ls rest k => lv_lconst hex hb hd rfl k) k
  case ldc q =>
    have hl : n = 2 := by simpa [zlit] using hl
    subst hl
    simp only [zx] at hx
    cases hz : zlk E.2.1 q with
    | none => rw [hz] at hx; cases hx
    | some v =>
      rw [hz] at hx
      simp only [Option.some.injEq, Prod.mk.injEq] at hx
      obtain ⟨-, rfl, rfl, rfl⟩ := hx
      exact zx_push (v := (0, v)) (hE.2.1 q v hz).1 (fun H locs ls rest k => lv_ldc hex hb hown (hts _ (hE.2.1 q v hz).2) hd k) k
  case ldc_w q =>
    have hl : n = 3 := by simpa [zlit] using hl
    subst hl
    simp only [zx] at hx
    cases hz : zlk E.2.1 q with
    | none => rw [hz] at hx; cases hx
    | some v =>
      rw [hz] at hx
      simp only [Option.some.injEq, Prod.mk.injEq] at hx
      obtain ⟨-, rfl, rfl, rfl⟩ := hx
      exact zx_push (v := (0, v)) (hE.2.1 q v hz).1 (fun H locs ls rest k => lv_ldcw hex hb hown (hts _ (hE.2.1 q v hz).2) hd k) k
  case ldc2_w q =>
    have hl : n = 3 := by simpa [zlit] using hl
    subst hl
    simp only [zx] at hx
    cases hz : zlk E.2.2.1 q with
    | none => rw [hz] at hx; cases hx
    | some v =>
      rw [hz] at hx
      simp only [Option.some.injEq, Prod.mk.injEq] at hx
      obtain ⟨-, rfl, rfl, rfl⟩ := hx
      exact zx_push (v := (1, v)) (hE.2.2.1 q v hz).1 (fun H locs ls rest k => lv_ldc2 hex hb hown (hts _ (hE.2.2.1 q v hz).2) hd k) k
  case iload q =>
    have hl : n = 2 := by simpa [zlit] using hl
    subst hl
    exact zx_load (fun H locs ls rest x h k => lv_iload hex hb hd h k) hx k
  case iload_n q =>
    have hl : n = 1 := by simpa [zlit] using hl
    subst hl
    exact zx_load (fun H locs ls rest x h k => lv_iload_n hex hb hd rfl h k) hx k
  case lload q =>
    have hl : n = 2 := by simpa [zlit] using hl
    subst hl
    exact zx_load (fun H locs ls rest x h k => lv_lload hex hb hd h k) hx k
  case lload_n q =>
    have hl : n = 1 := by simpa [zlit] using hl
    subst hl
    exact zx_load (fun H locs ls rest x h k => lv_lload_n hex hb hd rfl h k) hx k
  case aload q =>
    have hl : n = 2 := by simpa [zlit] using hl
    subst hl
    exact zx_load (fun H locs ls rest x h k => lv_aload hex hb hd h k) hx k
  case aload_n q =>
    have hl : n = 1 := by simpa [zlit] using hl
    subst hl
    exact zx_load (fun H locs ls rest x h k => lv_aload_n hex hb hd rfl h k) hx k
  case istore q =>
    have hl : n = 2 ∧ q < nL := by simpa [zlit, Nat.blt_eq] using hl
    obtain ⟨rfl, hq⟩ := hl
    refine zx_store (fun H locs ls rest v hv h kk => ?_) (fun v hv => by rw [znrm_i hv]; rfl) hx hp k
    obtain ⟨t, x⟩ := v
    have e1 := zc_i hv ad x
    rw [e1]
    exact lv_istore hex hb hd h hq rfl (fun ls' h' => kk ls' (zst_has (wide := false) (fun q => Or.inl rfl) (by rw [e1]; exact h')))
  case istore_n q =>
    have hl : n = 1 ∧ q.val < nL := by simpa [zlit, Nat.blt_eq] using hl
    obtain ⟨rfl, hq⟩ := hl
    refine zx_store (fun H locs ls rest v hv h kk => ?_) (fun v hv => by rw [znrm_i hv]; rfl) hx hp k
    obtain ⟨t, x⟩ := v
    have e1 := zc_i hv ad x
    rw [e1]
    exact lv_istore_n hex hb hd rfl h hq rfl (fun ls' h' => kk ls' (zst_has (wide := false) (fun q => Or.inl rfl) (by rw [e1]; exact h')))
  case lstore q =>
    have hl : n = 2 ∧ q + 1 < nL := by simpa [zlit, Nat.blt_eq] using hl
    obtain ⟨rfl, hq⟩ := hl
    refine zx_store (fun H locs ls rest v hv h kk => ?_) (fun v hv => ?_) hx hp k
    · obtain ⟨t, x⟩ := v
      have e1 := zc_l hv ad x
      rw [e1]
      exact lv_lstore hex hb hd h hq rfl (fun ls' h' => kk ls' (zst_has (wide := true) (fun q => Or.inr ⟨rfl, rfl⟩) (by rw [e1]; exact h')))
    · obtain ⟨t, x⟩ := v
      match t, hv with
      | 1, _ => rfl
      | 4, _ => cases wr <;> rfl
  case lstore_n q =>
    have hl : n = 1 ∧ q.val + 1 < nL := by simpa [zlit, Nat.blt_eq] using hl
    obtain ⟨rfl, hq⟩ := hl
    refine zx_store (fun H locs ls rest v hv h kk => ?_) (fun v hv => ?_) hx hp k
    · obtain ⟨t, x⟩ := v
      have e1 := zc_l hv ad x
      rw [e1]
      exact lv_lstore_n hex hb hd rfl h hq rfl (fun ls' h' => kk ls' (zst_has (wide := true) (fun q => Or.inr ⟨rfl, rfl⟩) (by rw [e1]; exact h')))
    · obtain ⟨t, x⟩ := v
      match t, hv with
      | 1, _ => rfl
      | 4, _ => cases wr <;> rfl
  case astore q =>
    have hl : n = 2 ∧ q < nL := by simpa [zlit, Nat.blt_eq] using hl
    obtain ⟨rfl, hq⟩ := hl
    refine zx_store (fun H locs ls rest v hv h kk => ?_) (fun v hv => ?_) hx hp k
    · obtain ⟨t, x⟩ := v
      have ht : 2 = t := zbeq hv
      subst ht
      exact lv_astore hex hb hd h hq rfl (fun ls' h' => kk ls' (zst_has (wide := false) (fun q => Or.inl rfl) h'))
    · obtain ⟨t, x⟩ := v
      have ht : 2 = t := zbeq hv
      subst ht
      rfl
  case astore_n q =>
    have hl : n = 1 ∧ q.val < nL := by simpa [zlit, Nat.blt_eq] using hl
    obtain ⟨rfl, hq⟩ := hl
    refine zx_store (fun H locs ls rest v hv h kk => ?_) (fun v hv => ?_) hx hp k
    · obtain ⟨t, x⟩ := v
      have ht : 2 = t := zbeq hv
      subst ht
      exact lv_astore_n hex hb hd rfl h hq rfl (fun ls' h' => kk ls' (zst_has (wide := false) (fun q => Or.inl rfl) h'))
    · obtain ⟨t, x⟩ := v
      have ht : 2 = t := zbeq hv
      subst ht
      rfl
  case iinc q w =>
    have hl : n = 3 ∧ q < nL := by simpa [zlit, Nat.blt_eq] using hl
    obtain ⟨rfl, hq⟩ := hl
    simp only [zx] at hx
    cases hz : zg none L q with
    | none => rw [hz] at hx; cases hx
    | some v =>
      obtain ⟨t, x⟩ := v
      rw [hz] at hx
      replace hx := zcond hx
      obtain ⟨h1, hx⟩ := hx
      simp only [Option.some.injEq, Prod.mk.injEq] at hx
      obtain ⟨rfl, rfl, rfl, rfl⟩ := hx
      have ht : t = 0 := zbeq h1
      subst ht
      have hp : zI (x + w) := hp
      intro q1 q2 q3 H locs ls hP hD hS hl
      have hm : (q, zc ad (0, x)) ∈ zA ad 0 L := (zA_mem ad L 0 _).mpr ⟨q, _, by simp, hz⟩
      obtain ⟨kk, hkk⟩ := List.getElem?_of_mem hm
      refine lv_iinc hex hb hd hl hkk (v := Int32.ofInt (x + w)) (by rw [Int32.ofInt_add]) hq rfl (fun ls' h' => ?_)
      refine k q1 (fun i v hi => ?_) q3 H locs ls' hP hD hS ⟨h'.1, h'.2.1, fun u hu => h'.2.2 u ?_⟩
      · rw [zg_zp] at hi
        split at hi
        · cases hi; exact hp
        · exact q2 i v hi
      · obtain ⟨i, v, rfl, hi⟩ := (zA_mem ad _ 0 u).mp hu
        rw [zg_zp] at hi
        split at hi
        next hc =>
          cases hi
          rw [hc.1, Nat.zero_add]
          exact List.mem_cons_self
        next hc =>
          refine List.mem_cons_of_mem _ (List.mem_filter.mpr ⟨(zA_mem ad L 0 _).mpr ⟨i, v, rfl, hi⟩, ?_⟩)
          have hlt : i < L.length := by
            rw [zg_get] at hi
            cases hq : L[i]? with
            | none => rw [hq] at hi; cases hi
            | some u => exact (List.getElem?_eq_some_iff.mp hq).1
          have h6 : (0 + i == q) = false := beq_eq_false_iff_ne.mpr (fun hh => hc ⟨by omega, by omega⟩)
          have h5 : (0 + i + 1 == q && (zc ad v).category == 2) = false := by
            cases hcat : (zc ad v).category == 2 with
            | false => simp
            | true =>
              simp only [Bool.and_true]
              refine beq_eq_false_iff_ne.mpr (fun hh => ?_)
              have g1 := zA_read hl hi
              have g2 := hl.2.1.1 i _ g1 (eq_of_beq hcat)
              have g3 := zA_read hl hz
              rw [show i + 1 = q by omega, g3] at g2
              cases g2
          simp only [h5, h6]
          rfl
  case iadd =>
    have hl : n = 1 := by simpa [zlit] using hl
    subst hl
    exact zx_ii (f := fun x y => (3, x + y)) (fun a b => .int (a + b)) (fun x y => by show Value.int _ = _; rw [Int32.ofInt_add]) (fun _ _ => trivial) (fun H locs ls rest a b k => lv_iadd hex hb hd k) hx k
  case isub =>
    have hl : n = 1 := by simpa [zlit] using hl
    subst hl
    exact zx_ii (f := fun x y => (3, x - y)) (fun a b => .int (a - b)) (fun x y => by show Value.int _ = _; rw [Int32.ofInt_sub]) (fun _ _ => trivial) (fun H locs ls rest a b k => lv_isub hex hb hd k) hx k
  case imul =>
    have hl : n = 1 := by simpa [zlit] using hl
    subst hl
    exact zx_ii (f := fun x y => (3, x * y)) (fun a b => .int (a * b)) (fun x y => by show Value.int _ = _; rw [Int32.ofInt_mul]) (fun _ _ => trivial) (fun H locs ls rest a b k => lv_imul hex hb hd k) hx k
  case iand =>
    have hl : n = 1 := by simpa [zlit] using hl
    subst hl
    exact zx_ii (f := fun x y => (0, zand x y)) (fun a b => .int (a &&& b)) (fun x y => by show Value.int (Int32.ofInt (zand x y)) = _; unfold zand; rw [zoi]) (fun _ _ => zI_of32 _) (fun H locs ls rest a b k => lv_iand hex hb hd k) hx k
  case ior =>
    have hl : n = 1 := by simpa [zlit] using hl
    subst hl
    exact zx_ii (f := fun x y => (0, zor x y)) (fun a b => .int (a ||| b)) (fun x y => by show Value.int (Int32.ofInt (zor x y)) = _; unfold zor; rw [zoi]) (fun _ _ => zI_of32 _) (fun H locs ls rest a b k => lv_ior hex hb hd k) hx k
  case ixor =>
    have hl : n = 1 := by simpa [zlit] using hl
    subst hl
    exact zx_ii (f := fun x y => (0, zxor x y)) (fun a b => .int (a ^^^ b)) (fun x y => by show Value.int (Int32.ofInt (zxor x y)) = _; unfold zxor; rw [zoi]) (fun _ _ => zI_of32 _) (fun H locs ls rest a b k => lv_ixor hex hb hd k) hx k
  case ishl =>
    have hl : n = 1 := by simpa [zlit] using hl
    subst hl
    exact zx_ii (f := fun x y => (0, zshl x y)) (fun a b => .int (a <<< (b &&& 31))) (fun x y => by show Value.int (Int32.ofInt (zshl x y)) = _; unfold zshl; rw [zoi]) (fun _ _ => zI_of32 _) (fun H locs ls rest a b k => lv_ishl hex hb hd k) hx k
  case ishr =>
    have hl : n = 1 := by simpa [zlit] using hl
    subst hl
    exact zx_ii (f := fun x y => (0, zshr x y)) (fun a b => .int (a >>> (b &&& 31))) (fun x y => by show Value.int (Int32.ofInt (zshr x y)) = _; unfold zshr; rw [zoi]) (fun _ _ => zI_of32 _) (fun H locs ls rest a b k => lv_ishr hex hb hd k) hx k
  case iushr =>
    have hl : n = 1 := by simpa [zlit] using hl
    subst hl
    exact zx_ii (f := fun x y => (0, zushr x y)) (fun a b => .int ((a.toUInt32 >>> (b.toUInt32 &&& Int32.toUInt32 31)).toInt32)) (fun x y => by show Value.int (Int32.ofInt (zushr x y)) = _; unfold zushr; rw [zoi]) (fun _ _ => zI_of32 _) (fun H locs ls rest a b k => lv_iushr hex hb hd rfl k) hx k
  case idiv =>
    have hl : n = 1 := by simpa [zlit] using hl
    subst hl
    exact zx_iiv (f := fun x y => (3, x.tdiv y)) (fun a b => .int (a / b)) (fun x y hx hy _ => by show Value.int _ = _; rw [z_div32 x y hx hy]) (fun _ _ _ _ => trivial) (fun H locs ls rest a b hne k => lv_idiv hex hb hd (hne rfl) k) hx hp k
  case irem =>
    have hl : n = 1 := by simpa [zlit] using hl
    subst hl
    exact zx_iiv (f := fun x y => (0, x.tmod y)) (fun a b => .int (a - a / b * b)) (fun x y hx hy _ => by show Value.int _ = _; rw [z_tmod32 x y hx hy]) (fun _ _ hx _ => z_tmod_ok hx) (fun H locs ls rest a b hne k => lv_irem hex hb hd (hne rfl) k) hx hp k
  case ladd =>
    have hl : n = 1 := by simpa [zlit] using hl
    subst hl
    exact zx_ll (f := fun x y => (4, x + y)) (fun a b => .long (a + b)) (fun x y => by show Value.long _ = _; rw [Int64.ofInt_add]) (fun _ _ => trivial) (fun H locs ls rest a b k => lv_ladd hex hb hd k) hx k
  case lsub =>
    have hl : n = 1 := by simpa [zlit] using hl
    subst hl
    exact zx_ll (f := fun x y => (4, x - y)) (fun a b => .long (a - b)) (fun x y => by show Value.long _ = _; rw [Int64.ofInt_sub]) (fun _ _ => trivial) (fun H locs ls rest a b k => lv_lsub hex hb hd k) hx k
  case lmul =>
    have hl : n = 1 := by simpa [zlit] using hl
    subst hl
    exact zx_ll (f := fun x y => (4, x * y)) (fun a b => .long (a * b)) (fun x y => by show Value.long _ = _; rw [Int64.ofInt_mul]) (fun _ _ => trivial) (fun H locs ls rest a b k => lv_lmul hex hb hd k) hx k
  case land =>
    have hl : n = 1 := by simpa [zlit] using hl
    subst hl
    exact zx_ll (f := fun x y => (1, zandl x y)) (fun a b => .long (a &&& b)) (fun x y => by show Value.long (Int64.ofInt (zandl x y)) = _; unfold zandl; rw [zol]) (fun _ _ => zJ_of64 _) (fun H locs ls rest a b k => lv_land hex hb hd k) hx k
  case lor =>
    have hl : n = 1 := by simpa [zlit] using hl
    subst hl
    exact zx_ll (f := fun x y => (1, zorl x y)) (fun a b => .long (a ||| b)) (fun x y => by show Value.long (Int64.ofInt (zorl x y)) = _; unfold zorl; rw [zol]) (fun _ _ => zJ_of64 _) (fun H locs ls rest a b k => lv_lor hex hb hd k) hx k
  case lshl =>
    have hl : n = 1 := by simpa [zlit] using hl
    subst hl
    exact zx_li (f := fun x y => (1, zshll x y)) (fun a b => .long (a <<< (b.toInt64 &&& 63))) (fun x y => by show Value.long (Int64.ofInt (zshll x y)) = _; unfold zshll; rw [zol]) (fun _ _ => zJ_of64 _) (fun H locs ls rest a b k => lv_lshl hex hb hd rfl k) hx k
  case lshr =>
    have hl : n = 1 := by simpa [zlit] using hl
    subst hl
    exact zx_li (f := fun x y => (1, zshrl x y)) (fun a b => .long (a >>> (b.toInt64 &&& 63))) (fun x y => by show Value.long (Int64.ofInt (zshrl x y)) = _; unfold zshrl; rw [zol]) (fun _ _ => zJ_of64 _) (fun H locs ls rest a b k => lv_lshr hex hb hd rfl k) hx k
  case lushr =>
    have hl : n = 1 := by simpa [zlit] using hl
    subst hl
    exact zx_li (f := fun x y => (1, zushrl x y)) (fun a b => .long ((a.toUInt64 >>> (b.toInt64.toUInt64 &&& Int64.toUInt64 63)).toInt64)) (fun x y => by show Value.long (Int64.ofInt (zushrl x y)) = _; unfold zushrl; rw [zol]) (fun _ _ => zJ_of64 _) (fun H locs ls rest a b k => lv_lushr hex hb hd rfl k) hx k
  case ldiv =>
    have hl : n = 1 := by simpa [zlit] using hl
    subst hl
    exact zx_llv (f := fun x y => (4, x.tdiv y)) (fun a b => .long (a / b)) (fun x y hx hy _ => by show Value.long _ = _; rw [z_div64 x y hx hy]) (fun _ _ _ _ => trivial) (fun H locs ls rest a b hne k => lv_ldiv hex hb hd (hne rfl) k) hx hp k
  case lrem =>
    have hl : n = 1 := by simpa [zlit] using hl
    subst hl
    exact zx_llv (f := fun x y => (1, x.tmod y)) (fun a b => .long (a - a / b * b)) (fun x y hx hy _ => by show Value.long _ = _; rw [z_tmod64 x y hx hy]) (fun _ _ hx _ => z_tmodl_ok hx) (fun H locs ls rest a b hne k => lv_lrem hex hb hd (hne rfl) k) hx hp k
  case lcmp =>
    have hl : n = 1 := by simpa [zlit] using hl
    subst hl
    exact zx_llv (f := fun x y => (0, zlc x y)) (fun a b => .int (lg_cmp a b)) (fun x y hx hy _ => by show Value.int (Int32.ofInt (zlc x y)) = _; rw [z_lcmp x y hx hy]) (fun x y _ _ => by show zI (zlc x y); unfold zlc; split <;> (try split) <;> exact ⟨by omega, by omega⟩) (fun H locs ls rest a b hne k => W.lcmp hex hb hd k) hx hp k
  case lneg =>
    have hl : n = 1 := by simpa [zlit] using hl
    subst hl
    match st, hx with
    | [], hx => cases hx
    | (t, x) :: r, hx =>
      replace hx := zcond hx
      obtain ⟨h1, hx⟩ := hx
      simp only [Option.some.injEq, Prod.mk.injEq] at hx
      obtain ⟨-, rfl, rfl, rfl⟩ := hx
      intro q1 q2 q3 H locs ls hP hD hS hl
      simp only [List.map_cons, zc_l h1]
      refine lv_lneg hex hb hd ?_
      rw [← Int64.ofInt_neg]
      exact k q1 q2 (zokT_cons (v := (4, -x)) trivial (zokT_tl q3)) H locs ls hP hD hS hl
  case ineg =>
    have hl : n = 1 := by simpa [zlit] using hl
    subst hl
    match st, hx with
    | [], hx => cases hx
    | (t, x) :: r, hx =>
      replace hx := zcond hx
      obtain ⟨h1, hx⟩ := hx
      simp only [Option.some.injEq, Prod.mk.injEq] at hx
      obtain ⟨-, rfl, rfl, rfl⟩ := hx
      intro q1 q2 q3 H locs ls hP hD hS hl
      simp only [List.map_cons, zc_i h1]
      refine lv_ineg hex hb hd ?_
      rw [← Int32.ofInt_neg]
      exact k q1 q2 (zokT_cons (v := (3, -x)) trivial (zokT_tl q3)) H locs ls hP hD hS hl
  case i2l =>
    have hl : n = 1 := by simpa [zlit] using hl
    subst hl
    match st, hx with
    | [], hx => cases hx
    | (t, x) :: r, hx =>
      replace hx := zcond hx
      obtain ⟨h1, hx⟩ := hx
      simp only [Option.some.injEq, Prod.mk.injEq] at hx
      obtain ⟨rfl, rfl, rfl, rfl⟩ := hx
      intro q1 q2 q3 H locs ls hP hD hS hl
      have o1 := zr_ok h1 (zokT_hd q3) hp
      simp only [List.map_cons, zc_i h1]
      refine lv_i2l hex hb hd (v := Int64.ofInt x) ?_ (k q1 q2 (zokT_cons (v := (1, x)) (show zJ x from ⟨by have := o1.1; omega, by have := o1.2; omega⟩) (zokT_tl q3)) H locs ls hP hD hS hl)
      apply Int64.toInt_inj.mp
      rw [Int32.toInt_toInt64, zti o1, ztl ⟨by have := o1.1; omega, by have := o1.2; omega⟩]
  case l2i =>
    have hl : n = 1 := by simpa [zlit] using hl
    subst hl
    match st, hx with
    | [], hx => cases hx
    | (t, x) :: r, hx =>
      replace hx := zcond hx
      obtain ⟨h1, hx⟩ := hx
      simp only [Option.some.injEq, Prod.mk.injEq] at hx
      obtain ⟨-, rfl, rfl, rfl⟩ := hx
      intro q1 q2 q3 H locs ls hP hD hS hl
      simp only [List.map_cons, zc_l h1]
      exact lv_l2i hex hb hd (v := Int32.ofInt x) (by rw [Int64.toInt32_ofInt]) (k q1 q2 (zokT_cons (v := (3, x)) trivial (zokT_tl q3)) H locs ls hP hD hS hl)
  case getfield q =>
    have hl : n = 3 := by simpa [zlit] using hl
    subst hl
    exact zx_getf C0 hd hx k
  case putfield q =>
    have hl : n = 3 := by simpa [zlit] using hl
    subst hl
    exact zx_putf C0 hd hx hp k
  case iaload =>
    have hl : n = 1 := by simpa [zlit] using hl
    subst hl
    exact zx_aload C0 hd hx hp k
  case iastore =>
    have hl : n = 1 := by simpa [zlit] using hl
    subst hl
    exact zx_astore C0 hd hx hp k
  case arraylength =>
    have hl : n = 1 := by simpa [zlit] using hl
    subst hl
    exact zx_alen C0 hd hx k
  case dup =>
    have hl : n = 1 := by simpa [zlit] using hl
    subst hl
    match st, hx with
    | [], hx => cases hx
    | v :: r, hx =>
      replace hx := zcond hx
      obtain ⟨h1, hx⟩ := hx
      simp only [Option.some.injEq, Prod.mk.injEq] at hx
      obtain ⟨-, rfl, rfl, rfl⟩ := hx
      intro q1 q2 q3 H locs ls hP hD hS hl
      exact lv_dup hex hb hd (by rw [zcat, h1]; rfl) (k q1 q2 (zokT_cons (zokT_hd q3) q3) H locs ls hP hD hS hl)
  case pop =>
    have hl : n = 1 := by simpa [zlit] using hl
    subst hl
    match st, hx with
    | [], hx => cases hx
    | v :: r, hx =>
      replace hx := zcond hx
      obtain ⟨h1, hx⟩ := hx
      simp only [Option.some.injEq, Prod.mk.injEq] at hx
      obtain ⟨-, rfl, rfl, rfl⟩ := hx
      intro q1 q2 q3 H locs ls hP hD hS hl
      exact lv_pop hex hb hd (by rw [zcat, h1]; rfl) (k q1 q2 (zokT_tl q3) H locs ls hP hD hS hl)
  case dup2 =>
    have hl : n = 1 := by simpa [zlit] using hl
    subst hl
    match st, hx with
    | [], hx => cases hx
    | [_], hx => cases hx
    | v :: w :: r, hx =>
      replace hx := zcond hx
      obtain ⟨h1, hx⟩ := hx
      replace hx := zcond hx
      obtain ⟨h2, hx⟩ := hx
      simp only [Option.some.injEq, Prod.mk.injEq] at hx
      obtain ⟨-, rfl, rfl, rfl⟩ := hx
      intro q1 q2 q3 H locs ls hP hD hS hl
      exact lv_dup2_11 hex hb hd (by rw [zcat, h1]; rfl) (by rw [zcat, h2]; rfl) (k q1 q2 (zokT_cons (zokT_hd q3) (zokT_cons (zokT_hd (zokT_tl q3)) q3)) H locs ls hP hD hS hl)
  case invokestatic q =>
    have hl : n = 3 := by simpa [zlit] using hl
    subst hl
    exact zx_mm C0 hd hx hp k
  all_goals (simp only [zx] at hx; cases hx)
theorem zxs_ok (C0 : zC p R s m args c D cA A Λ shp cc own nL Ts E) (blk : List (Instr × Nat)) {z : Nat} (hd : zdk cc nL pc blk z = true) (hx : zxs Λ E wr blk L st σ = some (ps, L2, st2, σ2)) (hp : zcj ps) (k : zS p l e R s m args below meth c Q D cA ad A Λ shp nL z L2 st2 σ2) : zS p l e R s m args below meth c Q D cA ad A Λ shp nL pc L st σ := by
  induction blk generalizing pc L st σ ps with
  | nil =>
    have hz : pc = z := Nat.eq_of_beq_eq_true hd
    subst hz
    simp only [zxs, Option.some.injEq, Prod.mk.injEq] at hx
    obtain ⟨-, rfl, rfl, rfl⟩ := hx
    exact k
  | cons i r ih =>
    simp only [zdk, Bool.and_eq_true, decide_eq_true_eq] at hd
    obtain ⟨⟨h1, h2⟩, h3⟩ := hd
    simp only [zxs] at hx
    cases hz : zx Λ E wr i.1 L st σ with
    | none => rw [hz] at hx; cases hx
    | some u =>
      obtain ⟨ps1, L1, st1, σ1⟩ := u
      rw [hz] at hx
      simp only at hx
      cases hz2 : zxs Λ E wr r L1 st1 σ1 with
      | none => rw [hz2] at hx; cases hx
      | some u =>
        obtain ⟨ps2, L3, st3, σ3⟩ := u
        rw [hz2] at hx
        simp only [Option.some.injEq, Prod.mk.injEq] at hx
        obtain ⟨rfl, rfl, rfl, rfl⟩ := hx
        obtain ⟨g1, g2⟩ := zcj_append hp
        exact zx_ok C0 h1 h2 hz g1 (ih h3 hz2 g2)
end ZX3
end
section
/-- a branch: its condition (of a ne, ge, le the opposite), whether that was turned, what it asks, the stack behind it -/
def zcnd (i : Instr) (st : List zV) : Option (Prop × Bool × List Prop × List zV) := match i with
  | .ifCond o _ => match st with
    | (t, x) :: r => cond (zi t) (match o with
      | .eq => some (x = 0, false, zr t x, r)
      | .ne => some (x = 0, true, zr t x, r)
      | .lt => some (x < 0, false, zr t x, r)
      | .ge => some (x < 0, true, zr t x, r)
      | .gt => some (0 < x, false, zr t x, r)
      | .le => some (0 < x, true, zr t x, r)) none
    | _ => none
  | .if_icmp o _ => match st with
    | (u, y) :: (t, x) :: r => cond (zi u) (cond (zi t) (match o with
      | .eq => some (x = y, false, zr t x ++ zr u y, r)
      | .ne => some (x = y, true, zr t x ++ zr u y, r)
      | .lt => some (x < y, false, zr t x ++ zr u y, r)
      | .ge => some (x < y, true, zr t x ++ zr u y, r)
      | .gt => some (y < x, false, zr t x ++ zr u y, r)
      | .le => some (y < x, true, zr t x ++ zr u y, r)) none) none
    | _ => none
  | _ => none
def zto (pc : Nat) (off : Int) : Option Nat := match Int.ofNat pc + off with
  | .ofNat t => some t
  | .negSucc _ => none
def zoff (i : Instr) : Int := match i with
  | .ifCond _ o => o
  | .if_icmp _ o => o
  | .goto o => o
  | _ => 0
def zbif (Λ : List zE) (E : zEnv) (wr : Bool) (blk : List (Instr × Nat)) (i : Instr) (pcT : Nat) (L : zL) (st : List zV) (σ : zT) : Option (List Prop × Prop × Nat × Nat × zL × List zV × zT) := match zxs Λ E wr blk L st σ with
  | some (ps, L2, st2, σ2) => match zcnd i st2 with
    | some (q, sw, gs, r) => match zto pcT (zoff i) with
      | some t => some (ps ++ gs, q, cond sw (pcT + 3) t, cond sw t (pcT + 3), L2, r, σ2)
      | none => none
    | none => none
  | none => none
def zpop (wr : Bool) : Nat → List zV → List zV → Option (List Prop × List zV × List zV)
  | 0, st, acc => some ([], acc, st)
  | n + 1, v :: r, acc => match znrm wr v with
    | (qs, w) => match zpop wr n r (w :: acc) with
      | some (ps, a, s) => some (qs ++ ps, a, s)
      | none => none
  | _ + 1, [], _ => none
def zbc (Λ : List zE) (E : zEnv) (wr : Bool) (blk : List (Instr × Nat)) (n : Nat) (L : zL) (st : List zV) (σ : zT) : Option (List Prop × List zV × zL × List zV × zT) := match zxs Λ E wr blk L st σ with
  | some (ps, L2, st2, σ2) => match zpop wr n st2 [] with
    | some (qs, av, rest) => some (ps ++ qs, av, L2, rest, σ2)
    | none => none
  | none => none
abbrev zB : Type := List (Nat × List (Instr × Nat) × Nat × Instr × Nat)
def zBok (cc : ByteArray) (nL : Nat) (B : zB) : Bool := B.all (fun b => zdk cc nL b.1 b.2.1 b.2.2.1 && (b.2.2.2.2 == 0 || decide (decode cc b.2.2.1 = .ok (b.2.2.2.1, b.2.2.2.2))))
def zenl : List zV → zL
  | [] => []
  | v :: r => some v :: cond (zc1 v.1) (zenl r) (none :: zenl r)
def zpad : Nat → zL → zL
  | 0, _ => []
  | n + 1, [] => none :: zpad n []
  | n + 1, o :: L => o :: zpad n L
def zen (n : Nat) (av : List zV) : zL := zpad n (zenl av)
/-- which cells a method of a layout may change -/
def zAd (ad : Nat → Nat) (Λ : List zE) (sz : Nat) : Nat → Prop := fun q => (∃ k, k < Λ.length ∧ q = ad k) ∨ sz ≤ q
def zQ (D : va_G) (cA : ClassId) (ad : Nat → Nat) (A : Nat → Prop) (Λ : List zE) (shp : List (Nat × Nat)) (r : Option zV) (σ : zT) : Array Value → State → Outcome → State → Prop := fun _ st oc t =>
  oc = .returned (r.map (zc ad)) ∧ zok shp σ ∧ (∀ v, r = some v → zokV v) ∧ va_P D vwCl (zW cA ad σ 0 Λ) t.heap ∧ va_K D vwCl [(cA, .int)] t ∧ va_D A (zW cA ad σ 0 Λ) ∧ va_F A st t
def zPc (D : va_G) (cA : ClassId) (ad : Nat → Nat) (Λ : List zE) (shp : List (Nat × Nat)) (av : List zV) (σ : zT) (sz : Nat) : Array Value → State → Prop :=
  va_Pc (av.map (zc ad)) (fun U => zok shp σ ∧ zokT av ∧ U.heap.size = sz ∧ va_P D vwCl (zW cA ad σ 0 Λ) U.heap ∧ va_K D vwCl [(cA, .int)] U ∧ va_D (fun _ => True) (zW cA ad σ 0 Λ))
/-- THE CONTRACT of a method over a layout: of the arguments av and the cells σ it makes the answer r and the cells σ2 -/
def zD (l : Launch) (y : MethodName) (ws : List Cond) (rm : Room) (Λ : List zE) (shp : List (Nat × Nat)) (av : List zV) (σ : zT) (r : Option zV) (σ2 : zT) : Prop :=
  ∀ (D : va_G) (cA : ClassId) (ad : Nat → Nat) (sz : Nat), Met l y ws rm (zPc D cA ad Λ shp av σ sz) (zQ D cA ad (zAd ad Λ sz) Λ shp r σ2) 0 0 (zAd ad Λ sz)
def zmask : List Bool → zL → zL
  | [], L => L
  | true :: b, o :: L => o :: zmask b L
  | false :: b, _ :: L => none :: zmask b L
  | _ :: _, [] => []
/-- what of a call is looked at once -/
def zCw (virt : Bool) (Ts : List Cond) (own : String) (rm0 : Room) (idx : Nat) (y : MethodName) (ws : List Cond) (rm : Room) (n : Nat) : Prop :=
  ∃ (bytes : ByteArray) (maxL : Nat) (ret : Option FieldType) (ws2 : List Cond), ws = Cond.code y bytes maxL ret :: ws2 ∧ rm.cells = 0 ∧ rm.slots = 0 ∧
    (y.cls ≠ "java/lang/invoke/MethodHandle" ∧ y.cls ≠ "java/lang/invoke/VarHandle" ∧ (parseMethodDescriptor y.desc).map (fun d => d.parameters.length) = some n) ∧ (rm.frames + 1 ≤ rm0.frames ∧ 8 + (maxL + 11) + rm.locals ≤ rm0.locals) ∧
    (match virt with
      | true => GoodIn Ts (wsV own idx y.cls y ws)
      | false => GoodIn Ts (va_wsS own idx y ws))
def zrcv (Λ : List zE) (C : String) (v : zV) : Prop := v.1 = 2 ∧ ∃ (o : Nat × List (Nat ⊕ (Nat × Nat))) (T : u_T) (N : Nat), zo Λ v.2.toNat = some (.inr o) ∧ vwCl[o.1]? = some (C, T, N)
/-- THE RULES by which a method is walked: S pc locals stack cells -/
def zR (l : Launch) (B : zB) (Λ : List zE) (shp : List (Nat × Nat)) (E : zEnv) (Ts : List Cond) (own : String) (rm0 : Room) (ret : Option FieldType) (r0 : Option zV) (σ0 : zT) (S : Nat → zL → List zV → zT → Prop) : Prop :=
  (∀ (wr : Bool) (j : Nat) {pc : Nat} {blk : List (Instr × Nat)} {pcT : Nat} {i : Instr} {n : Nat} {L : zL} {st : List zV} {σ : zT} {ps : List Prop} {L2 : zL} {st2 : List zV} {σ2 : zT}, zo B j = some (pc, blk, pcT, i, n) → zxs Λ E wr blk L st σ = some (ps, L2, st2, σ2) → zcj ps → S pcT L2 st2 σ2 → S pc L st σ) ∧
  (∀ (wr : Bool) (j : Nat) {pc : Nat} {blk : List (Instr × Nat)} {pcT : Nat} {o : Int} {t : Nat} {L : zL} {st : List zV} {σ : zT} {ps : List Prop} {L2 : zL} {st2 : List zV} {σ2 : zT}, zo B j = some (pc, blk, pcT, .goto o, 3) → zxs Λ E wr blk L st σ = some (ps, L2, st2, σ2) → zto pcT o = some t → zcj ps → S t L2 st2 σ2 → S pc L st σ) ∧
  (∀ (wr : Bool) (j : Nat) {pc : Nat} {blk : List (Instr × Nat)} {pcT : Nat} {i : Instr} {t1 t2 : Nat} {q : Prop} {L : zL} {st : List zV} {σ : zT} {ps : List Prop} {L2 : zL} {st2 : List zV} {σ2 : zT}, zo B j = some (pc, blk, pcT, i, 3) → zbif Λ E wr blk i pcT L st σ = some (ps, q, t1, t2, L2, st2, σ2) → zcj ps → (q → S t1 L2 st2 σ2) → (¬ q → S t2 L2 st2 σ2) → S pc L st σ) ∧
  (∀ (wr : Bool) (j n : Nat) {pc : Nat} {blk : List (Instr × Nat)} {pcT idx : Nat} {L : zL} {st : List zV} {σ : zT} {ps : List Prop} {v : zV} {av : List zV} {L2 : zL} {rest : List zV} {σ2 : zT} {y : MethodName} {ws : List Cond} {rm : Room} {r : Option zV} {σ3 : zT}, zo B j = some (pc, blk, pcT, .invokevirtual idx, 3) → zbc Λ E wr blk (n + 1) L st σ = some (ps, v :: av, L2, rest, σ2) → zcj ps → Nat.ble (zct rest) 8 = true → zD l y ws rm Λ shp (v :: av) σ2 r σ3 → zCw true Ts own rm0 idx y ws rm n → zrcv Λ y.cls v → S (pcT + 3) L2 (r.toList ++ rest) σ3 → S pc L st σ) ∧
  (∀ (wr : Bool) (j n : Nat) {pc : Nat} {blk : List (Instr × Nat)} {pcT idx : Nat} {L : zL} {st : List zV} {σ : zT} {ps : List Prop} {av : List zV} {L2 : zL} {rest : List zV} {σ2 : zT} {y : MethodName} {ws : List Cond} {rm : Room} {r : Option zV} {σ3 : zT}, zo B j = some (pc, blk, pcT, .invokestatic idx, 3) → zbc Λ E wr blk n L st σ = some (ps, av, L2, rest, σ2) → zcj ps → Nat.ble (zct rest) 8 = true → zD l y ws rm Λ shp av σ2 r σ3 → zCw false Ts own rm0 idx y ws rm n → S (pcT + 3) L2 (r.toList ++ rest) σ3 → S pc L st σ) ∧
  (∀ (wr : Bool) (j : Nat) {pc : Nat} {blk : List (Instr × Nat)} {pcT : Nat} {L : zL} {st : List zV} {σ : zT} {ps : List Prop} {L2 : zL}, ret = none → r0 = none → zo B j = some (pc, blk, pcT, .return_, 1) → zxs Λ E wr blk L st σ = some (ps, L2, [], σ0) → zcj ps → S pc L st σ) ∧
  (∀ (wr : Bool) (j : Nat) {pc : Nat} {blk : List (Instr × Nat)} {pcT : Nat} {L : zL} {st : List zV} {σ : zT} {ps : List Prop} {L2 : zL} {v w : zV} {qs : List Prop}, ret = some .int → zo B j = some (pc, blk, pcT, .ireturn, 1) → zxs Λ E wr blk L st σ = some (ps, L2, [v], σ0) → zi v.1 = true → znrm wr v = (qs, w) → r0 = some w → zcj (ps ++ qs) → S pc L st σ) ∧
  (∀ (wr : Bool) (j : Nat) {pc : Nat} {blk : List (Instr × Nat)} {pcT : Nat} {L : zL} {st : List zV} {σ : zT} {ps : List Prop} {L2 : zL} {x : Int}, ret = some .boolean → zo B j = some (pc, blk, pcT, .ireturn, 1) → zxs Λ E wr blk L st σ = some (ps, L2, [(0, x)], σ0) → r0 = some (0, x) → zcj ps → zbit x → S pc L st σ) ∧
  (∀ (wr : Bool) (j : Nat) {pc : Nat} {blk : List (Instr × Nat)} {pcT : Nat} {L : zL} {st : List zV} {σ : zT} {ps : List Prop} {L2 : zL} {v w : zV} {qs : List Prop}, ret = some .long → zo B j = some (pc, blk, pcT, .lreturn, 1) → zxs Λ E wr blk L st σ = some (ps, L2, [v], σ0) → zil v.1 = true → znrm wr v = (qs, w) → r0 = some w → zcj (ps ++ qs) → S pc L st σ) ∧
  (∀ (wr : Bool) (j : Nat) {pc : Nat} {blk : List (Instr × Nat)} {pcT n : Nat} {dd lo hi : Int} {offs : Array Int} {L : zL} {st : List zV} {σ : zT} {ps : List Prop} {L2 : zL} {v : zV} {rest : List zV} {σ2 : zT}, zo B j = some (pc, blk, pcT, .tableswitch dd lo hi offs, n) → Nat.beq n 0 = false → zxs Λ E wr blk L st σ = some (ps, L2, v :: rest, σ2) → zi v.1 = true → zcj (ps ++ zr v.1 v.2) → hi - lo + 1 = (offs.size : Int) → (∀ (q : Nat) (off : Int), offs[q]? = some off → v.2 = lo + q → ∃ t : Nat, zto pcT off = some t ∧ S t L2 rest σ2) → (v.2 < lo ∨ hi < v.2 → ∃ t : Nat, zto pcT dd = some t ∧ S t L2 rest σ2) → S pc L st σ) ∧
  (∀ (b : List Bool) {pc : Nat} {L : zL} {st : List zV} {σ : zT} {L2 : zL}, zmask b L = L2 → S pc L2 st σ → S pc L st σ)
section ZR
variable {p : Program} {l : Launch} {e : Env} {R : Room} {s : State} {m : MethodId} {args : Array Value} {below : List Frame} {meth : Method} {c : Code} {Q : State → Prop} {D : va_G} {cA : ClassId} {ad : Nat → Nat} {A : Nat → Prop} {Λ : List zE} {shp : List (Nat × Nat)} {nL : Nat} {cc : ByteArray} {own : String} {Ts : List Cond} {E : zEnv}
variable {pc n : Nat} {L L2 : zL} {st st2 : List zV} {σ σ2 : zT} {ps : List Prop} {wr : Bool}
theorem zto_eq {pc t : Nat} {o : Int} (h : zto pc o = some t) : (pc : Int) + o = (t : Int) := by
  unfold zto at h
  split at h
  next u hu => cases h; exact hu
  next => cases h
theorem z32lt (x y : Int) (hx : zI x) (hy : zI y) : Int32.ofInt x < Int32.ofInt y ↔ x < y := by rw [Int32.lt_iff_toInt_lt, zti hx, zti hy]
theorem z32le (x y : Int) (hx : zI x) (hy : zI y) : Int32.ofInt x ≤ Int32.ofInt y ↔ x ≤ y := by rw [Int32.le_iff_toInt_le, zti hx, zti hy]
theorem z32eq (x y : Int) (hx : zI x) (hy : zI y) : Int32.ofInt x = Int32.ofInt y ↔ x = y := by rw [← Int32.toInt_inj, zti hx, zti hy]
theorem zI0 : zI 0 := ⟨by omega, by omega⟩
theorem zs_br (C0 : zC p R s m args c D cA A Λ shp cc own nL Ts E) {i : Instr} (hd : decode cc pc = .ok (i, 3)) {q : Prop} {sw : Bool} {gs : List Prop} {r : List zV} {t : Nat} (hc : zcnd i st = some (q, sw, gs, r)) (ht : zto pc (zoff i) = some t) (hg : zcj gs)
    (k1 : q → zS p l e R s m args below meth c Q D cA ad A Λ shp nL (cond sw (pc + 3) t) L r σ) (k2 : ¬ q → zS p l e R s m args below meth c Q D cA ad A Λ shp nL (cond sw t (pc + 3)) L r σ) : zS p l e R s m args below meth c Q D cA ad A Λ shp nL pc L st σ := by
  have hex : p.tables.exec = Jvm.exec := C0.1
  have hb : c.code = cc := C0.2.1
  have htt := zto_eq ht
  intro q1 q2 q3 H locs ls hP hD hS hl
  cases i with
  | ifCond o off =>
    have htt : (pc : Int) + off = (t : Int) := htt
    match st, hc with
    | [], hc => cases hc
    | (tv, x) :: r', hc =>
      replace hc := zcond hc
      obtain ⟨h1, hc⟩ := hc
      have q4 := zokT_tl q3
      have h0 : (0 : Int32) = Int32.ofInt 0 := rfl
      simp only [List.map_cons, zc_i h1]
      cases o with
      | eq =>
        simp only [Option.some.injEq, Prod.mk.injEq] at hc
        obtain ⟨rfl, rfl, rfl, rfl⟩ := hc
        have hx := zr_ok h1 (zokT_hd q3) hg
        exact lv_if_eq hex hb hd htt (fun h => k1 ((z32eq x 0 hx zI0).mp h) q1 q2 q4 H locs ls hP hD hS hl) (fun h => k2 (fun g => h ((z32eq x 0 hx zI0).mpr g)) q1 q2 q4 H locs ls hP hD hS hl)
      | ne =>
        simp only [Option.some.injEq, Prod.mk.injEq] at hc
        obtain ⟨rfl, rfl, rfl, rfl⟩ := hc
        have hx := zr_ok h1 (zokT_hd q3) hg
        exact lv_if_ne hex hb hd htt (fun h => k2 (fun g => h ((z32eq x 0 hx zI0).mpr g)) q1 q2 q4 H locs ls hP hD hS hl) (fun h => k1 ((z32eq x 0 hx zI0).mp h) q1 q2 q4 H locs ls hP hD hS hl)
      | lt =>
        simp only [Option.some.injEq, Prod.mk.injEq] at hc
        obtain ⟨rfl, rfl, rfl, rfl⟩ := hc
        have hx := zr_ok h1 (zokT_hd q3) hg
        exact lv_if_lt hex hb hd htt (fun h => k1 ((z32lt x 0 hx zI0).mp h) q1 q2 q4 H locs ls hP hD hS hl) (fun h => k2 (fun g => h ((z32lt x 0 hx zI0).mpr g)) q1 q2 q4 H locs ls hP hD hS hl)
      | ge =>
        simp only [Option.some.injEq, Prod.mk.injEq] at hc
        obtain ⟨rfl, rfl, rfl, rfl⟩ := hc
        have hx := zr_ok h1 (zokT_hd q3) hg
        have e := z32le 0 x zI0 hx
        exact lv_if_ge hex hb hd htt (fun h => k2 (fun g => by have := e.mp h; omega) q1 q2 q4 H locs ls hP hD hS hl) (fun h => k1 (by have : ¬ 0 ≤ x := fun g => h (e.mpr g); omega) q1 q2 q4 H locs ls hP hD hS hl)
      | gt =>
        simp only [Option.some.injEq, Prod.mk.injEq] at hc
        obtain ⟨rfl, rfl, rfl, rfl⟩ := hc
        have hx := zr_ok h1 (zokT_hd q3) hg
        have e := z32lt 0 x zI0 hx
        exact lv_if_gt hex hb hd htt (fun h => k1 (e.mp h) q1 q2 q4 H locs ls hP hD hS hl) (fun h => k2 (fun g => h (e.mpr g)) q1 q2 q4 H locs ls hP hD hS hl)
      | le =>
        simp only [Option.some.injEq, Prod.mk.injEq] at hc
        obtain ⟨rfl, rfl, rfl, rfl⟩ := hc
        have hx := zr_ok h1 (zokT_hd q3) hg
        have e := z32le x 0 hx zI0
        exact lv_if_le hex hb hd htt (fun h => k2 (fun g => by have := e.mp h; omega) q1 q2 q4 H locs ls hP hD hS hl) (fun h => k1 (by have : ¬ x ≤ 0 := fun g => h (e.mpr g); omega) q1 q2 q4 H locs ls hP hD hS hl)
  | if_icmp o off =>
    have htt : (pc : Int) + off = (t : Int) := htt
    match st, hc with
    | [], hc => cases hc
    | [_], hc => cases hc
    | (tw, y) :: (tv, x) :: r', hc =>
      replace hc := zcond hc
      obtain ⟨h2, hc⟩ := hc
      replace hc := zcond hc
      obtain ⟨h1, hc⟩ := hc
      have q4 := zokT_tl (zokT_tl q3)
      have hxy : zcj (zr tv x ++ zr tw y) → zI x ∧ zI y := fun hg => by
        obtain ⟨g1, g2⟩ := zcj_append hg
        exact ⟨zr_ok h1 (zokT_hd (zokT_tl q3)) g1, zr_ok h2 (zokT_hd q3) g2⟩
      simp only [List.map_cons, zc_i h1, zc_i h2]
      cases o with
      | eq =>
        simp only [Option.some.injEq, Prod.mk.injEq] at hc
        obtain ⟨rfl, rfl, rfl, rfl⟩ := hc
        obtain ⟨hx, hy⟩ := hxy hg
        have e := z32eq x y hx hy
        exact lv_icmp_eq hex hb hd htt (fun h => k1 (e.mp h) q1 q2 q4 H locs ls hP hD hS hl) (fun h => k2 (fun g => h (e.mpr g)) q1 q2 q4 H locs ls hP hD hS hl)
      | ne =>
        simp only [Option.some.injEq, Prod.mk.injEq] at hc
        obtain ⟨rfl, rfl, rfl, rfl⟩ := hc
        obtain ⟨hx, hy⟩ := hxy hg
        have e := z32eq x y hx hy
        exact lv_icmp_ne hex hb hd htt (fun h => k2 (fun g => h (e.mpr g)) q1 q2 q4 H locs ls hP hD hS hl) (fun h => k1 (e.mp h) q1 q2 q4 H locs ls hP hD hS hl)
      | lt =>
        simp only [Option.some.injEq, Prod.mk.injEq] at hc
        obtain ⟨rfl, rfl, rfl, rfl⟩ := hc
        obtain ⟨hx, hy⟩ := hxy hg
        have e := z32lt x y hx hy
        exact lv_icmp_lt hex hb hd htt (fun h => k1 (e.mp h) q1 q2 q4 H locs ls hP hD hS hl) (fun h => k2 (fun g => h (e.mpr g)) q1 q2 q4 H locs ls hP hD hS hl)
      | ge =>
        simp only [Option.some.injEq, Prod.mk.injEq] at hc
        obtain ⟨rfl, rfl, rfl, rfl⟩ := hc
        obtain ⟨hx, hy⟩ := hxy hg
        have e := z32le y x hy hx
        exact lv_icmp_ge hex hb hd htt (fun h => k2 (fun g => by have := e.mp h; omega) q1 q2 q4 H locs ls hP hD hS hl) (fun h => k1 (by have : ¬ y ≤ x := fun g => h (e.mpr g); omega) q1 q2 q4 H locs ls hP hD hS hl)
      | gt =>
        simp only [Option.some.injEq, Prod.mk.injEq] at hc
        obtain ⟨rfl, rfl, rfl, rfl⟩ := hc
        obtain ⟨hx, hy⟩ := hxy hg
        have e := z32lt y x hy hx
        exact lv_icmp_gt hex hb hd htt (fun h => k1 (e.mp h) q1 q2 q4 H locs ls hP hD hS hl) (fun h => k2 (fun g => h (e.mpr g)) q1 q2 q4 H locs ls hP hD hS hl)
      | le =>
        simp only [Option.some.injEq, Prod.mk.injEq] at hc
        obtain ⟨rfl, rfl, rfl, rfl⟩ := hc
        obtain ⟨hx, hy⟩ := hxy hg
        have e := z32le x y hx hy
        exact lv_icmp_le hex hb hd htt (fun h => k2 (fun g => by have := e.mp h; omega) q1 q2 q4 H locs ls hP hD hS hl) (fun h => k1 (by have : ¬ x ≤ y := fun g => h (e.mpr g); omega) q1 q2 q4 H locs ls hP hD hS hl)
  | _ => cases hc
theorem zbif_inv {blk : List (Instr × Nat)} {i : Instr} {pcT t1 t2 : Nat} {q : Prop} (h : zbif Λ E wr blk i pcT L st σ = some (ps, q, t1, t2, L2, st2, σ2)) : ∃ ps1 st1 sw gs t, zxs Λ E wr blk L st σ = some (ps1, L2, st1, σ2) ∧ zcnd i st1 = some (q, sw, gs, st2) ∧ zto pcT (zoff i) = some t ∧ ps = ps1 ++ gs ∧ t1 = cond sw (pcT + 3) t ∧ t2 = cond sw t (pcT + 3) := by
  unfold zbif at h
  split at h
  next ps1 L1 st1 σ1 h1 =>
    split at h
    next q1 sw gs r h2 =>
      split at h
      next t h3 =>
        simp only [Option.some.injEq, Prod.mk.injEq] at h
        obtain ⟨rfl, rfl, rfl, rfl, rfl, rfl, rfl⟩ := h
        exact ⟨ps1, st1, sw, gs, t, h1, h2, h3, rfl, rfl, rfl⟩
      next => cases h
    next => cases h
  next => cases h
theorem zpop_inv (ad : Nat → Nat) : ∀ (n : Nat) (st acc : List zV) {ps : List Prop} {av rest : List zV}, zpop wr n st acc = some (ps, av, rest) → ∃ ar, av = ar ++ acc ∧ ar.length = n ∧ st.map (zc ad) = (ar.map (zc ad)).reverse ++ rest.map (zc ad) ∧ (zokT st → zcj ps → zokT ar) ∧ (zokT st → zokT rest)
  | 0, st, acc, ps, av, rest, h => by
    simp only [zpop, Option.some.injEq, Prod.mk.injEq] at h
    obtain ⟨rfl, rfl, rfl⟩ := h
    exact ⟨[], rfl, rfl, by simp, fun _ _ v hv => by simp at hv, fun h => h⟩
  | n + 1, [], acc, ps, av, rest, h => by cases h
  | n + 1, v :: r, acc, ps, av, rest, h => by
    simp only [zpop] at h
    cases hz : zpop wr n r ((znrm wr v).2 :: acc) with
    | none => rw [hz] at h; cases h
    | some u =>
      obtain ⟨ps1, a1, s1⟩ := u
      rw [hz] at h
      simp only [Option.some.injEq, Prod.mk.injEq] at h
      obtain ⟨rfl, rfl, rfl⟩ := h
      obtain ⟨ar, h1, h2, h3, h4, h5⟩ := zpop_inv ad n r _ hz
      refine ⟨ar ++ [(znrm wr v).2], by rw [h1]; simp, by simp [h2], ?_, fun g1 g2 w hw => ?_, fun g => h5 (zokT_tl g)⟩
      · simp only [List.map_cons, h3, List.map_append, List.reverse_append, List.map_nil, List.reverse_cons, List.reverse_nil, List.nil_append, List.singleton_append, List.cons_append, znrm_c]
      · obtain ⟨g3, g4⟩ := zcj_append g2
        rcases List.mem_append.mp hw with hw | hw
        · exact h4 (zokT_tl g1) g4 w hw
        · rw [List.mem_singleton.mp hw]
          exact znrm_ok (zokT_hd g1) g3
theorem zbc_inv {blk : List (Instr × Nat)} {n : Nat} {av : List zV} (h : zbc Λ E wr blk n L st σ = some (ps, av, L2, st2, σ2)) : ∃ ps1 qs st1, zxs Λ E wr blk L st σ = some (ps1, L2, st1, σ2) ∧ zpop wr n st1 [] = some (qs, av, st2) ∧ ps = ps1 ++ qs := by
  unfold zbc at h
  split at h
  next ps1 L1 st1 σ1 h1 =>
    split at h
    next qs a r h2 =>
      simp only [Option.some.injEq, Prod.mk.injEq] at h
      obtain ⟨rfl, rfl, rfl, rfl, rfl⟩ := h
      exact ⟨ps1, qs, st1, h1, h2, rfl⟩
    next => cases h
  next => cases h
theorem zfree {H : Heap} {locs : List Loc} (hD : va_D A (zW cA ad σ 0 Λ)) (hS : va_S A s.heap H locs) (hA : ∀ q : Nat, s.heap.size ≤ q → A q) : ∀ q, zAd ad Λ H.size q → A q := by
  rintro q (⟨k, hk, rfl⟩ | h)
  · have : ∃ e, zo Λ k = some e := by rw [zo_get]; exact ⟨_, List.getElem?_eq_getElem hk⟩
    obtain ⟨e, he⟩ := this
    exact hD.2 k (ad k, zEc cA ad σ e) (by rw [zW_get, he]; simp)
  · exact hA q (Nat.le_trans hS.1 h)
/-- behind a call of this layer -/
theorem zs_back {H : Heap} {locs : List Loc} {ls : Array Slot} {st0 rest : List Value} {a : Array Value} {rs : List zV} {r : Option zV} {free : Addr → Prop} (hA : ∀ q : Nat, s.heap.size ≤ q → A q) (hP : va_P D vwCl (zW cA ad σ 0 Λ) H) (hD : va_D A (zW cA ad σ 0 Λ)) (hS : va_S A s.heap H locs) (hl : lv_has ls nL (zA ad 0 L)) (q2 : zokL L) (q3 : zokT rs)
    (hrest : rest = rs.map (zc ad)) (hfree : ∀ q, free q → A q)
    (hr : va_Run p l e R s m args below meth c H locs 0 0 0 0 (F0 m pc ls st0) rest (zQ D cA ad (zAd ad Λ H.size) Λ shp r σ2 a) free)
    (k : zS p l e R s m args below meth c Q D cA ad A Λ shp nL (pc + 3) L (r.toList ++ rs) σ2) : W p l e R s m args below meth c H locs 0 0 Q (F0 m pc ls st0) := by
  intro T hT X
  obtain ⟨v, st₀, t, T', L', h0, X', hL, e1, e2, ⟨hv, ok2, okr, hP2, hK2, hD2, hz, hk⟩, st⟩ := hr T hT X
  cases hv
  rw [h0] at hz hk
  have hF := zfree hD hS hA
  have hD3 : va_D A (zW cA ad σ2 0 Λ) := hD2.weaken (fun _ q _ h => hF q.1 h)
  have hS3 : va_S A s.heap T'.heap (locs ++ L') := by
    refine ⟨Nat.le_trans hS.1 (by rw [e1]; exact hz), fun q h1 h2 => ?_, fun q hq => ?_⟩
    · rw [e1, hk q (Nat.lt_of_lt_of_le h1 hS.1) (fun z => h2 (hF q z))]
      exact hS.2.1 q h1 h2
    · rcases List.mem_append.mp hq with h | h
      · exact hS.2.2 q h
      · exact hfree _ (hL q h)
  have hst3 : zokT (r.toList ++ rs) := fun w hw => by
    rcases List.mem_append.mp hw with h | h
    · cases r with
      | none => simp at h
      | some u =>
        have : w = u := by simpa using h
        rw [this]
        exact okr u rfl
    · exact q3 w h
  have hh : (r.map (zc ad)).toList ++ rest = (r.toList ++ rs).map (zc ad) := by
    rw [hrest]
    cases r <;> simp
  obtain ⟨t2, a1, b1⟩ := k ok2 q2 hst3 T'.heap (locs ++ L') ls (by rw [e1]; exact hP2) hD3 hS3 hl T' rfl X'
  refine ⟨t2, st t2 ?_, b1⟩
  show Steps p.tables e below (T'.setTop (F0 m (pc + 3) ls ((r.map (zc ad)).toList ++ rest))) t2
  rw [hh]
  exact a1
theorem zs_callV (C0 : zC p R s m args c D cA A Λ shp cc own nL Ts E) {idx : Nat} (hd : decode cc pc = .ok (.invokevirtual idx, 3)) {v : zV} {av rest : List zV} {y : MethodName} {ws : List Cond} {rm : Room} {r : Option zV} {n : Nat} (hpop : zpop wr (n + 1) st [] = some (ps, v :: av, rest)) (hp : zcj ps) (hct : Nat.ble (zct rest) 8 = true) (hM : zD l y ws rm Λ shp (v :: av) σ r σ2) (hcw : zCw true Ts own R idx y ws rm n) (hrc : zrcv Λ y.cls v)
    (k : zS p l e R s m args below meth c Q D cA ad A Λ shp nL (pc + 3) L (r.toList ++ rest) σ2) : zS p l e R s m args below meth c Q D cA ad A Λ shp nL pc L st σ := by
  obtain ⟨hex, hb, hml, hown, hts, hK, hA, hΛ, hE, -⟩ := C0
  intro q1 q2 q3 H locs ls hP hD hS hl
  obtain ⟨ar, h1, h2, h3, h4, h5⟩ := zpop_inv ad _ _ _ hpop
  rw [List.append_nil] at h1
  subst h1
  have hok := h4 q3 hp
  obtain ⟨bytes, maxL, ret, ws2, w1, w2, w3, w4, w5, w6⟩ := hcw
  obtain ⟨hv1, o, T, N, hv2, hv3⟩ := hrc
  obtain ⟨tv, xv⟩ := v
  have hv1 : tv = 2 := hv1
  subst hv1
  have he : (zW cA ad σ 0 Λ)[xv.toNat]? = some (ad xv.toNat, .inr (o.1, o.2.map (zF ad σ))) := by
    rw [zW_get, hv2]
    simp [zEc]
  have hlen : (av.map (zc ad)).length = n := by
    have : av.length + 1 = n + 1 := h2
    simp only [List.length_map]
    omega
  have e3 : st.map (zc ad) = (av.map (zc ad)).reverse ++ .ref (ad xv.toNat) :: rest.map (zc ad) := by
    rw [h3]
    simp only [List.map_cons, List.reverse_cons, List.append_assoc, List.singleton_append]
    rfl
  rw [e3]
  have hrun := va_runV (As := av.map (zc ad)) (rest := rest.map (zc ad)) (C := y.cls) (b := ad xv.toNat) (own := own) (H := H) (locs := locs) (cells := 0) (slots := 0) (p := p) (l := l) (e := e) (R := R) (below := below) (meth := meth) (index := idx) (g := F0 m pc ls ((av.map (zc ad)).reverse ++ .ref (ad xv.toNat) :: rest.map (zc ad)))
    (show CallFix p m c cc nL s args Ts own from ⟨hex, hb, hml, hown, hts⟩) (hM D cA ad H.size) (cwV n hts w6 w1 w2 w3 ⟨rfl, w4⟩ w5)
    ⟨fun a U g mk q => by
        obtain ⟨a1, a2, a3, a4, a5, a6, a7⟩ := q
        exact ⟨a1, a2, a3, a4, a5, va_K.moved (u := U) (U := U.calling g mk a) (Vm.Alike.refl U.vm) a6, a7⟩, va_recv hK hP hv3 he, fun U hU hW => ⟨by simp [zc], q1, hok, by rw [hU], by rw [hU]; exact hP, va_K.moved hW.alike hK, hD.weaken (fun _ _ _ _ => trivial)⟩⟩
    rfl hlen hl.1 rfl (lv_room (by rw [zcts]; exact Nat.le_of_ble_eq_true hct)) hd ⟨Nat.zero_le _, Nat.zero_le _⟩
  exact zs_back hA hP hD hS hl q2 (h5 q3) rfl (zfree hD hS hA) hrun k
theorem zs_callS (C0 : zC p R s m args c D cA A Λ shp cc own nL Ts E) {idx : Nat} (hd : decode cc pc = .ok (.invokestatic idx, 3)) {av rest : List zV} {y : MethodName} {ws : List Cond} {rm : Room} {r : Option zV} {n : Nat} (hpop : zpop wr n st [] = some (ps, av, rest)) (hp : zcj ps) (hct : Nat.ble (zct rest) 8 = true) (hM : zD l y ws rm Λ shp av σ r σ2) (hcw : zCw false Ts own R idx y ws rm n)
    (k : zS p l e R s m args below meth c Q D cA ad A Λ shp nL (pc + 3) L (r.toList ++ rest) σ2) : zS p l e R s m args below meth c Q D cA ad A Λ shp nL pc L st σ := by
  obtain ⟨hex, hb, hml, hown, hts, hK, hA, hΛ, hE, -⟩ := C0
  intro q1 q2 q3 H locs ls hP hD hS hl
  obtain ⟨ar, h1, h2, h3, h4, h5⟩ := zpop_inv ad _ _ _ hpop
  rw [List.append_nil] at h1
  subst h1
  have hok := h4 q3 hp
  obtain ⟨bytes, maxL, ret, ws2, w1, w2, w3, w4, w5, w6⟩ := hcw
  have hlen : (av.map (zc ad)).length = n := by rw [List.length_map]; exact h2
  rw [h3]
  have hrun := va_runS (As := av.map (zc ad)) (rest := rest.map (zc ad)) (own := own) (H := H) (locs := locs) (cells := 0) (slots := 0) (p := p) (l := l) (e := e) (R := R) (below := below) (meth := meth) (index := idx) (g := F0 m pc ls ((av.map (zc ad)).reverse ++ rest.map (zc ad)))
    (show CallFix p m c cc nL s args Ts own from ⟨hex, hb, hml, hown, hts⟩) (hM D cA ad H.size) (va_cwS n hts w6 w1 w2 w3 w4 w5)
    ⟨fun a U g mk q => by
        obtain ⟨a1, a2, a3, a4, a5, a6, a7⟩ := q
        exact ⟨a1, a2, a3, a4, a5, va_K.moved (u := U) (U := U.calling g mk a) (Vm.Alike.refl U.vm) a6, a7⟩, fun U hU hW => ⟨rfl, q1, hok, by rw [hU], by rw [hU]; exact hP, va_K.moved hW.alike hK, hD.weaken (fun _ _ _ _ => trivial)⟩⟩
    rfl hlen hl.1 rfl (lv_room (by rw [zcts]; exact Nat.le_of_ble_eq_true hct)) hd ⟨Nat.zero_le _, Nat.zero_le _⟩
  exact zs_back hA hP hD hS hl q2 (h5 q3) rfl (zfree hD hS hA) hrun k
end ZR
theorem zpad_get : ∀ (n : Nat) (L : zL) (i : Nat) (v : zV), zg none (zpad n L) i = some v → zg none L i = some v
  | 0, L, i, v, h => by cases h
  | n + 1, [], 0, v, h => by cases h
  | n + 1, [], i + 1, v, h => by
    have := zpad_get n [] i v h
    cases this
  | n + 1, o :: L, 0, v, h => h
  | n + 1, o :: L, i + 1, v, h => zpad_get n L i v h
theorem zenl_sub (ad : Nat → Nat) : ∀ (av : List zV) (k : Nat), ∀ q ∈ zA ad k (zenl av), q ∈ lv_args k (av.map (zc ad))
  | [], k, q, hq => by simp [zenl, zA] at hq
  | v :: r, k, q, hq => by
    simp only [zenl, zA, List.mem_cons] at hq
    simp only [List.map_cons, lv_args, zcat, List.mem_cons]
    rcases hq with h | h
    · exact Or.inl h
    · refine Or.inr ?_
      cases hc : zc1 v.1 with
      | true =>
        rw [hc] at h
        simp only [cond_true] at h ⊢
        exact zenl_sub ad r (k + 1) q h
      | false =>
        rw [hc] at h
        simp only [cond_false, zA] at h ⊢
        exact zenl_sub ad r (k + 1 + 1) q h
theorem zen_sub (ad : Nat → Nat) (av : List zV) (n k : Nat) (q : Nat × Value) (hq : q ∈ zA ad k (zen n av)) : q ∈ lv_args k (av.map (zc ad)) := by
  obtain ⟨i, v, rfl, hz⟩ := (zA_mem ad _ k q).mp hq
  exact zenl_sub ad av k _ ((zA_mem ad _ k _).mpr ⟨i, v, rfl, zpad_get n _ i v hz⟩)
theorem zmask_get : ∀ (b : List Bool) (L : zL) (i : Nat) (v : zV), zg none (zmask b L) i = some v → zg none L i = some v
  | [], L, i, v, h => h
  | true :: b, o :: L, 0, v, h => h
  | true :: b, o :: L, i + 1, v, h => zmask_get b L i v h
  | false :: b, o :: L, 0, v, h => by cases h
  | false :: b, o :: L, i + 1, v, h => zmask_get b L i v h
  | true :: b, [], i, v, h => by cases i <;> cases h
  | false :: b, [], i, v, h => by cases i <;> cases h
theorem zBok_at {cc : ByteArray} {nL : Nat} {B : zB} (h : zBok cc nL B = true) {j pc pcT n : Nat} {blk : List (Instr × Nat)} {i : Instr} (hj : zo B j = some (pc, blk, pcT, i, n)) : zdk cc nL pc blk pcT = true ∧ (Nat.beq n 0 = false → decode cc pcT = .ok (i, n)) := by
  rw [zo_get] at hj
  have h1 := List.all_eq_true.mp h _ (List.mem_of_getElem? hj)
  simp only [Bool.and_eq_true, Bool.or_eq_true, decide_eq_true_eq, beq_iff_eq] at h1
  refine ⟨h1.1, fun h2 => ?_⟩
  rcases h1.2 with h3 | h3
  · subst h3; cases h2
  · exact h3
end
section
theorem zenl_ok : ∀ (av : List zV), zokT av → zokL (zenl av)
  | [], _ => fun i v h => by cases h
  | v :: r, hk => fun i w h => by
    cases i with
    | zero =>
      have : v = w := by simpa [zenl, zg] using h
      rw [← this]
      exact zokT_hd hk
    | succ i =>
      simp only [zenl, zg] at h
      cases hc : zc1 v.1 with
      | true =>
        rw [hc] at h
        exact zenl_ok r (zokT_tl hk) i w h
      | false =>
        rw [hc] at h
        cases i with
        | zero => simp [zg] at h
        | succ i => exact zenl_ok r (zokT_tl hk) i w h
theorem zen_ok (av : List zV) (n : Nat) (h : zokT av) : zokL (zen n av) := fun i v hz => zenl_ok av h i v (zpad_get n _ i v hz)
theorem zsl_len (ad : Nat → Nat) (av : List zV) : (lg_sl (av.map (zc ad))).length = zct av := by
  induction av with
  | nil => rfl
  | cons v r ih =>
    have e : lg_sl ((v :: r).map (zc ad)) = (if (zc ad v).category = 2 then [.val (zc ad v), .second] else [.val (zc ad v)]) ++ lg_sl (r.map (zc ad)) := rfl
    rw [e, List.length_append, ih, zcat]
    cases hc : zc1 v.1 <;> simp [zct, hc]
set_option maxHeartbeats 4000000 in
theorem zD_of {l : Launch} {y : MethodName} {ws ws2 : List Cond} {rm : Room} {Λ : List zE} {shp : List (Nat × Nat)} {cc : ByteArray} {nL : Nat} {ret : Option FieldType} {B : zB} {E : zEnv} {av : List zV} {σ σ0 : zT} {r0 : Option zV}
    (hy : plainName y.cls = true) (hw : ws = Cond.code y cc nL ret :: ws2) (hΛ : zLok Λ shp) (hE : zEok ws y.cls E) (hB : zBok cc nL B = true) (hm : E.2.2.2 = [] ∨ (1 ≤ rm.frames ∧ 21 ≤ rm.locals)) (hav : Nat.ble (zct av) nL = true)
    (main : ∀ S, zR l B Λ shp E ws y.cls rm ret r0 σ0 S → S 0 (zen nL av) [] σ) : zD l y ws rm Λ shp av σ r0 σ0 := by
  intro D cA ad sz
  refine Met.ofW (cc := cc) (maxL := nL) (ret := ret) hy hw ?_
  intro p e s m args below meth c s₁ Bd hml hv
  obtain ⟨rfl, ok, okav, hsz, hP, hK, hD0⟩ := hv
  have hx := Bd.exec
  have hb := Bd.bytes
  have hr := Bd.returns
  have hts := atoms_spec (ws := ws) Bd.pre
  have hown : s.vm.findClass y.cls = some m.cls := findClass_of_methodNamed Bd.named
  have hlocks := Bd.notSynchronized
  subst hsz
  have hD : va_D (zAd ad Λ s.heap.size) (zW cA ad σ 0 Λ) := hD0.weaken (fun k q hk _ => by
    rw [zW_get] at hk
    cases hz : zo Λ k with
    | none => rw [hz] at hk; cases hk
    | some u =>
      rw [hz] at hk
      have : q = (ad (0 + k), zEc cA ad σ u) := (Option.some.inj hk).symm
      rw [this]
      exact Or.inl ⟨k, zo_lt hz, by simp⟩)
  have hA : ∀ q : Nat, s.heap.size ≤ q → zAd ad Λ s.heap.size q := fun q h => Or.inr h
  have C0 : zC p (headSpec ws rm).room s m (av.map (zc ad)).toArray c D cA (zAd ad Λ s.heap.size) Λ shp cc y.cls nL ws E := ⟨hx, hb, hml, hown, hts, hK, hA, hΛ, hE, hm⟩
  have hl := lv_entry (av.map (zc ad)) (n := nL) (by rw [zsl_len]; exact Nat.le_of_ble_eq_true hav)
  rw [lg_entry_eq]
  refine main (zS p l e (headSpec ws rm).room s m (av.map (zc ad)).toArray below meth c (MQ below (zQ D cA ad (zAd ad Λ s.heap.size) Λ shp r0 σ0) (av.map (zc ad)).toArray s 0 0 (zAd ad Λ s.heap.size)) D cA ad (zAd ad Λ s.heap.size) Λ shp nL) ?_ ok (zen_ok av nL okav) (fun v hv => by simp at hv) s.heap [] _ hP hD va_S.rf ⟨hl.1, hl.2.1, fun q hq => hl.2.2 q (zen_sub ad av nL 0 q hq)⟩
  have fin : ∀ (r : Option zV) (H : Heap) (locs : List Loc), zok shp σ0 → (∀ v, r = some v → zokV v) → va_P D vwCl (zW cA ad σ0 0 Λ) H → va_D (zAd ad Λ s.heap.size) (zW cA ad σ0 0 Λ) → va_S (zAd ad Λ s.heap.size) s.heap H locs → ∀ t : State, t.heap = H → s.WarmedH t.vm → zQ D cA ad (zAd ad Λ s.heap.size) Λ shp r σ0 (av.map (zc ad)).toArray s (.returned (r.map (zc ad))) t := by
    intro r H locs g1 g2 hP hD hS t ht hW
    exact ⟨rfl, g1, g2, by rw [ht]; exact hP, va_K.moved hW.alike hK, hD, hS.F ht⟩
  refine ⟨?_, ?_, ?_, ?_, ?_, ?_, ?_, ?_, ?_, ?_, ?_⟩
  · intro wr j pc blk pcT i n L st σ ps L2 st2 σ2 hj hz hp k
    exact zxs_ok C0 blk (zBok_at hB hj).1 hz hp k
  · intro wr j pc blk pcT o t L st σ ps L2 st2 σ2 hj hz ht hp k
    refine zxs_ok C0 blk (zBok_at hB hj).1 hz hp ?_
    intro q1 q2 q3 H locs ls hP hD hS hl
    exact lv_goto hx hb ((zBok_at hB hj).2 rfl) (zto_eq ht) (k q1 q2 q3 H locs ls hP hD hS hl)
  · intro wr j pc blk pcT i t1 t2 q L st σ ps L2 st2 σ2 hj hz hp k1 k2
    obtain ⟨ps1, st1, sw, gs, t, h1, h2, h3, rfl, rfl, rfl⟩ := zbif_inv hz
    obtain ⟨g1, g2⟩ := zcj_append hp
    exact zxs_ok C0 blk (zBok_at hB hj).1 h1 g1 (zs_br C0 ((zBok_at hB hj).2 rfl) h2 h3 g2 k1 k2)
  · intro wr j n pc blk pcT idx L st σ ps v av L2 rest σ2 y2 ws2 rm2 r σ3 hj hz hp hct hM hcw hrc k
    obtain ⟨ps1, qs, st1, h1, h2, rfl⟩ := zbc_inv hz
    obtain ⟨g1, g2⟩ := zcj_append hp
    exact zxs_ok C0 blk (zBok_at hB hj).1 h1 g1 (zs_callV C0 ((zBok_at hB hj).2 rfl) h2 g2 hct hM hcw hrc k)
  · intro wr j n pc blk pcT idx L st σ ps av L2 rest σ2 y2 ws2 rm2 r σ3 hj hz hp hct hM hcw k
    obtain ⟨ps1, qs, st1, h1, h2, rfl⟩ := zbc_inv hz
    obtain ⟨g1, g2⟩ := zcj_append hp
    exact zxs_ok C0 blk (zBok_at hB hj).1 h1 g1 (zs_callS C0 ((zBok_at hB hj).2 rfl) h2 g2 hct hM hcw k)
  · intro wr j pc blk pcT L st σ ps L2 hret hr0 hj hz hp
    refine zxs_ok C0 blk (zBok_at hB hj).1 hz hp ?_
    intro q1 q2 q3 H locs ls hP hD hS hl
    subst hr0
    exact W.vret hx hb (hr.trans hret) (fin none H locs q1 (fun v h => by cases h) hP hD hS) hS.2.2 ((zBok_at hB hj).2 rfl) hlocks
  · intro wr j pc blk pcT L st σ ps L2 v w qs hret hj hz hv hnm hr0 hp
    obtain ⟨g1, g2⟩ := zcj_append hp
    refine zxs_ok C0 blk (zBok_at hB hj).1 hz g1 ?_
    intro q1 q2 q3 H locs ls hP hD hS hl
    subst hr0
    have hw1 : qs = (znrm wr v).1 := by rw [hnm]
    have hw2 : w = (znrm wr v).2 := by rw [hnm]
    subst hw1
    subst hw2
    have h1 := znrm_ok (zokT_hd q3) g2
    have e1 : zc ad (znrm wr v).2 = .int (Int32.ofInt v.2) := by rw [znrm_c]; exact zc_i hv ad v.2
    have h2 := fin (some (znrm wr v).2) H locs q1 (fun w h => by cases h; exact h1) hP hD hS
    simp only [Option.map_some, e1] at h2
    have e2 : [v].map (zc ad) = [.int (Int32.ofInt v.2)] := by rw [← e1, znrm_c]; rfl
    rw [e2]
    exact W.iret hx hb (hr.trans hret) h2 hS.2.2 ((zBok_at hB hj).2 rfl) hlocks
  · intro wr j pc blk pcT L st σ ps L2 x hret hj hz hr0 hp hbit
    refine zxs_ok C0 blk (zBok_at hB hj).1 hz hp ?_
    intro q1 q2 q3 H locs ls hP hD hS hl
    subst hr0
    have h2 := fin (some (0, x)) H locs q1 (fun w h => by cases h; exact zokT_hd q3) hP hD hS
    refine W.zret (v := Int32.ofInt x) hx hb (hr.trans hret) ?_ h2 hS.2.2 ((zBok_at hB hj).2 rfl) hlocks
    rcases hbit with rfl | rfl <;> rfl
  · intro wr j pc blk pcT L st σ ps L2 v w qs hret hj hz hv hnm hr0 hp
    obtain ⟨g1, g2⟩ := zcj_append hp
    refine zxs_ok C0 blk (zBok_at hB hj).1 hz g1 ?_
    intro q1 q2 q3 H locs ls hP hD hS hl
    subst hr0
    have hw1 : qs = (znrm wr v).1 := by rw [hnm]
    have hw2 : w = (znrm wr v).2 := by rw [hnm]
    subst hw1
    subst hw2
    have h1 := znrm_ok (zokT_hd q3) g2
    have e1 : zc ad (znrm wr v).2 = .long (Int64.ofInt v.2) := by rw [znrm_c]; exact zc_l hv ad v.2
    have h2 := fin (some (znrm wr v).2) H locs q1 (fun w h => by cases h; exact h1) hP hD hS
    simp only [Option.map_some, e1] at h2
    have e2 : [v].map (zc ad) = [.long (Int64.ofInt v.2)] := by rw [← e1, znrm_c]; rfl
    rw [e2]
    exact W.lret hx hb (hr.trans hret) h2 hS.2.2 ((zBok_at hB hj).2 rfl) hlocks
  · intro wr j pc blk pcT n dd lo hi offs L st σ ps L2 v rest σ2 hj hn hz hv hp hsz kin kout
    obtain ⟨g1, g2⟩ := zcj_append hp
    refine zxs_ok C0 blk (zBok_at hB hj).1 hz g1 ?_
    intro q1 q2 q3 H locs ls hP hD hS hl
    obtain ⟨tv, x⟩ := v
    have o1 := zr_ok hv (zokT_hd q3) g2
    have q4 := zokT_tl q3
    have hdg := (zBok_at hB hj).2 hn
    simp only [List.map_cons, zc_i hv]
    have e1 := zti o1
    by_cases ho : x < lo ∨ hi < x
    · obtain ⟨t, ht, k⟩ := kout ho
      exact lv_tableOut hx hb hdg (by rw [e1]; exact ho) (zto_eq ht) (k q1 q2 q4 H locs ls hP hD hS hl)
    · have hlt : (x - lo).toNat < offs.size := by omega
      obtain ⟨t, ht, k⟩ := kin (x - lo).toNat _ (Array.getElem?_eq_getElem hlt) (by show x = _; omega)
      exact lv_tableIn hx hb hdg (by rw [e1]; omega) (by rw [e1]; omega) (by rw [e1]; exact Array.getElem?_eq_getElem hlt) (zto_eq ht) (k q1 q2 q4 H locs ls hP hD hS hl)
  · intro b pc L st σ L2 hm k
    subst hm
    intro q1 q2 q3 H locs ls hP hD hS hl
    refine k q1 (fun i v h => q2 i v (zmask_get b L i v h)) q3 H locs ls hP hD hS ⟨hl.1, hl.2.1, fun q hq => hl.2.2 q ?_⟩
    obtain ⟨i, v, rfl, hi⟩ := (zA_mem ad _ 0 q).mp hq
    exact (zA_mem ad L 0 _).mpr ⟨i, v, rfl, zmask_get b L i v hi⟩
def zN : Nat := 1000000
theorem zgd {P : Prop} {i : Decidable P} {α : Type} {t : Option α} {o : α} (h : @ite (Option α) P i t none = some o) : P ∧ t = some o := by
  by_cases hp : P
  · exact ⟨hp, by rw [if_pos hp] at h; exact h⟩
  · rw [if_neg hp] at h
    cases h
theorem zif1 {P : Prop} {i : Decidable P} {α : Type} {t u : Option α} {o : α} (hp : P) (h : @ite (Option α) P i t u = some o) : t = some o := by
  rw [if_pos hp] at h
  exact h
theorem zif2 {P : Prop} {i : Decidable P} {α : Type} {t u : Option α} {o : α} (hp : ¬ P) (h : @ite (Option α) P i t u = some o) : u = some o := by
  rw [if_neg hp] at h
  exact h
theorem zbd {α β : Type} {t : Option α} {k : α → Option β} {o : β} (h : t.bind k = some o) : ∃ x, t = some x ∧ k x = some o := by
  cases t with
  | none => cases h
  | some x => exact ⟨x, rfl, h⟩
theorem zlk_all {α : Type} {P : Nat → α → Prop} {l : List (Nat × α)} (h : ∀ p ∈ l, P p.1 p.2) {q : Nat} {v : α} (hq : zlk l q = some v) : P q v := by
  induction l with
  | nil => cases hq
  | cons a r ih =>
    simp only [zlk] at hq
    cases hb : Nat.beq a.1 q with
    | true =>
      rw [hb] at hq
      have := Option.some.inj hq
      rw [← this, ← Nat.eq_of_beq_eq_true hb]
      exact h a List.mem_cons_self
    | false =>
      rw [hb] at hq
      exact ih (fun p hp => h p (List.mem_cons_of_mem _ hp)) hq
theorem zFl_mono {c0 : Cond} {own : String} {q : Nat} {f : Nat × Nat × Nat} (h : zFl uU own q f) : zFl (c0 :: uU) own q f := by
  obtain ⟨C, T, N, ty, h1, h2, h3, h4, h5⟩ := h
  exact ⟨C, T, N, ty, h1, h2, fun w hw => List.mem_cons_of_mem _ (h3 w hw), List.mem_cons_of_mem _ h4, h5⟩
/-- the tables of a class, its words all in uU -/
theorem zEok_of {own : String} {E : zEnv} (h1 : ∀ p ∈ E.1, zFl uU own p.1 p.2) (h2 : ∀ p ∈ E.2.1, zI p.2 ∧ Cond.constant own p.1 (Int32.ofInt p.2) ∈ uU) (h3 : ∀ p ∈ E.2.2.1, zJ p.2 ∧ Cond.constantLong own p.1 (Int64.ofInt p.2) ∈ uU)
    (h4 : ∀ p ∈ E.2.2.2, Cond.initialized "java/lang/Math" ∈ uU ∧ (p.2 = true → Cond.methodLink own p.1 Lib.Math.max.name ∈ uU ∧ Cond.static Lib.Math.max.name ∈ uU ∧ Cond.code Lib.Math.max.name Lib.Math.max.code 2 (some .int) ∈ uU) ∧ (p.2 = false → Cond.methodLink own p.1 Lib.Math.min.name ∈ uU ∧ Cond.static Lib.Math.min.name ∈ uU ∧ Cond.code Lib.Math.min.name Lib.Math.min.code 2 (some .int) ∈ uU)) (c0 : Cond) : zEok (c0 :: uU) own E :=
  ⟨fun q f h => zFl_mono (zlk_all (P := fun q f => zFl uU own q f) h1 h), fun q v h => by
    have := zlk_all (P := fun q v => zI v ∧ Cond.constant own q (Int32.ofInt v) ∈ uU) h2 h
    exact ⟨this.1, List.mem_cons_of_mem _ this.2⟩, fun q v h => by
    have := zlk_all (P := fun q v => zJ v ∧ Cond.constantLong own q (Int64.ofInt v) ∈ uU) h3 h
    exact ⟨this.1, List.mem_cons_of_mem _ this.2⟩, fun q b h => by
    have := zlk_all (P := fun q b => Cond.initialized "java/lang/Math" ∈ uU ∧ (b = true → Cond.methodLink own q Lib.Math.max.name ∈ uU ∧ Cond.static Lib.Math.max.name ∈ uU ∧ Cond.code Lib.Math.max.name Lib.Math.max.code 2 (some .int) ∈ uU) ∧ (b = false → Cond.methodLink own q Lib.Math.min.name ∈ uU ∧ Cond.static Lib.Math.min.name ∈ uU ∧ Cond.code Lib.Math.min.name Lib.Math.min.code 2 (some .int) ∈ uU)) h4 h
    exact ⟨List.mem_cons_of_mem _ this.1, fun hb => ⟨List.mem_cons_of_mem _ (this.2.1 hb).1, List.mem_cons_of_mem _ (this.2.1 hb).2.1, List.mem_cons_of_mem _ (this.2.1 hb).2.2⟩, fun hb => ⟨List.mem_cons_of_mem _ (this.2.2 hb).1, List.mem_cons_of_mem _ (this.2.2 hb).2.1, List.mem_cons_of_mem _ (this.2.2 hb).2.2⟩⟩⟩
def zLb1 (Λ : List zE) (shp : List (Nat × Nat)) (k : Nat) : Bool := match zo Λ k with
  | some (.inl a) => Nat.blt a.1 shp.length && (Nat.blt a.2.1 (zg (0, 0) shp a.1).2 && Nat.blt a.2.2 2147483648)
  | some (.inr o) => (List.range o.2.length).all (fun j => match zo o.2 j with
    | some (.inr mj) => Nat.blt mj.1 shp.length && Nat.blt mj.2 (zg (0, 0) shp mj.1).1
    | some (.inl k) => Nat.blt k Λ.length
    | none => true)
  | none => true
def zLb2 (Λ : List zE) (k k2 : Nat) : Bool := match zo Λ k, zo Λ k2 with
  | some (.inl a), some (.inl b) => Nat.beq k k2 || !(Nat.beq a.1 b.1 && Nat.beq a.2.1 b.2.1)
  | some (.inr o), some (.inr u) => (List.range o.2.length).all (fun j => (List.range u.2.length).all (fun j2 => match zo o.2 j, zo u.2 j2 with
    | some (.inr x), some (.inr y) => (Nat.beq k k2 && Nat.beq j j2) || !(Nat.beq x.1 y.1 && Nat.beq x.2 y.2)
    | _, _ => true))
  | _, _ => true
def zLokb (Λ : List zE) (shp : List (Nat × Nat)) : Bool := (List.range Λ.length).all (zLb1 Λ shp) && (List.range Λ.length).all (fun k => (List.range Λ.length).all (zLb2 Λ k))
theorem zLok_of {Λ : List zE} {shp : List (Nat × Nat)} (h : zLokb Λ shp = true) : zLok Λ shp := by
  simp only [zLokb, Bool.and_eq_true] at h
  obtain ⟨h1, h2⟩ := h
  refine ⟨fun k hk => ?_, fun k hk k2 hk2 => ?_⟩
  · have h3 := List.all_eq_true.mp h1 k (List.mem_range.mpr hk)
    unfold zLb1 at h3
    cases hz : zo Λ k with
    | none => trivial
    | some e =>
      rw [hz] at h3
      cases e with
      | inl a =>
        simp only [Bool.and_eq_true, Nat.blt_eq] at h3
        exact ⟨h3.1, h3.2.1, h3.2.2⟩
      | inr o =>
        simp only at h3 ⊢
        intro j hj
        have h4 := List.all_eq_true.mp h3 j (List.mem_range.mpr hj)
        cases hy : zo o.2 j with
        | none => trivial
        | some f =>
          rw [hy] at h4
          cases f with
          | inl k => simpa [Nat.blt_eq] using h4
          | inr mj =>
            simp only [Bool.and_eq_true, Nat.blt_eq] at h4
            exact h4
  · have h3 := List.all_eq_true.mp (List.all_eq_true.mp h2 k (List.mem_range.mpr hk)) k2 (List.mem_range.mpr hk2)
    unfold zLb2 at h3
    cases hz : zo Λ k with
    | none => trivial
    | some e =>
      cases hz2 : zo Λ k2 with
      | none => cases e <;> trivial
      | some e2 =>
        rw [hz, hz2] at h3
        cases e with
        | inl a =>
          cases e2 with
          | inr u => trivial
          | inl b =>
            simp only [Bool.or_eq_true, Bool.not_eq_true', Bool.and_eq_false_iff] at h3
            simp only
            rcases h3 with h3 | h3 | h3
            · exact Or.inl (Nat.eq_of_beq_eq_true h3)
            · exact Or.inr (fun q => by rw [q.1, Nat.beq_refl] at h3; cases h3)
            · exact Or.inr (fun q => by rw [q.2, Nat.beq_refl] at h3; cases h3)
        | inr o =>
          cases e2 with
          | inl b => trivial
          | inr u =>
            simp only at h3 ⊢
            intro j hj j2 hj2
            have h4 := List.all_eq_true.mp (List.all_eq_true.mp h3 j (List.mem_range.mpr hj)) j2 (List.mem_range.mpr hj2)
            cases hy : zo o.2 j with
            | none => trivial
            | some f =>
              cases hy2 : zo u.2 j2 with
              | none => cases f <;> trivial
              | some f2 =>
                rw [hy, hy2] at h4
                cases f with
                | inl k => cases f2 <;> trivial
                | inr x =>
                  cases f2 with
                  | inl k => trivial
                  | inr y =>
                    simp only [Bool.or_eq_true, Bool.and_eq_true, Bool.not_eq_true', Bool.and_eq_false_iff] at h4
                    simp only
                    rcases h4 with h4 | h4 | h4
                    · exact Or.inl ⟨Nat.eq_of_beq_eq_true h4.1, Nat.eq_of_beq_eq_true h4.2⟩
                    · exact Or.inr (fun q => by rw [q.1, Nat.beq_refl] at h4; cases h4)
                    · exact Or.inr (fun q => by rw [q.2, Nat.beq_refl] at h4; cases h4)
end
section
def l_X6_trim_7 : Nat → Int → Int → (Nat → Int) → Option (Int)
  | 0, _, _, _ => none
  | n + 1, v1, s0, d0 => if v1 < 40 then (if zin v1 40 then if (d0 (Int.toNat v1)) = 0 then (if zI (v1 + 1) then l_X6_trim_7 n (v1 + 1) s0 d0 else none) else (if zI (v1 + 1) then if zI (v1 + 1) then l_X6_trim_7 n (v1 + 1) (v1 + 1) d0 else none else none) else none) else (some s0)
def f_X6_trim (s0 : Int) (d0 : Nat → Int) : Option (Int) := (l_X6_trim_7 zN 0 0 d0).bind fun x5 => some x5
def l_X6_become_5 : Nat → Int → Int → (Nat → Int) → Option (Nat → Int)
  | 0, _, _, _ => none
  | n + 1, v3, v5, d0 => if v5 < 40 then (if zin v5 40 ∧ zI (zandl v3 1073741823) then if zI (v5 + 1) then l_X6_become_5 n (zushrl v3 30) (v5 + 1) (zu d0 (Int.toNat v5) (zandl v3 1073741823)) else none else none) else (some d0)
def f_X6_become (p1 : Int) (s0 : Int) (d0 : Nat → Int) : Option (Int × (Nat → Int)) := (l_X6_become_5 zN p1 0 d0).bind fun x3 => (f_X6_trim s0 x3).bind fun x4 => some (x4, x3)
def f_X9_within (p0 : Int) (p1 : Int) (p2 : Int) : Option (Int) := if p0 < p1 then (some 0) else (if p2 < p0 then (some 0) else (some 1))
def f_X8_forget (T_priced : Int) (T_settled : Int) : Option (Int × Int) := some (0, 0)
def l_X4_add_34 : Nat → Int → Int → (Nat → Int) → Option (Nat → Int)
  | 0, _, _, _ => none
  | n + 1, v3, L_count, L_forms => if v3 < 8 then (if zin ((L_count * 8) + v3) 64 then if zI (v3 + 1) then l_X4_add_34 n (v3 + 1) L_count (zu L_forms (Int.toNat ((L_count * 8) + v3)) (-1)) else none else none) else (some L_forms)
def f_X4_add (p1 : Int) (p2 : Int) (L_count : Int) (L_copiedStands : Int) (L_from : Nat → Int) (L_to : Nat → Int) (L_forms : Nat → Int) : Option (Int × Int × Int × (Nat → Int) × (Nat → Int) × (Nat → Int)) := if L_count < 8 then (if zin L_count 8 ∧ zin L_count 8 then (l_X4_add_34 zN 0 L_count L_forms).bind fun x4 => if zI (L_count + 1) then if zI ((L_count + 1) - 1) then some (((L_count + 1) - 1), (L_count + 1), 0, (zu L_from (Int.toNat L_count) p1), (zu L_to (Int.toNat L_count) p2), x4) else none else none else none) else (some ((-4), L_count, L_copiedStands, L_from, L_to, L_forms))
def f_X9_letter (p1 : Int) (p2 : Int) (L_count : Int) (L_copiedStands : Int) (L_from : Nat → Int) (L_to : Nat → Int) (L_forms : Nat → Int) (T_priced : Int) (T_settled : Int) : Option (Int × Int × Int × (Nat → Int) × (Nat → Int) × (Nat → Int) × Int × Int) := (f_X9_within p1 0 99).bind fun x1 => if x1 = 0 then (some ((-2), L_count, L_copiedStands, L_from, L_to, L_forms, T_priced, T_settled)) else ((f_X9_within p2 p1 99).bind fun x2 => if x2 = 0 then (some ((-2), L_count, L_copiedStands, L_from, L_to, L_forms, T_priced, T_settled)) else (if L_count < 8 then ((f_X8_forget T_priced T_settled).bind fun x3 => (f_X4_add p1 p2 L_count L_copiedStands L_from L_to L_forms).bind fun x4 => some (x4.1, x4.2.1, x4.2.2.1, x4.2.2.2.1, x4.2.2.2.2.1, x4.2.2.2.2.2, x3.1, x3.2)) else (some ((-4), L_count, L_copiedStands, L_from, L_to, L_forms, T_priced, T_settled))))
def f_X4_has (p1 : Int) (L_count : Int) : Option (Int) := if p1 < 0 then (some 0) else (if p1 < L_count then (some 1) else (some 0))
def f_X4_tellForm (p1 : Int) (p2 : Int) (p3 : Int) (L_copiedStands : Int) (L_forms : Nat → Int) : Option (Int × Int × (Nat → Int)) := if zin ((p1 * 8) + p2) 64 then if zin ((p1 * 8) + p2) 64 then some ((L_forms (Int.toNat ((p1 * 8) + p2))), 0, (zu L_forms (Int.toNat ((p1 * 8) + p2)) p3)) else none else none
def f_X9_form (p1 : Int) (p2 : Int) (p3 : Int) (L_count : Int) (L_copiedStands : Int) (L_forms : Nat → Int) (T_priced : Int) (T_settled : Int) : Option (Int × Int × (Nat → Int) × Int × Int) := (f_X4_has p1 L_count).bind fun x1 => if x1 = 0 then (some ((-10), L_copiedStands, L_forms, T_priced, T_settled)) else ((f_X9_within p2 0 7).bind fun x2 => if x2 = 0 then (some ((-10), L_copiedStands, L_forms, T_priced, T_settled)) else ((f_X9_within p3 (-1) 9).bind fun x3 => if x3 = 0 then (some ((-10), L_copiedStands, L_forms, T_priced, T_settled)) else ((f_X8_forget T_priced T_settled).bind fun x4 => (f_X4_tellForm p1 p2 p3 L_copiedStands L_forms).bind fun x5 => some (x5.1, x5.2.1, x5.2.2, x4.1, x4.2))))
def f_X4_tellCost (p1 : Int) (p2 : Int) (L_copiedStands : Int) (L_costs : Nat → Int) : Option (Int × Int × (Nat → Int)) := if zin p1 5 ∧ zin p1 5 then some ((L_costs (Int.toNat p1)), 0, (zu L_costs (Int.toNat p1) p2)) else none
def f_X9_cost (p1 : Int) (p2 : Int) (L_copiedStands : Int) (L_costs : Nat → Int) (T_priced : Int) (T_settled : Int) : Option (Int × Int × (Nat → Int) × Int × Int) := (f_X9_within p1 0 4).bind fun x1 => if x1 = 0 then (some ((-2), L_copiedStands, L_costs, T_priced, T_settled)) else ((f_X9_within p2 0 9).bind fun x2 => if x2 = 0 then (some ((-2), L_copiedStands, L_costs, T_priced, T_settled)) else ((f_X8_forget T_priced T_settled).bind fun x3 => (f_X4_tellCost p1 p2 L_copiedStands L_costs).bind fun x4 => some (x4.1, x4.2.1, x4.2.2, x3.1, x3.2)))
def f_X4_isOther (p1 : Int) (p2 : Int) (L_count : Int) : Option (Int) := if p2 = p1 then (some 0) else (if p2 < 0 then (some 0) else (if p2 < L_count then (some 1) else (some 0)))
def f_X4_sources (p1 : Int) (p2 : Int) (L_count : Int) : Option (Int) := (f_X4_has p1 L_count).bind fun x1 => if x1 = 0 then (some (-1)) else (if p2 < 0 then (some (-1)) else (if p2 < 532 then (if p2 = 0 then (some 0) else (if (8 : Int) < p2 then (if p2 < 20 then (some (-1)) else (if (zand (p2 - 20) 7) = 0 then (some (-1)) else (if (zshr (p2 - 20) 6) = (zand (zshr (p2 - 20) 3) 7) then (some (-1)) else ((f_X4_isOther p1 (zshr (p2 - 20) 6) L_count).bind fun x2 => if x2 = 0 then (some (-1)) else ((f_X4_isOther p1 (zand (zshr (p2 - 20) 3) 7) L_count).bind fun x3 => if x3 = 0 then (some (-1)) else (some (zor (zshl 1 (zshr (p2 - 20) 6)) (zshl 1 (zand (zshr (p2 - 20) 3) 7))))))))) else (if zI (p2 - 1) then (f_X4_isOther p1 (p2 - 1) L_count).bind fun x4 => if x4 = 0 then (some (-1)) else (some (zshl 1 (p2 - 1))) else none))) else (some (-1))))
def f_X4_costOfSentence (p1 : Int) (p2 : Int) (L_costs : Nat → Int) : Option (Int) := if p1 = p2 then (some 0) else (if p1 = (-1) then (some (L_costs (Int.toNat 0))) else (if p2 = (-1) then (some (L_costs (Int.toNat 2))) else (some (L_costs (Int.toNat 1)))))
def l_X4_sumUp_16 : Nat → Int → Int → Int → Int → Int → (Nat → Int) → (Nat → Int) → (Nat → Int) → Option (Int × (Nat → Int))
  | 0, _, _, _, _, _, _, _, _ => none
  | n + 1, v1, v2, v3, v4, v5, L_forms, L_costs, L_copied => if v5 < 8 then (if zin (v3 + v5) 576 ∧ zin ((v1 * 8) + v5) 64 ∧ zin ((v2 * 8) + v5) 64 then (f_X4_costOfSentence (L_forms (Int.toNat ((v1 * 8) + v5))) (L_forms (Int.toNat ((v2 * 8) + v5))) L_costs).bind fun x2 => if zI (v4 + x2) ∧ zI (v5 + 1) then l_X4_sumUp_16 n v1 v2 v3 (v4 + x2) (v5 + 1) L_forms L_costs (zu L_copied (Int.toNat (v3 + v5)) v4) else none else none) else (some (v4, L_copied))
def f_X4_sumUp (p1 : Int) (p2 : Int) (L_forms : Nat → Int) (L_costs : Nat → Int) (L_copied : Nat → Int) : Option (Nat → Int) := if zI (((p1 * 8) + p2) * 9) then (l_X4_sumUp_16 zN p1 p2 (((p1 * 8) + p2) * 9) 0 0 L_forms L_costs L_copied).bind fun x5 => if zin ((((p1 * 8) + p2) * 9) + 8) 576 then some (zu x5.2 (Int.toNat ((((p1 * 8) + p2) * 9) + 8)) x5.1) else none else none
def l_X4_refresh_20 : Nat → Int → Int → Int → (Nat → Int) → (Nat → Int) → (Nat → Int) → Option (Nat → Int)
  | 0, _, _, _, _, _, _ => none
  | n + 1, v1, v2, L_count, L_forms, L_costs, L_copied => if v2 < L_count then ((f_X4_sumUp v1 v2 L_forms L_costs L_copied).bind fun x1 => if zI (v2 + 1) then l_X4_refresh_20 n v1 (v2 + 1) L_count L_forms L_costs x1 else none) else (some L_copied)
def l_X4_refresh_10 : Nat → Int → Int → (Nat → Int) → (Nat → Int) → (Nat → Int) → Option (Nat → Int)
  | 0, _, _, _, _, _ => none
  | n + 1, v1, L_count, L_forms, L_costs, L_copied => if v1 < L_count then ((l_X4_refresh_20 zN v1 0 L_count L_forms L_costs L_copied).bind fun x3 => if zI (v1 + 1) then l_X4_refresh_10 n (v1 + 1) L_count L_forms L_costs x3 else none) else (some L_copied)
def f_X4_refresh (L_count : Int) (L_copiedStands : Int) (L_forms : Nat → Int) (L_costs : Nat → Int) (L_copied : Nat → Int) : Option (Int × (Nat → Int)) := if L_copiedStands = 0 then ((l_X4_refresh_10 zN 0 L_count L_forms L_costs L_copied).bind fun x5 => some (1, x5)) else (some (L_copiedStands, L_copied))
def l_X4_priceFirst_4 : Nat → Int → Int → Int → (Nat → Int) → Option (Int)
  | 0, _, _, _, _ => none
  | n + 1, v1, v2, v3, L_forms => if v3 < 8 then (if zin ((v1 * 8) + v3) 64 then if (L_forms (Int.toNat ((v1 * 8) + v3))) = (-1) then (if zI (v3 + 1) then l_X4_priceFirst_4 n v1 v2 (v3 + 1) L_forms else none) else (if zI (v2 + 1) then if zI (v3 + 1) then l_X4_priceFirst_4 n v1 (v2 + 1) (v3 + 1) L_forms else none else none) else none) else (some v2)
def f_X4_priceFirst (p1 : Int) (L_forms : Nat → Int) (L_costs : Nat → Int) : Option (Int) := (l_X4_priceFirst_4 zN p1 0 0 L_forms).bind fun x5 => if zI (x5 * (L_costs (Int.toNat 3))) then some (x5 * (L_costs (Int.toNat 3))) else none
def f_X4_priceCopied (p1 : Int) (p2 : Int) (L_copied : Nat → Int) : Option (Int) := if zin ((((p1 * 8) + p2) * 9) + 8) 576 then some (L_copied (Int.toNat ((((p1 * 8) + p2) * 9) + 8))) else none
def f_X4_priceJoined (p1 : Int) (p2 : Int) (p3 : Int) (p4 : Int) (L_costs : Nat → Int) (L_copied : Nat → Int) : Option (Int) := if zI (((p1 * 8) + p2) * 9) ∧ zI (((p1 * 8) + p3) * 9) then if zin ((((p1 * 8) + p2) * 9) + p4) 576 ∧ zin ((((p1 * 8) + p3) * 9) + 8) 576 ∧ zin ((((p1 * 8) + p3) * 9) + p4) 576 ∧ zI ((((L_costs (Int.toNat 4)) + (L_copied (Int.toNat ((((p1 * 8) + p2) * 9) + p4)))) + (L_copied (Int.toNat ((((p1 * 8) + p3) * 9) + 8)))) - (L_copied (Int.toNat ((((p1 * 8) + p3) * 9) + p4)))) then some ((((L_costs (Int.toNat 4)) + (L_copied (Int.toNat ((((p1 * 8) + p2) * 9) + p4)))) + (L_copied (Int.toNat ((((p1 * 8) + p3) * 9) + 8)))) - (L_copied (Int.toNat ((((p1 * 8) + p3) * 9) + p4)))) else none else none
def f_X4_priceOf (p1 : Int) (p2 : Int) (L_forms : Nat → Int) (L_costs : Nat → Int) (L_copied : Nat → Int) : Option (Int) := if p2 = 0 then ((f_X4_priceFirst p1 L_forms L_costs).bind fun x1 => some x1) else (if (8 : Int) < p2 then ((f_X4_priceJoined p1 (zshr (p2 - 20) 6) (zand (zshr (p2 - 20) 3) 7) (zand (p2 - 20) 7) L_costs L_copied).bind fun x2 => some x2) else (if zI (p2 - 1) then (f_X4_priceCopied p1 (p2 - 1) L_copied).bind fun x3 => some x3 else none))
def f_X9_price (p1 : Int) (p2 : Int) (L_count : Int) (L_copiedStands : Int) (L_forms : Nat → Int) (L_costs : Nat → Int) (L_copied : Nat → Int) : Option (Int × Int × (Nat → Int)) := (f_X4_sources p1 p2 L_count).bind fun x1 => if x1 = (-1) then (some ((-1), L_copiedStands, L_copied)) else ((f_X4_refresh L_count L_copiedStands L_forms L_costs L_copied).bind fun x2 => (f_X4_priceOf p1 p2 L_forms L_costs x2.2).bind fun x3 => some (x3, x2.1, x2.2))
def l_X8_fillPairs_48 : Nat → Int → Int → Int → Int → Int → (Nat → Int) → (Nat → Int) → Option (Int)
  | 0, _, _, _, _, _, _, _ => none
  | n + 1, v1, v2, v3, v4, v5, L_costs, L_copied => if v5 < 8 then ((f_X4_priceJoined v1 v2 v3 v5 L_costs L_copied).bind fun x4 => (f_X4_priceJoined v1 v3 v2 v5 L_costs L_copied).bind fun x5 => if zI (v5 + 1) then l_X8_fillPairs_48 n v1 v2 v3 (min (min v4 x4) x5) (v5 + 1) L_costs L_copied else none) else (some v4)
def l_X8_fillPairs_17 : Nat → Int → Int → Int → Int → (Nat → Int) → (Nat → Int) → (Nat → Int) → Option (Nat → Int)
  | 0, _, _, _, _, _, _, _ => none
  | n + 1, v1, v2, v3, L_count, L_costs, L_copied, T_pairs => if v3 < L_count then (if v2 = v1 then (if zI (v3 + 1) then l_X8_fillPairs_17 n v1 v2 (v3 + 1) L_count L_costs L_copied T_pairs else none) else (if v3 = v1 then (if zI (v3 + 1) then l_X8_fillPairs_17 n v1 v2 (v3 + 1) L_count L_costs L_copied T_pairs else none) else ((l_X8_fillPairs_48 zN v1 v2 v3 1048576 1 L_costs L_copied).bind fun x7 => if zin ((v2 * 8) + v3) 64 then if zI (v3 + 1) then l_X8_fillPairs_17 n v1 v2 (v3 + 1) L_count L_costs L_copied (zu T_pairs (Int.toNat ((v2 * 8) + v3)) x7) else none else none))) else (some T_pairs)
def l_X8_fillPairs_2 : Nat → Int → Int → Int → (Nat → Int) → (Nat → Int) → (Nat → Int) → Option (Nat → Int)
  | 0, _, _, _, _, _, _ => none
  | n + 1, v1, v2, L_count, L_costs, L_copied, T_pairs => if v2 < L_count then (if zI (v2 + 1) then (l_X8_fillPairs_17 zN v1 v2 (v2 + 1) L_count L_costs L_copied T_pairs).bind fun x10 => if zI (v2 + 1) then l_X8_fillPairs_2 n v1 (v2 + 1) L_count L_costs L_copied x10 else none else none) else (some T_pairs)
def f_X8_fillPairs (p1 : Int) (L_count : Int) (L_costs : Nat → Int) (L_copied : Nat → Int) (T_pairs : Nat → Int) : Option (Nat → Int) := (l_X8_fillPairs_2 zN p1 0 L_count L_costs L_copied T_pairs).bind fun x12 => some x12
def f_X8_everyone (L_count : Int) : Option (Int) := if zI ((zshl 1 L_count) - 1) then some ((zshl 1 L_count) - 1) else none
def l_X8_lowestOf_2 : Nat → Int → Int → Int → Option (Int)
  | 0, _, _, _ => none
  | n + 1, v1, v2, L_count => if v2 < L_count then (if (zand (zshr v1 v2) 1) = 0 then (if zI (v2 + 1) then l_X8_lowestOf_2 n v1 (v2 + 1) L_count else none) else (some v2)) else (some 0)
def f_X8_lowestOf (p1 : Int) (L_count : Int) : Option (Int) := l_X8_lowestOf_2 zN p1 0 L_count
def l_X8_fillSteps_100 : Nat → Int → Int → Int → Int → Int → Int → Int → Int → (Nat → Int) → Option (Int)
  | 0, _, _, _, _, _, _, _, _, _ => none
  | n + 1, v1, v2, v3, v4, v5, v7, v8, L_count, T_pairs => if v8 < L_count then (if (zand (zshr v4 v8) 1) = 0 then (if zI (v8 + 1) then l_X8_fillSteps_100 n v1 v2 v3 v4 v5 v7 (v8 + 1) L_count T_pairs else none) else (if zin ((v5 * 8) + v8) 64 then if zI (v8 + 1) then l_X8_fillSteps_100 n v1 v2 v3 v4 v5 (min v7 (T_pairs (Int.toNat ((v5 * 8) + v8)))) (v8 + 1) L_count T_pairs else none else none)) else (some v7)
def l_X8_fillSteps_33 : Nat → Int → Int → Int → Int → Int → (Nat → Int) → (Nat → Int) → (Nat → Int) → Option (Nat → Int)
  | 0, _, _, _, _, _, _, _, _ => none
  | n + 1, v1, v2, v3, v4, L_count, L_copied, T_steps, T_pairs => if v2 < v4 then (some T_steps) else (if (zand (zshr v4 v1) 1) = 0 then ((f_X8_lowestOf v4 L_count).bind fun x6 => if zin (v3 + (zand v4 (zxor (zshl 1 x6) (-1)))) 2048 then (f_X4_priceCopied v1 x6 L_copied).bind fun x7 => if zI (x6 + 1) then (l_X8_fillSteps_100 zN v1 v2 v3 v4 x6 (min (T_steps (Int.toNat (v3 + (zand v4 (zxor (zshl 1 x6) (-1)))))) x7) (x6 + 1) L_count T_pairs).bind fun x13 => if zin (v3 + v4) 2048 then if zI (v4 + 1) then l_X8_fillSteps_33 n v1 v2 v3 (v4 + 1) L_count L_copied (zu T_steps (Int.toNat (v3 + v4)) x13) T_pairs else none else none else none else none) else (if zI (v4 + 1) then l_X8_fillSteps_33 n v1 v2 v3 (v4 + 1) L_count L_copied T_steps T_pairs else none))
def f_X8_fillSteps (p1 : Int) (L_count : Int) (L_forms : Nat → Int) (L_costs : Nat → Int) (L_copied : Nat → Int) (T_steps : Nat → Int) (T_pairs : Nat → Int) : Option ((Nat → Int) × (Nat → Int)) := (f_X8_fillPairs p1 L_count L_costs L_copied T_pairs).bind fun x1 => (f_X8_everyone L_count).bind fun x2 => if zI (p1 * 256) then (f_X4_priceFirst p1 L_forms L_costs).bind fun x3 => if zin (p1 * 256) 2048 then (l_X8_fillSteps_33 zN p1 x2 (p1 * 256) 1 L_count L_copied (zu T_steps (Int.toNat (p1 * 256)) x3) x1).bind fun x17 => some (x17, x1) else none else none
def l_X8_freeAll_2 : Nat → Int → (Nat → Int) → Option (Nat → Int)
  | 0, _, _ => none
  | n + 1, v1, T_held => if v1 < (Int.ofNat 8) then (if zin v1 8 ∧ zI (v1 + 1) then l_X8_freeAll_2 n (v1 + 1) (zu T_held (Int.toNat v1) (-1)) else none) else (some T_held)
def f_X8_freeAll (T_held : Nat → Int) : Option (Nat → Int) := (l_X8_freeAll_2 zN 0 T_held).bind fun x2 => some x2
def f_X8_stepBehind (p1 : Int) (p2 : Int) (T_steps : Nat → Int) (T_held : Nat → Int) (T_heldPrice : Nat → Int) : Option (Int) := if zin p1 8 then if (T_held (Int.toNat p1)) = (-1) then (if zin ((p1 * 256) + p2) 2048 then some (T_steps (Int.toNat ((p1 * 256) + p2))) else none) else (if zin p1 8 ∧ zin p1 8 then if (zand (T_held (Int.toNat p1)) p2) = (T_held (Int.toNat p1)) then (if zin p1 8 then some (T_heldPrice (Int.toNat p1)) else none) else (some 1048576) else none) else none
def l_X8_fillBuilt_25 : Nat → Int → Int → Int → Int → Int → (Nat → Int) → (Nat → Int) → (Nat → Int) → (Nat → Int) → Option (Int)
  | 0, _, _, _, _, _, _, _, _, _ => none
  | n + 1, v1, v2, v3, v4, L_count, T_steps, T_built, T_held, T_heldPrice => if v4 < L_count then (if (zand (zshr v2 v4) 1) = 0 then (if zI (v4 + 1) then l_X8_fillBuilt_25 n v1 v2 v3 (v4 + 1) L_count T_steps T_built T_held T_heldPrice else none) else (if zin (zxor v2 (zshl 1 v4)) 256 then (f_X8_stepBehind v4 (zxor v2 (zshl 1 v4)) T_steps T_held T_heldPrice).bind fun x3 => if zI ((T_built (Int.toNat (zxor v2 (zshl 1 v4)))) + x3) then if zI (v4 + 1) then l_X8_fillBuilt_25 n v1 v2 (min v3 ((T_built (Int.toNat (zxor v2 (zshl 1 v4)))) + x3)) (v4 + 1) L_count T_steps T_built T_held T_heldPrice else none else none else none)) else (some v3)
def l_X8_fillBuilt_14 : Nat → Int → Int → Int → (Nat → Int) → (Nat → Int) → (Nat → Int) → (Nat → Int) → Option (Nat → Int)
  | 0, _, _, _, _, _, _, _ => none
  | n + 1, v1, v2, L_count, T_steps, T_built, T_held, T_heldPrice => if v1 < v2 then (some T_built) else ((l_X8_fillBuilt_25 zN v1 v2 1048576 0 L_count T_steps T_built T_held T_heldPrice).bind fun x7 => if zin v2 256 ∧ zI (v2 + 1) then l_X8_fillBuilt_14 n v1 (v2 + 1) L_count T_steps (zu T_built (Int.toNat v2) x7) T_held T_heldPrice else none)
def f_X8_fillBuilt (L_count : Int) (T_steps : Nat → Int) (T_built : Nat → Int) (T_held : Nat → Int) (T_heldPrice : Nat → Int) : Option (Nat → Int) := (f_X8_everyone L_count).bind fun x1 => (l_X8_fillBuilt_14 zN x1 1 L_count T_steps (zu T_built (Int.toNat 0) 0) T_held T_heldPrice).bind fun x9 => some x9
def l_X8_leastCost_16 : Nat → Int → Int → (Nat → Int) → (Nat → Int) → (Nat → Int) → (Nat → Int) → (Nat → Int) → Option ((Nat → Int) × (Nat → Int))
  | 0, _, _, _, _, _, _, _ => none
  | n + 1, v1, L_count, L_forms, L_costs, L_copied, T_steps, T_pairs => if v1 < L_count then ((f_X8_fillSteps v1 L_count L_forms L_costs L_copied T_steps T_pairs).bind fun x2 => if zI (v1 + 1) then l_X8_leastCost_16 n (v1 + 1) L_count L_forms L_costs L_copied x2.1 x2.2 else none) else (some (T_steps, T_pairs))
def f_X8_leastCost (T_cost : Int) (T_priced : Int) (L_count : Int) (L_copiedStands : Int) (L_forms : Nat → Int) (L_costs : Nat → Int) (L_copied : Nat → Int) (T_steps : Nat → Int) (T_pairs : Nat → Int) (T_built : Nat → Int) (T_held : Nat → Int) (T_heldPrice : Nat → Int) : Option (Int × Int × Int × Int × (Nat → Int) × (Nat → Int) × (Nat → Int) × (Nat → Int) × (Nat → Int)) := if T_priced = 0 then ((f_X4_refresh L_count L_copiedStands L_forms L_costs L_copied).bind fun x1 => (l_X8_leastCost_16 zN 0 L_count L_forms L_costs x1.2 T_steps T_pairs).bind fun x4 => (f_X8_freeAll T_held).bind fun x5 => (f_X8_fillBuilt L_count x4.1 T_built x5 T_heldPrice).bind fun x6 => (f_X8_everyone L_count).bind fun x7 => if zin x7 256 then some ((x6 (Int.toNat x7)), (x6 (Int.toNat x7)), 1, x1.1, x1.2, x4.1, x4.2, x6, x5) else none) else (some (T_cost, T_cost, T_priced, L_copiedStands, L_copied, T_steps, T_pairs, T_built, T_held))
def f_X9_least (L_count : Int) (L_copiedStands : Int) (L_forms : Nat → Int) (L_costs : Nat → Int) (L_copied : Nat → Int) (T_cost : Int) (T_priced : Int) (T_steps : Nat → Int) (T_pairs : Nat → Int) (T_built : Nat → Int) (T_held : Nat → Int) (T_heldPrice : Nat → Int) : Option (Int × Int × (Nat → Int) × Int × Int × (Nat → Int) × (Nat → Int) × (Nat → Int) × (Nat → Int)) := (f_X8_leastCost T_cost T_priced L_count L_copiedStands L_forms L_costs L_copied T_steps T_pairs T_built T_held T_heldPrice).bind fun x1 => some (x1.1, x1.2.2.2.1, x1.2.2.2.2.1, x1.2.1, x1.2.2.1, x1.2.2.2.2.2.1, x1.2.2.2.2.2.2.1, x1.2.2.2.2.2.2.2.1, x1.2.2.2.2.2.2.2.2)
def l_X8_fillRest_26 : Nat → Int → Int → Int → Int → (Nat → Int) → (Nat → Int) → (Nat → Int) → (Nat → Int) → Option (Int)
  | 0, _, _, _, _, _, _, _, _ => none
  | n + 1, v2, v3, v4, L_count, T_steps, T_rest, T_held, T_heldPrice => if v4 < L_count then (if (zand (zshr v2 v4) 1) = 0 then ((f_X8_stepBehind v4 v2 T_steps T_held T_heldPrice).bind fun x3 => if zin (zor v2 (zshl 1 v4)) 256 ∧ zI (x3 + (T_rest (Int.toNat (zor v2 (zshl 1 v4))))) then if zI (v4 + 1) then l_X8_fillRest_26 n v2 (min v3 (x3 + (T_rest (Int.toNat (zor v2 (zshl 1 v4)))))) (v4 + 1) L_count T_steps T_rest T_held T_heldPrice else none else none) else (if zI (v4 + 1) then l_X8_fillRest_26 n v2 v3 (v4 + 1) L_count T_steps T_rest T_held T_heldPrice else none)) else (some v3)
def l_X8_fillRest_16 : Nat → Int → Int → (Nat → Int) → (Nat → Int) → (Nat → Int) → (Nat → Int) → Option (Nat → Int)
  | 0, _, _, _, _, _, _ => none
  | n + 1, v2, L_count, T_steps, T_rest, T_held, T_heldPrice => if v2 < 0 then (some T_rest) else ((l_X8_fillRest_26 zN v2 1048576 0 L_count T_steps T_rest T_held T_heldPrice).bind fun x7 => if zin v2 256 ∧ zI (v2 + (-1)) then l_X8_fillRest_16 n (v2 + (-1)) L_count T_steps (zu T_rest (Int.toNat v2) x7) T_held T_heldPrice else none)
def f_X8_fillRest (L_count : Int) (T_steps : Nat → Int) (T_rest : Nat → Int) (T_held : Nat → Int) (T_heldPrice : Nat → Int) : Option (Nat → Int) := (f_X8_everyone L_count).bind fun x1 => if zin x1 256 ∧ zI (x1 - 1) then (l_X8_fillRest_16 zN (x1 - 1) L_count T_steps (zu T_rest (Int.toNat x1) 0) T_held T_heldPrice).bind fun x9 => some x9 else none
def l_X8_weigh_20 : Nat → Int → Int → Int → (Nat → Int) → (Nat → Int) → (Nat → Int) → Option (Nat → Int)
  | 0, _, _, _, _, _, _ => none
  | n + 1, v2, v3, v4, T_built, T_rest, T_beside => if v2 < v4 then (some T_beside) else (if (zand v4 v3) = 0 then (if zin v4 256 ∧ zin (zor v4 v3) 256 then if zin v4 256 ∧ zI ((T_built (Int.toNat v4)) + (T_rest (Int.toNat (zor v4 v3)))) ∧ zI (v4 + 1) then l_X8_weigh_20 n v2 v3 (v4 + 1) T_built T_rest (zu T_beside (Int.toNat v4) ((T_built (Int.toNat v4)) + (T_rest (Int.toNat (zor v4 v3))))) else none else none) else (if zin v4 256 ∧ zI (v4 + 1) then l_X8_weigh_20 n v2 v3 (v4 + 1) T_built T_rest (zu T_beside (Int.toNat v4) 1048576) else none))
def l_X8_weigh_86 : Nat → Int → Int → Int → (Nat → Int) → Option (Nat → Int)
  | 0, _, _, _, _ => none
  | n + 1, v2, v4, v5, T_beside => if v2 < v5 then (some T_beside) else (if (zand (zshr v5 v4) 1) = 0 then (if zin v5 256 ∧ zin (zor v5 (zshl 1 v4)) 256 ∧ zin v5 256 then if zI (v5 + 1) then l_X8_weigh_86 n v2 v4 (v5 + 1) (zu T_beside (Int.toNat v5) (min (T_beside (Int.toNat v5)) (T_beside (Int.toNat (zor v5 (zshl 1 v4)))))) else none else none) else (if zI (v5 + 1) then l_X8_weigh_86 n v2 v4 (v5 + 1) T_beside else none))
def l_X8_weigh_71 : Nat → Int → Int → Int → (Nat → Int) → Option (Nat → Int)
  | 0, _, _, _, _ => none
  | n + 1, v2, v4, L_count, T_beside => if v4 < L_count then ((l_X8_weigh_86 zN v2 v4 0 T_beside).bind fun x11 => if zI (v4 + 1) then l_X8_weigh_71 n v2 (v4 + 1) L_count x11 else none) else (some T_beside)
def f_X8_weigh (p1 : Int) (L_count : Int) (T_steps : Nat → Int) (T_built : Nat → Int) (T_rest : Nat → Int) (T_beside : Nat → Int) (T_held : Nat → Int) (T_heldPrice : Nat → Int) : Option ((Nat → Int) × (Nat → Int) × (Nat → Int)) := (f_X8_fillBuilt L_count T_steps T_built T_held T_heldPrice).bind fun x1 => (f_X8_fillRest L_count T_steps T_rest T_held T_heldPrice).bind fun x2 => (f_X8_everyone L_count).bind fun x3 => (l_X8_weigh_20 zN x3 (zshl 1 p1) 0 x1 x2 T_beside).bind fun x7 => (l_X8_weigh_71 zN x3 0 L_count x7).bind fun x13 => some (x1, x2, x13)
def f_X8_fits (p1 : Int) (p2 : Int) (T_cost : Int) (L_count : Int) (L_forms : Nat → Int) (L_costs : Nat → Int) (L_copied : Nat → Int) (T_beside : Nat → Int) : Option (Int) := (f_X4_sources p1 p2 L_count).bind fun x1 => if x1 = (-1) then (some 0) else (if zin x1 256 then (f_X4_priceOf p1 p2 L_forms L_costs L_copied).bind fun x2 => if zI ((T_beside (Int.toNat x1)) + x2) then if ((T_beside (Int.toNat x1)) + x2) = T_cost then (some 1) else (some 0) else none else none)
def l_X8_leastWayThatFits_2 : Nat → Int → Int → Int → Int → (Nat → Int) → (Nat → Int) → (Nat → Int) → (Nat → Int) → Option (Int)
  | 0, _, _, _, _, _, _, _, _ => none
  | n + 1, v1, v2, T_cost, L_count, L_forms, L_costs, L_copied, T_beside => if v2 < 532 then ((f_X8_fits v1 v2 T_cost L_count L_forms L_costs L_copied T_beside).bind fun x1 => if x1 = 0 then (if zI (v2 + 1) then l_X8_leastWayThatFits_2 n v1 (v2 + 1) T_cost L_count L_forms L_costs L_copied T_beside else none) else (some v2)) else (some 0)
def f_X8_leastWayThatFits (p1 : Int) (T_cost : Int) (L_count : Int) (L_forms : Nat → Int) (L_costs : Nat → Int) (L_copied : Nat → Int) (T_beside : Nat → Int) : Option (Int) := l_X8_leastWayThatFits_2 zN p1 0 T_cost L_count L_forms L_costs L_copied T_beside
def f_X4_firstYear (p1 : Int) (L_from : Nat → Int) : Option (Int) := if zin p1 8 then some (L_from (Int.toNat p1)) else none
def f_X4_lastYear (p1 : Int) (L_to : Nat → Int) : Option (Int) := if zin p1 8 then some (L_to (Int.toNat p1)) else none
def l_X8_pushYears_2 : Nat → Int → Int → Int → (Nat → Int) → (Nat → Int) → (Nat → Int) → Option ((Nat → Int) × (Nat → Int))
  | 0, _, _, _, _, _, _ => none
  | n + 1, v1, v2, L_count, T_held, T_early, T_late => if v2 < L_count then (if zin v1 8 then if (zand (zshr (T_held (Int.toNat v1)) v2) 1) = 0 then (if zI (v2 + 1) then l_X8_pushYears_2 n v1 (v2 + 1) L_count T_held T_early T_late else none) else (if zin v1 8 ∧ zin v2 8 ∧ zin v1 8 then if zin v2 8 ∧ zin v1 8 ∧ zin v2 8 then if zI (v2 + 1) then l_X8_pushYears_2 n v1 (v2 + 1) L_count T_held (zu T_early (Int.toNat v1) (max (T_early (Int.toNat v1)) (T_early (Int.toNat v2)))) (zu T_late (Int.toNat v2) (min (T_late (Int.toNat v2)) (T_late (Int.toNat v1)))) else none else none else none) else none) else (some (T_early, T_late))
def f_X8_pushYears (p1 : Int) (L_count : Int) (T_held : Nat → Int) (T_early : Nat → Int) (T_late : Nat → Int) : Option ((Nat → Int) × (Nat → Int)) := (l_X8_pushYears_2 zN p1 0 L_count T_held T_early T_late).bind fun x6 => some (x6.1, x6.2)
def l_X8_datesOfTheHeld_2 : Nat → Int → Int → (Nat → Int) → (Nat → Int) → (Nat → Int) → (Nat → Int) → Option ((Nat → Int) × (Nat → Int))
  | 0, _, _, _, _, _, _ => none
  | n + 1, v1, L_count, L_from, L_to, T_early, T_late => if v1 < L_count then ((f_X4_firstYear v1 L_from).bind fun x1 => if zin v1 8 then (f_X4_lastYear v1 L_to).bind fun x2 => if zin v1 8 ∧ zI (v1 + 1) then l_X8_datesOfTheHeld_2 n (v1 + 1) L_count L_from L_to (zu T_early (Int.toNat v1) x1) (zu T_late (Int.toNat v1) x2) else none else none) else (some (T_early, T_late))
def l_X8_datesOfTheHeld_62 : Nat → Int → Int → Int → (Nat → Int) → (Nat → Int) → (Nat → Int) → Option ((Nat → Int) × (Nat → Int))
  | 0, _, _, _, _, _, _ => none
  | n + 1, v1, v2, L_count, T_held, T_early, T_late => if v2 < L_count then ((f_X8_pushYears v2 L_count T_held T_early T_late).bind fun x6 => if zI (v2 + 1) then l_X8_datesOfTheHeld_62 n v1 (v2 + 1) L_count T_held x6.1 x6.2 else none) else (some (T_early, T_late))
def l_X8_datesOfTheHeld_49 : Nat → Int → Int → (Nat → Int) → (Nat → Int) → (Nat → Int) → Option ((Nat → Int) × (Nat → Int))
  | 0, _, _, _, _, _ => none
  | n + 1, v1, L_count, T_held, T_early, T_late => if v1 < L_count then ((l_X8_datesOfTheHeld_62 zN v1 0 L_count T_held T_early T_late).bind fun x8 => if zI (v1 + 1) then l_X8_datesOfTheHeld_49 n (v1 + 1) L_count T_held x8.1 x8.2 else none) else (some (T_early, T_late))
def l_X8_datesOfTheHeld_97 : Nat → Int → Int → Int → (Nat → Int) → (Nat → Int) → Option (Int)
  | 0, _, _, _, _, _ => none
  | n + 1, v1, T_quarrel, L_count, T_early, T_late => if v1 < L_count then (if T_quarrel = 0 then (if zin v1 8 ∧ zin v1 8 then if (T_late (Int.toNat v1)) < (T_early (Int.toNat v1)) then (if zI (v1 + 1) then l_X8_datesOfTheHeld_97 n (v1 + 1) 1 L_count T_early T_late else none) else (if zI (v1 + 1) then l_X8_datesOfTheHeld_97 n (v1 + 1) 0 L_count T_early T_late else none) else none) else (if zI (v1 + 1) then l_X8_datesOfTheHeld_97 n (v1 + 1) 1 L_count T_early T_late else none)) else (some T_quarrel)
def f_X8_datesOfTheHeld (T_quarrel : Int) (L_count : Int) (L_from : Nat → Int) (L_to : Nat → Int) (T_held : Nat → Int) (T_early : Nat → Int) (T_late : Nat → Int) : Option (Int × (Nat → Int) × (Nat → Int)) := (l_X8_datesOfTheHeld_2 zN 0 L_count L_from L_to T_early T_late).bind fun x5 => (l_X8_datesOfTheHeld_49 zN 0 L_count T_held x5.1 x5.2).bind fun x10 => (l_X8_datesOfTheHeld_97 zN 0 0 L_count x10.1 x10.2).bind fun x15 => some (x15, x10.1, x10.2)
def l_X8_settle_19 : Nat → Int → Int → Int → (Nat → Int) → (Nat → Int) → (Nat → Int) → (Nat → Int) → (Nat → Int) → (Nat → Int) → (Nat → Int) → (Nat → Int) → (Nat → Int) → (Nat → Int) → Option ((Nat → Int) × (Nat → Int) × (Nat → Int) × (Nat → Int) × (Nat → Int) × (Nat → Int))
  | 0, _, _, _, _, _, _, _, _, _, _, _, _, _ => none
  | n + 1, v1, T_cost, L_count, L_forms, L_costs, L_copied, T_steps, T_built, T_rest, T_beside, T_held, T_heldPrice, T_ways => if v1 < L_count then ((f_X8_weigh v1 L_count T_steps T_built T_rest T_beside T_held T_heldPrice).bind fun x3 => (f_X8_leastWayThatFits v1 T_cost L_count L_forms L_costs L_copied x3.2.2).bind fun x4 => if zin v1 8 then (f_X4_sources v1 x4 L_count).bind fun x5 => if zin v1 8 then (f_X4_priceOf v1 x4 L_forms L_costs L_copied).bind fun x7 => if zin v1 8 ∧ zI (v1 + 1) then l_X8_settle_19 n (v1 + 1) T_cost L_count L_forms L_costs L_copied T_steps x3.1 x3.2.1 x3.2.2 (zu T_held (Int.toNat v1) x5) (zu T_heldPrice (Int.toNat v1) x7) (zu T_ways (Int.toNat v1) x4) else none else none else none) else (some (T_built, T_rest, T_beside, T_held, T_heldPrice, T_ways))
def f_X8_settle (T_cost : Int) (T_priced : Int) (T_settled : Int) (T_quarrel : Int) (L_count : Int) (L_copiedStands : Int) (L_from : Nat → Int) (L_to : Nat → Int) (L_forms : Nat → Int) (L_costs : Nat → Int) (L_copied : Nat → Int) (T_steps : Nat → Int) (T_pairs : Nat → Int) (T_built : Nat → Int) (T_rest : Nat → Int) (T_beside : Nat → Int) (T_held : Nat → Int) (T_heldPrice : Nat → Int) (T_ways : Nat → Int) (T_early : Nat → Int) (T_late : Nat → Int) : Option (Int × Int × Int × Int × Int × (Nat → Int) × (Nat → Int) × (Nat → Int) × (Nat → Int) × (Nat → Int) × (Nat → Int) × (Nat → Int) × (Nat → Int) × (Nat → Int) × (Nat → Int) × (Nat → Int)) := if T_settled = 0 then ((f_X8_leastCost T_cost T_priced L_count L_copiedStands L_forms L_costs L_copied T_steps T_pairs T_built T_held T_heldPrice).bind fun x1 => (f_X8_freeAll x1.2.2.2.2.2.2.2.2).bind fun x2 => (l_X8_settle_19 zN 0 x1.2.1 L_count L_forms L_costs x1.2.2.2.2.1 x1.2.2.2.2.2.1 x1.2.2.2.2.2.2.2.1 T_rest T_beside x2 T_heldPrice T_ways).bind fun x10 => (f_X8_datesOfTheHeld T_quarrel L_count L_from L_to x10.2.2.2.1 T_early T_late).bind fun x11 => some (x1.2.1, x1.2.2.1, 1, x11.1, x1.2.2.2.1, x1.2.2.2.2.1, x1.2.2.2.2.2.1, x1.2.2.2.2.2.2.1, x10.1, x10.2.1, x10.2.2.1, x10.2.2.2.1, x10.2.2.2.2.1, x10.2.2.2.2.2, x11.2.1, x11.2.2)) else (some (T_cost, T_priced, T_settled, T_quarrel, L_copiedStands, L_copied, T_steps, T_pairs, T_built, T_rest, T_beside, T_held, T_heldPrice, T_ways, T_early, T_late))
def f_X8_wayOf (p1 : Int) (T_cost : Int) (T_priced : Int) (T_settled : Int) (T_quarrel : Int) (L_count : Int) (L_copiedStands : Int) (L_from : Nat → Int) (L_to : Nat → Int) (L_forms : Nat → Int) (L_costs : Nat → Int) (L_copied : Nat → Int) (T_steps : Nat → Int) (T_pairs : Nat → Int) (T_built : Nat → Int) (T_rest : Nat → Int) (T_beside : Nat → Int) (T_held : Nat → Int) (T_heldPrice : Nat → Int) (T_ways : Nat → Int) (T_early : Nat → Int) (T_late : Nat → Int) : Option (Int × Int × Int × Int × Int × Int × (Nat → Int) × (Nat → Int) × (Nat → Int) × (Nat → Int) × (Nat → Int) × (Nat → Int) × (Nat → Int) × (Nat → Int) × (Nat → Int) × (Nat → Int) × (Nat → Int)) := (f_X8_settle T_cost T_priced T_settled T_quarrel L_count L_copiedStands L_from L_to L_forms L_costs L_copied T_steps T_pairs T_built T_rest T_beside T_held T_heldPrice T_ways T_early T_late).bind fun x1 => if zin p1 8 then some ((x1.2.2.2.2.2.2.2.2.2.2.2.2.2.1 (Int.toNat p1)), x1.1, x1.2.1, x1.2.2.1, x1.2.2.2.1, x1.2.2.2.2.1, x1.2.2.2.2.2.1, x1.2.2.2.2.2.2.1, x1.2.2.2.2.2.2.2.1, x1.2.2.2.2.2.2.2.2.1, x1.2.2.2.2.2.2.2.2.2.1, x1.2.2.2.2.2.2.2.2.2.2.1, x1.2.2.2.2.2.2.2.2.2.2.2.1, x1.2.2.2.2.2.2.2.2.2.2.2.2.1, x1.2.2.2.2.2.2.2.2.2.2.2.2.2.1, x1.2.2.2.2.2.2.2.2.2.2.2.2.2.2.1, x1.2.2.2.2.2.2.2.2.2.2.2.2.2.2.2) else none
def f_X9_way (p1 : Int) (L_count : Int) (L_copiedStands : Int) (L_from : Nat → Int) (L_to : Nat → Int) (L_forms : Nat → Int) (L_costs : Nat → Int) (L_copied : Nat → Int) (T_cost : Int) (T_priced : Int) (T_settled : Int) (T_quarrel : Int) (T_steps : Nat → Int) (T_pairs : Nat → Int) (T_built : Nat → Int) (T_rest : Nat → Int) (T_beside : Nat → Int) (T_held : Nat → Int) (T_heldPrice : Nat → Int) (T_ways : Nat → Int) (T_early : Nat → Int) (T_late : Nat → Int) : Option (Int × Int × (Nat → Int) × Int × Int × Int × Int × (Nat → Int) × (Nat → Int) × (Nat → Int) × (Nat → Int) × (Nat → Int) × (Nat → Int) × (Nat → Int) × (Nat → Int) × (Nat → Int) × (Nat → Int)) := (f_X4_has p1 L_count).bind fun x1 => if x1 = 0 then (some ((-1), L_copiedStands, L_copied, T_cost, T_priced, T_settled, T_quarrel, T_steps, T_pairs, T_built, T_rest, T_beside, T_held, T_heldPrice, T_ways, T_early, T_late)) else ((f_X8_wayOf p1 T_cost T_priced T_settled T_quarrel L_count L_copiedStands L_from L_to L_forms L_costs L_copied T_steps T_pairs T_built T_rest T_beside T_held T_heldPrice T_ways T_early T_late).bind fun x2 => some (x2.1, x2.2.2.2.2.2.1, x2.2.2.2.2.2.2.1, x2.2.1, x2.2.2.1, x2.2.2.2.1, x2.2.2.2.2.1, x2.2.2.2.2.2.2.2.1, x2.2.2.2.2.2.2.2.2.1, x2.2.2.2.2.2.2.2.2.2.1, x2.2.2.2.2.2.2.2.2.2.2.1, x2.2.2.2.2.2.2.2.2.2.2.2.1, x2.2.2.2.2.2.2.2.2.2.2.2.2.1, x2.2.2.2.2.2.2.2.2.2.2.2.2.2.1, x2.2.2.2.2.2.2.2.2.2.2.2.2.2.2.1, x2.2.2.2.2.2.2.2.2.2.2.2.2.2.2.2.1, x2.2.2.2.2.2.2.2.2.2.2.2.2.2.2.2.2))
def f_X8_mayHave (p1 : Int) (p2 : Int) (T_cost : Int) (T_priced : Int) (L_count : Int) (L_copiedStands : Int) (L_forms : Nat → Int) (L_costs : Nat → Int) (L_copied : Nat → Int) (T_steps : Nat → Int) (T_pairs : Nat → Int) (T_built : Nat → Int) (T_rest : Nat → Int) (T_beside : Nat → Int) (T_held : Nat → Int) (T_heldPrice : Nat → Int) : Option (Int × Int × Int × Int × (Nat → Int) × (Nat → Int) × (Nat → Int) × (Nat → Int) × (Nat → Int) × (Nat → Int) × (Nat → Int)) := (f_X8_leastCost T_cost T_priced L_count L_copiedStands L_forms L_costs L_copied T_steps T_pairs T_built T_held T_heldPrice).bind fun x1 => (f_X8_freeAll x1.2.2.2.2.2.2.2.2).bind fun x2 => (f_X8_weigh p1 L_count x1.2.2.2.2.2.1 x1.2.2.2.2.2.2.2.1 T_rest T_beside x2 T_heldPrice).bind fun x3 => (f_X8_fits p1 p2 x1.2.1 L_count L_forms L_costs x1.2.2.2.2.1 x3.2.2).bind fun x4 => if zbit x4 then some (x4, x1.2.1, x1.2.2.1, x1.2.2.2.1, x1.2.2.2.2.1, x1.2.2.2.2.2.1, x1.2.2.2.2.2.2.1, x3.1, x3.2.1, x3.2.2, x2) else none
def f_X9_may (p1 : Int) (p2 : Int) (L_count : Int) (L_copiedStands : Int) (L_forms : Nat → Int) (L_costs : Nat → Int) (L_copied : Nat → Int) (T_cost : Int) (T_priced : Int) (T_steps : Nat → Int) (T_pairs : Nat → Int) (T_built : Nat → Int) (T_rest : Nat → Int) (T_beside : Nat → Int) (T_held : Nat → Int) (T_heldPrice : Nat → Int) : Option (Int × Int × (Nat → Int) × Int × Int × (Nat → Int) × (Nat → Int) × (Nat → Int) × (Nat → Int) × (Nat → Int) × (Nat → Int)) := (f_X4_sources p1 p2 L_count).bind fun x1 => if x1 = (-1) then (some ((-2), L_copiedStands, L_copied, T_cost, T_priced, T_steps, T_pairs, T_built, T_rest, T_beside, T_held)) else ((f_X8_mayHave p1 p2 T_cost T_priced L_count L_copiedStands L_forms L_costs L_copied T_steps T_pairs T_built T_rest T_beside T_held T_heldPrice).bind fun x2 => if x2.1 = 0 then (some (0, x2.2.2.2.1, x2.2.2.2.2.1, x2.2.1, x2.2.2.1, x2.2.2.2.2.2.1, x2.2.2.2.2.2.2.1, x2.2.2.2.2.2.2.2.1, x2.2.2.2.2.2.2.2.2.1, x2.2.2.2.2.2.2.2.2.2.1, x2.2.2.2.2.2.2.2.2.2.2)) else (some (1, x2.2.2.2.1, x2.2.2.2.2.1, x2.2.1, x2.2.2.1, x2.2.2.2.2.2.1, x2.2.2.2.2.2.2.1, x2.2.2.2.2.2.2.2.1, x2.2.2.2.2.2.2.2.2.1, x2.2.2.2.2.2.2.2.2.2.1, x2.2.2.2.2.2.2.2.2.2.2)))
def l_X8_waysThatMayBe_18 : Nat → Int → Int → Int → Int → Int → (Nat → Int) → (Nat → Int) → (Nat → Int) → (Nat → Int) → Option (Int)
  | 0, _, _, _, _, _, _, _, _, _ => none
  | n + 1, v1, v2, v3, T_cost, L_count, L_forms, L_costs, L_copied, T_beside => if v3 < 532 then ((f_X8_fits v1 v3 T_cost L_count L_forms L_costs L_copied T_beside).bind fun x4 => if x4 = 0 then (if zI (v3 + 1) then l_X8_waysThatMayBe_18 n v1 v2 (v3 + 1) T_cost L_count L_forms L_costs L_copied T_beside else none) else (if zI (v2 + 1) then if zI (v3 + 1) then l_X8_waysThatMayBe_18 n v1 (v2 + 1) (v3 + 1) T_cost L_count L_forms L_costs L_copied T_beside else none else none)) else (some v2)
def f_X8_waysThatMayBe (p1 : Int) (T_cost : Int) (T_priced : Int) (L_count : Int) (L_copiedStands : Int) (L_forms : Nat → Int) (L_costs : Nat → Int) (L_copied : Nat → Int) (T_steps : Nat → Int) (T_pairs : Nat → Int) (T_built : Nat → Int) (T_rest : Nat → Int) (T_beside : Nat → Int) (T_held : Nat → Int) (T_heldPrice : Nat → Int) : Option (Int × Int × Int × Int × (Nat → Int) × (Nat → Int) × (Nat → Int) × (Nat → Int) × (Nat → Int) × (Nat → Int) × (Nat → Int)) := (f_X8_leastCost T_cost T_priced L_count L_copiedStands L_forms L_costs L_copied T_steps T_pairs T_built T_held T_heldPrice).bind fun x1 => (f_X8_freeAll x1.2.2.2.2.2.2.2.2).bind fun x2 => (f_X8_weigh p1 L_count x1.2.2.2.2.2.1 x1.2.2.2.2.2.2.2.1 T_rest T_beside x2 T_heldPrice).bind fun x3 => (l_X8_waysThatMayBe_18 zN p1 0 0 x1.2.1 L_count L_forms L_costs x1.2.2.2.2.1 x3.2.2).bind fun x8 => some (x8, x1.2.1, x1.2.2.1, x1.2.2.2.1, x1.2.2.2.2.1, x1.2.2.2.2.2.1, x1.2.2.2.2.2.2.1, x3.1, x3.2.1, x3.2.2, x2)
def f_X9_sure (p1 : Int) (L_count : Int) (L_copiedStands : Int) (L_forms : Nat → Int) (L_costs : Nat → Int) (L_copied : Nat → Int) (T_cost : Int) (T_priced : Int) (T_steps : Nat → Int) (T_pairs : Nat → Int) (T_built : Nat → Int) (T_rest : Nat → Int) (T_beside : Nat → Int) (T_held : Nat → Int) (T_heldPrice : Nat → Int) : Option (Int × Int × (Nat → Int) × Int × Int × (Nat → Int) × (Nat → Int) × (Nat → Int) × (Nat → Int) × (Nat → Int) × (Nat → Int)) := (f_X4_has p1 L_count).bind fun x1 => if x1 = 0 then (some ((-2), L_copiedStands, L_copied, T_cost, T_priced, T_steps, T_pairs, T_built, T_rest, T_beside, T_held)) else ((f_X8_waysThatMayBe p1 T_cost T_priced L_count L_copiedStands L_forms L_costs L_copied T_steps T_pairs T_built T_rest T_beside T_held T_heldPrice).bind fun x2 => if x2.1 = 1 then (some (1, x2.2.2.2.1, x2.2.2.2.2.1, x2.2.1, x2.2.2.1, x2.2.2.2.2.2.1, x2.2.2.2.2.2.2.1, x2.2.2.2.2.2.2.2.1, x2.2.2.2.2.2.2.2.2.1, x2.2.2.2.2.2.2.2.2.2.1, x2.2.2.2.2.2.2.2.2.2.2)) else (some (0, x2.2.2.2.1, x2.2.2.2.2.1, x2.2.1, x2.2.2.1, x2.2.2.2.2.2.1, x2.2.2.2.2.2.2.1, x2.2.2.2.2.2.2.2.1, x2.2.2.2.2.2.2.2.2.1, x2.2.2.2.2.2.2.2.2.2.1, x2.2.2.2.2.2.2.2.2.2.2)))
def f_X8_yearOf (p1 : Int) (p2 : Int) (T_cost : Int) (T_priced : Int) (T_settled : Int) (T_quarrel : Int) (L_count : Int) (L_copiedStands : Int) (L_from : Nat → Int) (L_to : Nat → Int) (L_forms : Nat → Int) (L_costs : Nat → Int) (L_copied : Nat → Int) (T_steps : Nat → Int) (T_pairs : Nat → Int) (T_built : Nat → Int) (T_rest : Nat → Int) (T_beside : Nat → Int) (T_held : Nat → Int) (T_heldPrice : Nat → Int) (T_ways : Nat → Int) (T_early : Nat → Int) (T_late : Nat → Int) : Option (Int × Int × Int × Int × Int × Int × (Nat → Int) × (Nat → Int) × (Nat → Int) × (Nat → Int) × (Nat → Int) × (Nat → Int) × (Nat → Int) × (Nat → Int) × (Nat → Int) × (Nat → Int) × (Nat → Int)) := (f_X8_settle T_cost T_priced T_settled T_quarrel L_count L_copiedStands L_from L_to L_forms L_costs L_copied T_steps T_pairs T_built T_rest T_beside T_held T_heldPrice T_ways T_early T_late).bind fun x1 => if x1.2.2.2.1 = 0 then (if p2 = 0 then (if zin p1 8 then some ((x1.2.2.2.2.2.2.2.2.2.2.2.2.2.2.1 (Int.toNat p1)), x1.1, x1.2.1, x1.2.2.1, x1.2.2.2.1, x1.2.2.2.2.1, x1.2.2.2.2.2.1, x1.2.2.2.2.2.2.1, x1.2.2.2.2.2.2.2.1, x1.2.2.2.2.2.2.2.2.1, x1.2.2.2.2.2.2.2.2.2.1, x1.2.2.2.2.2.2.2.2.2.2.1, x1.2.2.2.2.2.2.2.2.2.2.2.1, x1.2.2.2.2.2.2.2.2.2.2.2.2.1, x1.2.2.2.2.2.2.2.2.2.2.2.2.2.1, x1.2.2.2.2.2.2.2.2.2.2.2.2.2.2.1, x1.2.2.2.2.2.2.2.2.2.2.2.2.2.2.2) else none) else (if zin p1 8 then some ((x1.2.2.2.2.2.2.2.2.2.2.2.2.2.2.2 (Int.toNat p1)), x1.1, x1.2.1, x1.2.2.1, x1.2.2.2.1, x1.2.2.2.2.1, x1.2.2.2.2.2.1, x1.2.2.2.2.2.2.1, x1.2.2.2.2.2.2.2.1, x1.2.2.2.2.2.2.2.2.1, x1.2.2.2.2.2.2.2.2.2.1, x1.2.2.2.2.2.2.2.2.2.2.1, x1.2.2.2.2.2.2.2.2.2.2.2.1, x1.2.2.2.2.2.2.2.2.2.2.2.2.1, x1.2.2.2.2.2.2.2.2.2.2.2.2.2.1, x1.2.2.2.2.2.2.2.2.2.2.2.2.2.2.1, x1.2.2.2.2.2.2.2.2.2.2.2.2.2.2.2) else none)) else (some ((-1), x1.1, x1.2.1, x1.2.2.1, x1.2.2.2.1, x1.2.2.2.2.1, x1.2.2.2.2.2.1, x1.2.2.2.2.2.2.1, x1.2.2.2.2.2.2.2.1, x1.2.2.2.2.2.2.2.2.1, x1.2.2.2.2.2.2.2.2.2.1, x1.2.2.2.2.2.2.2.2.2.2.1, x1.2.2.2.2.2.2.2.2.2.2.2.1, x1.2.2.2.2.2.2.2.2.2.2.2.2.1, x1.2.2.2.2.2.2.2.2.2.2.2.2.2.1, x1.2.2.2.2.2.2.2.2.2.2.2.2.2.2.1, x1.2.2.2.2.2.2.2.2.2.2.2.2.2.2.2))
def f_X9_date (p1 : Int) (p2 : Int) (L_count : Int) (L_copiedStands : Int) (L_from : Nat → Int) (L_to : Nat → Int) (L_forms : Nat → Int) (L_costs : Nat → Int) (L_copied : Nat → Int) (T_cost : Int) (T_priced : Int) (T_settled : Int) (T_quarrel : Int) (T_steps : Nat → Int) (T_pairs : Nat → Int) (T_built : Nat → Int) (T_rest : Nat → Int) (T_beside : Nat → Int) (T_held : Nat → Int) (T_heldPrice : Nat → Int) (T_ways : Nat → Int) (T_early : Nat → Int) (T_late : Nat → Int) : Option (Int × Int × (Nat → Int) × Int × Int × Int × Int × (Nat → Int) × (Nat → Int) × (Nat → Int) × (Nat → Int) × (Nat → Int) × (Nat → Int) × (Nat → Int) × (Nat → Int) × (Nat → Int) × (Nat → Int)) := (f_X4_has p1 L_count).bind fun x1 => if x1 = 0 then (some ((-2), L_copiedStands, L_copied, T_cost, T_priced, T_settled, T_quarrel, T_steps, T_pairs, T_built, T_rest, T_beside, T_held, T_heldPrice, T_ways, T_early, T_late)) else ((f_X9_within p2 0 1).bind fun x2 => if x2 = 0 then (some ((-2), L_copiedStands, L_copied, T_cost, T_priced, T_settled, T_quarrel, T_steps, T_pairs, T_built, T_rest, T_beside, T_held, T_heldPrice, T_ways, T_early, T_late)) else (if p2 = 1 then ((f_X8_yearOf p1 1 T_cost T_priced T_settled T_quarrel L_count L_copiedStands L_from L_to L_forms L_costs L_copied T_steps T_pairs T_built T_rest T_beside T_held T_heldPrice T_ways T_early T_late).bind fun x3 => some (x3.1, x3.2.2.2.2.2.1, x3.2.2.2.2.2.2.1, x3.2.1, x3.2.2.1, x3.2.2.2.1, x3.2.2.2.2.1, x3.2.2.2.2.2.2.2.1, x3.2.2.2.2.2.2.2.2.1, x3.2.2.2.2.2.2.2.2.2.1, x3.2.2.2.2.2.2.2.2.2.2.1, x3.2.2.2.2.2.2.2.2.2.2.2.1, x3.2.2.2.2.2.2.2.2.2.2.2.2.1, x3.2.2.2.2.2.2.2.2.2.2.2.2.2.1, x3.2.2.2.2.2.2.2.2.2.2.2.2.2.2.1, x3.2.2.2.2.2.2.2.2.2.2.2.2.2.2.2.1, x3.2.2.2.2.2.2.2.2.2.2.2.2.2.2.2.2)) else ((f_X8_yearOf p1 0 T_cost T_priced T_settled T_quarrel L_count L_copiedStands L_from L_to L_forms L_costs L_copied T_steps T_pairs T_built T_rest T_beside T_held T_heldPrice T_ways T_early T_late).bind fun x4 => some (x4.1, x4.2.2.2.2.2.1, x4.2.2.2.2.2.2.1, x4.2.1, x4.2.2.1, x4.2.2.2.1, x4.2.2.2.2.1, x4.2.2.2.2.2.2.2.1, x4.2.2.2.2.2.2.2.2.1, x4.2.2.2.2.2.2.2.2.2.1, x4.2.2.2.2.2.2.2.2.2.2.1, x4.2.2.2.2.2.2.2.2.2.2.2.1, x4.2.2.2.2.2.2.2.2.2.2.2.2.1, x4.2.2.2.2.2.2.2.2.2.2.2.2.2.1, x4.2.2.2.2.2.2.2.2.2.2.2.2.2.2.1, x4.2.2.2.2.2.2.2.2.2.2.2.2.2.2.2.1, x4.2.2.2.2.2.2.2.2.2.2.2.2.2.2.2.2))))
def l_X5_isName_21 : Nat → Int → Int → Int → Option (Int)
  | 0, _, _, _ => none
  | n + 1, v0, v2, v3 => if v3 < v0 then (if (Int.tmod v2 27) = 0 then (some 0) else (if zI (Int.tdiv v2 27) ∧ zI (v3 + 1) then l_X5_isName_21 n v0 (Int.tdiv v2 27) (v3 + 1) else none)) else (if v2 = 0 then (some 1) else (some 0))
def f_X5_isName (p0 : Int) (p1 : Int) : Option (Int) := if p0 < 1 then (some 0) else (if (6 : Int) < p0 then (some 0) else (if p1 < 0 then (some 0) else (l_X5_isName_21 zN p0 p1 0)))
def l_X5_compare_14 : Nat → Int → Int → Int → Int → Int → (Nat → Int) → (Nat → Int) → Option (Nat → Int)
  | 0, _, _, _, _, _, _, _ => none
  | n + 1, v1, v2, v3, v4, v5, N_lengths, N_row => if zin v2 10 then if (N_lengths (Int.toNat v2)) < v5 then (some N_row) else (if zin v5 7 ∧ zI (v5 + 1) then l_X5_compare_14 n v1 v2 v3 v4 (v5 + 1) N_lengths (zu N_row (Int.toNat v5) v5) else none) else none
def l_X5_compare_57 : Nat → Int → Int → Int → Int → Int → Int → (Nat → Int) → (Nat → Int) → (Nat → Int) → Option (Nat → Int)
  | 0, _, _, _, _, _, _, _, _, _ => none
  | n + 1, v1, v2, v3, v4, v5, v6, N_lengths, N_ahead, N_row => if zin v2 10 then if (N_lengths (Int.toNat v2)) < v6 then (some N_ahead) else (if zin v6 7 ∧ zin v6 7 ∧ zI (v6 + 1) then l_X5_compare_57 n v1 v2 v3 v4 v5 (v6 + 1) N_lengths (zu N_ahead (Int.toNat v6) (N_row (Int.toNat v6))) N_row else none) else none
def l_X5_compare_99 : Nat → Int → Int → Int → Int → Int → Int → (Nat → Int) → (Nat → Int) → (Nat → Int) → (Nat → Int) → Option (Nat → Int)
  | 0, _, _, _, _, _, _, _, _, _, _ => none
  | n + 1, v1, v2, v3, v4, v5, v6, N_lengths, N_digits, N_ahead, N_row => if zin v2 10 then if (N_lengths (Int.toNat v2)) < v6 then (some N_row) else (if zin ((v3 + v5) - 1) 60 ∧ zin ((v4 + v6) - 1) 60 then if (N_digits (Int.toNat ((v3 + v5) - 1))) = (N_digits (Int.toNat ((v4 + v6) - 1))) then (if zin v6 7 ∧ zin (v6 - 1) 7 ∧ zI ((min (N_ahead (Int.toNat v6)) (N_row (Int.toNat (v6 - 1)))) + 1) then if zin (v6 - 1) 7 ∧ zI ((N_ahead (Int.toNat (v6 - 1))) + 0) ∧ zin v6 7 then if zI (v6 + 1) then l_X5_compare_99 n v1 v2 v3 v4 v5 (v6 + 1) N_lengths N_digits N_ahead (zu N_row (Int.toNat v6) (min ((min (N_ahead (Int.toNat v6)) (N_row (Int.toNat (v6 - 1)))) + 1) ((N_ahead (Int.toNat (v6 - 1))) + 0))) else none else none else none) else (if zin v6 7 ∧ zin (v6 - 1) 7 ∧ zI ((min (N_ahead (Int.toNat v6)) (N_row (Int.toNat (v6 - 1)))) + 1) then if zin (v6 - 1) 7 ∧ zI ((N_ahead (Int.toNat (v6 - 1))) + 1) ∧ zin v6 7 then if zI (v6 + 1) then l_X5_compare_99 n v1 v2 v3 v4 v5 (v6 + 1) N_lengths N_digits N_ahead (zu N_row (Int.toNat v6) (min ((min (N_ahead (Int.toNat v6)) (N_row (Int.toNat (v6 - 1)))) + 1) ((N_ahead (Int.toNat (v6 - 1))) + 1))) else none else none else none) else none) else none
def l_X5_compare_43 : Nat → Int → Int → Int → Int → Int → (Nat → Int) → (Nat → Int) → (Nat → Int) → (Nat → Int) → Option ((Nat → Int) × (Nat → Int))
  | 0, _, _, _, _, _, _, _, _, _ => none
  | n + 1, v1, v2, v3, v4, v5, N_lengths, N_digits, N_ahead, N_row => if zin v1 10 then if (N_lengths (Int.toNat v1)) < v5 then (some (N_ahead, N_row)) else ((l_X5_compare_57 zN v1 v2 v3 v4 v5 0 N_lengths N_ahead N_row).bind fun x8 => (l_X5_compare_99 zN v1 v2 v3 v4 v5 1 N_lengths N_digits x8 (zu N_row (Int.toNat 0) v5)).bind fun x17 => if zI (v5 + 1) then l_X5_compare_43 n v1 v2 v3 v4 (v5 + 1) N_lengths N_digits x8 x17 else none) else none
def f_X5_compare (p1 : Int) (p2 : Int) (N_lengths : Nat → Int) (N_digits : Nat → Int) (N_ahead : Nat → Int) (N_row : Nat → Int) : Option (Int × (Nat → Int) × (Nat → Int)) := if zI (p1 * 6) ∧ zI (p2 * 6) then (l_X5_compare_14 zN p1 p2 (p1 * 6) (p2 * 6) 0 N_lengths N_row).bind fun x4 => (l_X5_compare_43 zN p1 p2 (p1 * 6) (p2 * 6) 1 N_lengths N_digits N_ahead x4).bind fun x19 => if zin p2 10 ∧ zin (N_lengths (Int.toNat p2)) 7 then some ((x19.2 (Int.toNat (N_lengths (Int.toNat p2)))), x19.1, x19.2) else none else none
def l_X5_add_50 : Nat → Int → Int → Int → (Nat → Int) → Option (Nat → Int)
  | 0, _, _, _, _ => none
  | n + 1, v3, v4, N_count, N_digits => if v4 < 0 then (some N_digits) else (if zin ((N_count * 6) + v4) 60 then if zI (Int.tdiv v3 27) ∧ zI (v4 + (-1)) then l_X5_add_50 n (Int.tdiv v3 27) (v4 + (-1)) N_count (zu N_digits (Int.toNat ((N_count * 6) + v4)) (Int.tmod v3 27)) else none else none)
def l_X5_add_88 : Nat → Int → Int → (Nat → Int) → (Nat → Int) → (Nat → Int) → (Nat → Int) → (Nat → Int) → Option ((Nat → Int) × (Nat → Int) × (Nat → Int))
  | 0, _, _, _, _, _, _, _ => none
  | n + 1, v4, N_count, N_lengths, N_digits, N_slipped, N_ahead, N_row => if v4 < N_count then ((f_X5_compare N_count v4 N_lengths N_digits N_ahead N_row).bind fun x6 => if zin ((N_count * 10) + v4) 100 then if zin ((v4 * 10) + N_count) 100 then if zI (v4 + 1) then l_X5_add_88 n (v4 + 1) N_count N_lengths N_digits (zu (zu N_slipped (Int.toNat ((N_count * 10) + v4)) x6.1) (Int.toNat ((v4 * 10) + N_count)) x6.1) x6.2.1 x6.2.2 else none else none else none) else (some (N_slipped, N_ahead, N_row))
def f_X5_add (p1 : Int) (p2 : Int) (N_count : Int) (N_lengths : Nat → Int) (N_told : Nat → Int) (N_digits : Nat → Int) (N_slipped : Nat → Int) (N_ahead : Nat → Int) (N_row : Nat → Int) : Option (Int × Int × (Nat → Int) × (Nat → Int) × (Nat → Int) × (Nat → Int) × (Nat → Int) × (Nat → Int)) := if N_count < 10 then (if p1 < 1 then (some ((-4), N_count, N_lengths, N_told, N_digits, N_slipped, N_ahead, N_row)) else (if (6 : Int) < p1 then (some ((-4), N_count, N_lengths, N_told, N_digits, N_slipped, N_ahead, N_row)) else (if zin N_count 10 ∧ zin N_count 10 then if zI (p1 - 1) then (l_X5_add_50 zN p2 (p1 - 1) N_count N_digits).bind fun x5 => (l_X5_add_88 zN 0 N_count (zu N_lengths (Int.toNat N_count) p1) x5 N_slipped N_ahead N_row).bind fun x10 => if zI (N_count + 1) ∧ zI ((N_count + 1) - 1) then some (((N_count + 1) - 1), (N_count + 1), (zu N_lengths (Int.toNat N_count) p1), (zu N_told (Int.toNat N_count) p2), x5, x10.1, x10.2.1, x10.2.2) else none else none else none))) else (some ((-4), N_count, N_lengths, N_told, N_digits, N_slipped, N_ahead, N_row))
def f_X9_name (p1 : Int) (p2 : Int) (N_count : Int) (N_lengths : Nat → Int) (N_told : Nat → Int) (N_digits : Nat → Int) (N_slipped : Nat → Int) (N_ahead : Nat → Int) (N_row : Nat → Int) : Option (Int × Int × (Nat → Int) × (Nat → Int) × (Nat → Int) × (Nat → Int) × (Nat → Int) × (Nat → Int)) := (f_X5_isName p1 p2).bind fun x1 => if x1 = 0 then (some ((-2), N_count, N_lengths, N_told, N_digits, N_slipped, N_ahead, N_row)) else (if N_count < 10 then ((f_X5_add p1 p2 N_count N_lengths N_told N_digits N_slipped N_ahead N_row).bind fun x2 => some (x2.1, x2.2.1, x2.2.2.1, x2.2.2.2.1, x2.2.2.2.2.1, x2.2.2.2.2.2.1, x2.2.2.2.2.2.2.1, x2.2.2.2.2.2.2.2)) else (some ((-4), N_count, N_lengths, N_told, N_digits, N_slipped, N_ahead, N_row)))
def f_X5_has (p1 : Int) (N_count : Int) : Option (Int) := if p1 < 0 then (some 0) else (if p1 < N_count then (some 1) else (some 0))
def f_X5_slipsBetween (p1 : Int) (p2 : Int) (N_slipped : Nat → Int) : Option (Int) := if zin ((p1 * 10) + p2) 100 then some (N_slipped (Int.toNat ((p1 * 10) + p2))) else none
def f_X9_slips (p1 : Int) (p2 : Int) (N_count : Int) (N_slipped : Nat → Int) : Option (Int) := (f_X5_has p1 N_count).bind fun x1 => if x1 = 0 then (some (-2)) else ((f_X5_has p2 N_count).bind fun x2 => if x2 = 0 then (some (-2)) else ((f_X5_slipsBetween p1 p2 N_slipped).bind fun x3 => some x3))
def f_X5_weightOfStep (p1 : Int) (p2 : Int) (N_slipped : Nat → Int) : Option (Int) := if zin ((p1 * 10) + p2) 100 then if zI ((((N_slipped (Int.toNat ((p1 * 10) + p2))) * (N_slipped (Int.toNat ((p1 * 10) + p2)))) * 16) + 1) then some ((((N_slipped (Int.toNat ((p1 * 10) + p2))) * (N_slipped (Int.toNat ((p1 * 10) + p2)))) * 16) + 1) else none else none
def l_X5_weighTo_2 : Nat → Int → Int → Int → (Nat → Int) → (Nat → Int) → Option (Nat → Int)
  | 0, _, _, _, _, _ => none
  | n + 1, v1, v2, N_count, N_slipped, N_weights => if v2 < N_count then (if v2 = v1 then (if zin v2 10 ∧ zI (v2 + 1) then l_X5_weighTo_2 n v1 (v2 + 1) N_count N_slipped (zu N_weights (Int.toNat v2) 0) else none) else ((f_X5_weightOfStep v2 v1 N_slipped).bind fun x2 => if zin v2 10 ∧ zI (v2 + 1) then l_X5_weighTo_2 n v1 (v2 + 1) N_count N_slipped (zu N_weights (Int.toNat v2) x2) else none)) else (some N_weights)
def l_X5_weighTo_60 : Nat → Int → Int → Int → Int → (Nat → Int) → (Nat → Int) → Option (Nat → Int)
  | 0, _, _, _, _, _, _ => none
  | n + 1, v2, v3, v4, N_count, N_slipped, N_weights => if v4 < N_count then (if zin v3 10 then (f_X5_weightOfStep v3 v4 N_slipped).bind fun x5 => if zin v4 10 ∧ zI (x5 + (N_weights (Int.toNat v4))) ∧ zin v3 10 ∧ zI (v4 + 1) then l_X5_weighTo_60 n v2 v3 (v4 + 1) N_count N_slipped (zu N_weights (Int.toNat v3) (min (N_weights (Int.toNat v3)) (x5 + (N_weights (Int.toNat v4))))) else none else none) else (some N_weights)
def l_X5_weighTo_49 : Nat → Int → Int → Int → (Nat → Int) → (Nat → Int) → Option (Nat → Int)
  | 0, _, _, _, _, _ => none
  | n + 1, v2, v3, N_count, N_slipped, N_weights => if v3 < N_count then ((l_X5_weighTo_60 zN v2 v3 0 N_count N_slipped N_weights).bind fun x8 => if zI (v3 + 1) then l_X5_weighTo_49 n v2 (v3 + 1) N_count N_slipped x8 else none) else (some N_weights)
def l_X5_weighTo_39 : Nat → Int → Int → (Nat → Int) → (Nat → Int) → Option (Nat → Int)
  | 0, _, _, _, _ => none
  | n + 1, v2, N_count, N_slipped, N_weights => if v2 < N_count then ((l_X5_weighTo_49 zN v2 0 N_count N_slipped N_weights).bind fun x10 => if zI (v2 + 1) then l_X5_weighTo_39 n (v2 + 1) N_count N_slipped x10 else none) else (some N_weights)
def f_X5_weighTo (p1 : Int) (N_count : Int) (N_slipped : Nat → Int) (N_weights : Nat → Int) : Option (Nat → Int) := (l_X5_weighTo_2 zN p1 0 N_count N_slipped N_weights).bind fun x4 => (l_X5_weighTo_39 zN 0 N_count N_slipped x4).bind fun x12 => some x12
def f_X5_wornCost (p1 : Int) (p2 : Int) (N_count : Int) (N_slipped : Nat → Int) (N_weights : Nat → Int) : Option (Int × (Nat → Int)) := (f_X5_weighTo p2 N_count N_slipped N_weights).bind fun x1 => if zin p1 10 ∧ zI (Int.tdiv (x1 (Int.toNat p1)) 16) then some ((Int.tdiv (x1 (Int.toNat p1)) 16), x1) else none
def l_X5_nextFrom_2 : Nat → Int → Int → Int → (Nat → Int) → (Nat → Int) → Option (Int)
  | 0, _, _, _, _, _ => none
  | n + 1, v1, v2, N_count, N_slipped, N_weights => if v2 < N_count then ((f_X5_weightOfStep v1 v2 N_slipped).bind fun x1 => if zin v2 10 ∧ zin v1 10 ∧ zI (x1 + (N_weights (Int.toNat v2))) then if (x1 + (N_weights (Int.toNat v2))) = (N_weights (Int.toNat v1)) then (some v2) else (if zI (v2 + 1) then l_X5_nextFrom_2 n v1 (v2 + 1) N_count N_slipped N_weights else none) else none) else (some (-1))
def f_X5_nextFrom (p1 : Int) (N_count : Int) (N_slipped : Nat → Int) (N_weights : Nat → Int) : Option (Int) := l_X5_nextFrom_2 zN p1 0 N_count N_slipped N_weights
def l_X5_wornName_11 : Nat → Int → Int → Int → Int → (Nat → Int) → (Nat → Int) → Option (Int × (Nat → Int))
  | 0, _, _, _, _, _, _ => none
  | n + 1, v3, v4, v5, N_count, N_slipped, N_weights => if v5 < v3 then (if v5 < 10 then ((f_X5_nextFrom v4 N_count N_slipped N_weights).bind fun x2 => if x2 = (-1) then (some ((-5), N_weights)) else (if zI (v5 + 1) then l_X5_wornName_11 n v3 x2 (v5 + 1) N_count N_slipped N_weights else none)) else (some (v4, N_weights))) else (some (v4, N_weights))
def f_X5_wornName (p1 : Int) (p2 : Int) (p3 : Int) (N_count : Int) (N_slipped : Nat → Int) (N_weights : Nat → Int) : Option (Int × (Nat → Int)) := (f_X5_weighTo p2 N_count N_slipped N_weights).bind fun x1 => l_X5_wornName_11 zN p3 p1 0 N_count N_slipped x1
def f_X9_worn (p1 : Int) (p2 : Int) (p3 : Int) (N_count : Int) (N_slipped : Nat → Int) (N_weights : Nat → Int) : Option (Int × (Nat → Int)) := (f_X5_has p1 N_count).bind fun x1 => if x1 = 0 then (some ((-10), N_weights)) else ((f_X5_has p2 N_count).bind fun x2 => if x2 = 0 then (some ((-10), N_weights)) else (if p3 < (-1) then (some ((-10), N_weights)) else (if p3 = (-1) then ((f_X5_wornCost p1 p2 N_count N_slipped N_weights).bind fun x3 => some (x3.1, x3.2)) else ((f_X5_wornName p1 p2 p3 N_count N_slipped N_weights).bind fun x4 => some (x4.1, x4.2)))))
def f_X3_tell (p1 : Int) (p2 : Int) (H_weights : Nat → Int) : Option (Int × (Nat → Int)) := if zin p1 10 ∧ zin p1 10 then some ((H_weights (Int.toNat p1)), (zu H_weights (Int.toNat p1) p2)) else none
def f_X9_habit (p1 : Int) (p2 : Int) (H_weights : Nat → Int) : Option (Int × (Nat → Int)) := (f_X9_within p1 0 9).bind fun x1 => if x1 = 0 then (some ((-2), H_weights)) else ((f_X9_within p2 0 100).bind fun x2 => if x2 = 0 then (some ((-2), H_weights)) else ((f_X3_tell p1 p2 H_weights).bind fun x3 => some (x3.1, x3.2)))
def l_X3_sumOfWeights_4 : Nat → Int → Int → (Nat → Int) → Option (Int)
  | 0, _, _, _ => none
  | n + 1, v1, v2, H_weights => if (9 : Int) < v2 then (some v1) else (if zin v2 10 ∧ zI (v1 + (H_weights (Int.toNat v2))) ∧ zI (v2 + 1) then l_X3_sumOfWeights_4 n (v1 + (H_weights (Int.toNat v2))) (v2 + 1) H_weights else none)
def f_X3_sumOfWeights (H_weights : Nat → Int) : Option (Int) := (l_X3_sumOfWeights_4 zN 0 0 H_weights).bind fun x2 => some x2
def l_X3_sumOfCopies_4 : Nat → Int → Int → (Nat → Int) → Option (Int)
  | 0, _, _, _ => none
  | n + 1, v1, v2, H_weights => if (9 : Int) < v2 then (some v1) else (if zin v2 10 ∧ zI (v1 + (v2 * (H_weights (Int.toNat v2)))) then if zI (v2 + 1) then l_X3_sumOfCopies_4 n (v1 + (v2 * (H_weights (Int.toNat v2)))) (v2 + 1) H_weights else none else none)
def f_X3_sumOfCopies (H_weights : Nat → Int) : Option (Int) := (l_X3_sumOfCopies_4 zN 0 0 H_weights).bind fun x3 => some x3
def f_X9_lives (H_weights : Nat → Int) : Option (Int) := (f_X3_sumOfWeights H_weights).bind fun x1 => (f_X3_sumOfCopies H_weights).bind fun x2 => if x1 = 0 then (some 0) else (if x2 < x1 then (some 0) else (if x1 < x2 then (some 2) else (some 1)))
def l_X2_shared_9 : Nat → Int → Int → Int → Option (Int)
  | 0, _, _, _ => none
  | n + 1, v4, v6, v8 => if v8 < 100 then (if (zlc v6 0) = 0 then (some v4) else (if v6 ≠ 0 ∧ zI (v8 + 1) then l_X2_shared_9 n v6 (Int.tmod v4 v6) (v8 + 1) else none)) else (some v4)
def f_X2_shared (p0 : Int) (p2 : Int) : Option (Int) := (l_X2_shared_9 zN p0 p2 0).bind fun x2 => some x2
def f_X2_become (p1 : Int) (p3 : Int) (Fa_size : Int) (Fa_digits : Nat → Int) (Fb_size : Int) (Fb_digits : Nat → Int) : Option (Int × (Nat → Int) × Int × (Nat → Int)) := (f_X2_shared p1 p3).bind fun x1 => if (zlc x1 0) = 0 then (some (Fa_size, Fa_digits, Fb_size, Fb_digits)) else (if (zlc p3 0) = 0 then (some (Fa_size, Fa_digits, Fb_size, Fb_digits)) else (if x1 ≠ 0 ∧ zJ (Int.tdiv p1 x1) then (f_X6_become (Int.tdiv p1 x1) Fa_size Fa_digits).bind fun x2 => if x1 ≠ 0 ∧ zJ (Int.tdiv p3 x1) then (f_X6_become (Int.tdiv p3 x1) Fb_size Fb_digits).bind fun x4 => some (x2.1, x2.2, x4.1, x4.2) else none else none))
def f_X9_mean (H_weights : Nat → Int) (Fa_size : Int) (Fa_digits : Nat → Int) (Fb_size : Int) (Fb_digits : Nat → Int) : Option (Int × Int × (Nat → Int) × Int × (Nat → Int)) := (f_X3_sumOfWeights H_weights).bind fun x1 => if x1 = 0 then (some ((-3), Fa_size, Fa_digits, Fb_size, Fb_digits)) else ((f_X3_sumOfCopies H_weights).bind fun x2 => (f_X2_become x2 x1 Fa_size Fa_digits Fb_size Fb_digits).bind fun x3 => some (1, x3.1, x3.2.1, x3.2.2.1, x3.2.2.2))
def l_X6_multiply_2 : Nat → Int → (Nat → Int) → Option (Nat → Int)
  | 0, _, _ => none
  | n + 1, v3, d0 => if v3 < 40 then (if zin v3 40 ∧ zI (v3 + 1) then l_X6_multiply_2 n (v3 + 1) (zu d0 (Int.toNat v3) 0) else none) else (some d0)
def l_X6_multiply_43 : Nat → Int → Int → Int → (Nat → Int) → (Nat → Int) → Int → (Nat → Int) → Option (Nat → Int)
  | 0, _, _, _, _, _, _, _ => none
  | n + 1, v3, v4, v6, d0, d1, s2, d2 => if s2 < v6 then (some d0) else (if zI (v3 + v6) then if (v3 + v6) < 40 then (if v6 < s2 then (if zin v3 40 ∧ zin v6 40 then if zJ ((d1 (Int.toNat v3)) * (d2 (Int.toNat v6))) ∧ zin (v3 + v6) 40 ∧ zJ ((((d1 (Int.toNat v3)) * (d2 (Int.toNat v6))) + (d0 (Int.toNat (v3 + v6)))) + v4) then if zin (v3 + v6) 40 ∧ zI (zandl ((((d1 (Int.toNat v3)) * (d2 (Int.toNat v6))) + (d0 (Int.toNat (v3 + v6)))) + v4) 1073741823) then if zI (v6 + 1) then l_X6_multiply_43 n v3 (zushrl ((((d1 (Int.toNat v3)) * (d2 (Int.toNat v6))) + (d0 (Int.toNat (v3 + v6)))) + v4) 30) (v6 + 1) (zu d0 (Int.toNat (v3 + v6)) (zandl ((((d1 (Int.toNat v3)) * (d2 (Int.toNat v6))) + (d0 (Int.toNat (v3 + v6)))) + v4) 1073741823)) d1 s2 d2 else none else none else none else none) else (if zin (v3 + v6) 40 ∧ zJ ((0 + (d0 (Int.toNat (v3 + v6)))) + v4) then if zin (v3 + v6) 40 ∧ zI (zandl ((0 + (d0 (Int.toNat (v3 + v6)))) + v4) 1073741823) then if zI (v6 + 1) then l_X6_multiply_43 n v3 (zushrl ((0 + (d0 (Int.toNat (v3 + v6)))) + v4) 30) (v6 + 1) (zu d0 (Int.toNat (v3 + v6)) (zandl ((0 + (d0 (Int.toNat (v3 + v6)))) + v4) 1073741823)) d1 s2 d2 else none else none else none)) else (some d0) else none)
def l_X6_multiply_23 : Nat → Int → (Nat → Int) → Int → (Nat → Int) → Int → (Nat → Int) → Option (Nat → Int)
  | 0, _, _, _, _, _, _ => none
  | n + 1, v3, d0, s1, d1, s2, d2 => if v3 < s1 then (if v3 < 40 then ((l_X6_multiply_43 zN v3 0 0 d0 d1 s2 d2).bind fun x11 => if zI (v3 + 1) then l_X6_multiply_23 n (v3 + 1) x11 s1 d1 s2 d2 else none) else (some d0)) else (some d0)
def f_X6_multiply (s0 : Int) (d0 : Nat → Int) (s1 : Int) (d1 : Nat → Int) (s2 : Int) (d2 : Nat → Int) : Option (Int × (Nat → Int)) := (l_X6_multiply_2 zN 0 d0).bind fun x2 => (l_X6_multiply_23 zN 0 x2 s1 d1 s2 d2).bind fun x13 => (f_X6_trim s0 x13).bind fun x14 => some (x14, x13)
def l_X6_take_2 : Nat → Int → (Nat → Int) → (Nat → Int) → Option (Nat → Int)
  | 0, _, _, _ => none
  | n + 1, v2, d0, d1 => if v2 < 40 then (if zin v2 40 ∧ zin v2 40 ∧ zI (v2 + 1) then l_X6_take_2 n (v2 + 1) (zu d0 (Int.toNat v2) (d1 (Int.toNat v2))) d1 else none) else (some d0)
def f_X6_take (s0 : Int) (d0 : Nat → Int) (s1 : Int) (d1 : Nat → Int) : Option (Int × (Nat → Int)) := (l_X6_take_2 zN 0 d0 d1).bind fun x2 => some (s1, x2)
def l_X6_addTimes_5 : Nat → Int → Int → Int → (Nat → Int) → (Nat → Int) → Option (Nat → Int)
  | 0, _, _, _, _, _ => none
  | n + 1, v2, v3, v5, d0, d1 => if v5 < 40 then (if zin v5 40 ∧ zin v5 40 ∧ zJ ((((d1 (Int.toNat v5)) * v2) + (d0 (Int.toNat v5))) + v3) then if zin v5 40 ∧ zI (zandl ((((d1 (Int.toNat v5)) * v2) + (d0 (Int.toNat v5))) + v3) 1073741823) then if zI (v5 + 1) then l_X6_addTimes_5 n v2 (zushrl ((((d1 (Int.toNat v5)) * v2) + (d0 (Int.toNat v5))) + v3) 30) (v5 + 1) (zu d0 (Int.toNat v5) (zandl ((((d1 (Int.toNat v5)) * v2) + (d0 (Int.toNat v5))) + v3) 1073741823)) d1 else none else none else none) else (some d0)
def f_X6_addTimes (p2 : Int) (s0 : Int) (d0 : Nat → Int) (d1 : Nat → Int) : Option (Int × (Nat → Int)) := (l_X6_addTimes_5 zN p2 0 0 d0 d1).bind fun x4 => (f_X6_trim s0 x4).bind fun x5 => some (x5, x4)
def l_X3_goRound_26 : Nat → Int → Int → (Nat → Int) → Int → (Nat → Int) → Int → (Nat → Int) → Int → (Nat → Int) → Int → (Nat → Int) → Int → (Nat → Int) → Option (Int × (Nat → Int) × Int × (Nat → Int) × Int × (Nat → Int))
  | 0, _, _, _, _, _, _, _, _, _, _, _, _, _ => none
  | n + 1, v1, v2, H_weights, Ha_size, Ha_digits, Hb_size, Hb_digits, Hs_size, Hs_digits, Hp_size, Hp_digits, Hq_size, Hq_digits => if v2 < 0 then (some (Hs_size, Hs_digits, Hp_size, Hp_digits, Hq_size, Hq_digits)) else ((f_X6_multiply Hq_size Hq_digits Hs_size Hs_digits Ha_size Ha_digits).bind fun x3 => (f_X6_take Hs_size Hs_digits x3.1 x3.2).bind fun x4 => (f_X6_multiply x3.1 x3.2 Hp_size Hp_digits Hb_size Hb_digits).bind fun x5 => (f_X6_take Hp_size Hp_digits x5.1 x5.2).bind fun x6 => if zin v2 10 then (f_X6_addTimes (H_weights (Int.toNat v2)) x4.1 x4.2 x6.2).bind fun x7 => if zI (v2 + (-1)) then l_X3_goRound_26 n v1 (v2 + (-1)) H_weights Ha_size Ha_digits Hb_size Hb_digits x7.1 x7.2 x6.1 x6.2 x5.1 x5.2 else none else none)
def f_X3_goRound (p1 : Int) (H_weights : Nat → Int) (Ha_size : Int) (Ha_digits : Nat → Int) (Hb_size : Int) (Hb_digits : Nat → Int) (Hs_size : Int) (Hs_digits : Nat → Int) (Hp_size : Int) (Hp_digits : Nat → Int) (Hq_size : Int) (Hq_digits : Nat → Int) : Option (Int × (Nat → Int) × Int × (Nat → Int) × Int × (Nat → Int) × Int × (Nat → Int) × Int × (Nat → Int)) := (f_X6_become (H_weights (Int.toNat 9)) Hs_size Hs_digits).bind fun x1 => (f_X6_become 1 Hp_size Hp_digits).bind fun x2 => (l_X3_goRound_26 zN p1 8 H_weights Ha_size Ha_digits Hb_size Hb_digits x1.1 x1.2 x2.1 x2.2 Hq_size Hq_digits).bind fun x10 => (f_X6_take Ha_size Ha_digits x10.1 x10.2.1).bind fun x11 => (f_X6_become p1 x10.2.2.2.2.1 x10.2.2.2.2.2).bind fun x12 => (f_X6_multiply Hb_size Hb_digits x10.2.2.1 x10.2.2.2.1 x12.1 x12.2).bind fun x13 => some (x11.1, x11.2, x13.1, x13.2, x10.1, x10.2.1, x10.2.2.1, x10.2.2.2.1, x12.1, x12.2)
def l_X6_leftOver_21 : Nat → Int → Int → Int → (Nat → Int) → Option (Int)
  | 0, _, _, _, _ => none
  | n + 1, v1, v2, v4, d0 => if v4 < 0 then (some v2) else (if zin v4 40 ∧ v1 ≠ 0 then if zI (v4 + (-1)) then l_X6_leftOver_21 n v1 (Int.tmod (zorl (zshll v2 30) (d0 (Int.toNat v4))) v1) (v4 + (-1)) d0 else none else none)
def f_X6_leftOver (p1 : Int) (s0 : Int) (d0 : Nat → Int) : Option (Int) := if (0 : Int) < p1 then (if zI ((min s0 40) - 1) then (l_X6_leftOver_21 zN p1 0 ((min s0 40) - 1) d0).bind fun x4 => if zI x4 then some x4 else none else none) else (some 0)
def l_X6_divide_20 : Nat → Int → Int → Int → (Nat → Int) → Option (Nat → Int)
  | 0, _, _, _, _ => none
  | n + 1, v1, v2, v4, d0 => if v4 < 0 then (some d0) else (if zin v4 40 then if v1 ≠ 0 ∧ zin v4 40 ∧ zI (Int.tdiv (zorl (zshll v2 30) (d0 (Int.toNat v4))) v1) then if v1 ≠ 0 ∧ zI (v4 + (-1)) then l_X6_divide_20 n v1 (Int.tmod (zorl (zshll v2 30) (d0 (Int.toNat v4))) v1) (v4 + (-1)) (zu d0 (Int.toNat v4) (Int.tdiv (zorl (zshll v2 30) (d0 (Int.toNat v4))) v1)) else none else none else none)
def f_X6_divide (p1 : Int) (s0 : Int) (d0 : Nat → Int) : Option (Int × (Nat → Int)) := if (0 : Int) < p1 then (if zI ((min s0 40) - 1) then (l_X6_divide_20 zN p1 0 ((min s0 40) - 1) d0).bind fun x5 => (f_X6_trim s0 x5).bind fun x6 => some (x6, x5) else none) else (some (s0, d0))
def l_X3_reduce_21 : Nat → Int → Int → Int → (Nat → Int) → Int → (Nat → Int) → Option (Int × (Nat → Int) × Int × (Nat → Int))
  | 0, _, _, _, _, _, _ => none
  | n + 1, v1, v2, Ha_size, Ha_digits, Hb_size, Hb_digits => if v2 < 10000 then ((f_X6_leftOver v1 Ha_size Ha_digits).bind fun x2 => (f_X6_leftOver v1 Hb_size Hb_digits).bind fun x3 => (f_X2_shared x2 x3).bind fun x4 => (f_X2_shared x4 v1).bind fun x5 => if zI x5 then if (1 : Int) < x5 then ((f_X6_divide x5 Ha_size Ha_digits).bind fun x7 => (f_X6_divide x5 Hb_size Hb_digits).bind fun x8 => if zI (v2 + 1) then l_X3_reduce_21 n v1 (v2 + 1) x7.1 x7.2 x8.1 x8.2 else none) else (some (Ha_size, Ha_digits, Hb_size, Hb_digits)) else none) else (some (Ha_size, Ha_digits, Hb_size, Hb_digits))
def f_X3_reduce (p1 : Int) (Ha_size : Int) (Ha_digits : Nat → Int) (Hb_size : Int) (Hb_digits : Nat → Int) : Option (Int × (Nat → Int) × Int × (Nat → Int)) := if Ha_size = 0 then ((f_X6_become 1 Hb_size Hb_digits).bind fun x1 => some (Ha_size, Ha_digits, x1.1, x1.2)) else (l_X3_reduce_21 zN p1 0 Ha_size Ha_digits Hb_size Hb_digits)
def f_X2_take (Fa_size : Int) (Fa_digits : Nat → Int) (Fb_size : Int) (Fb_digits : Nat → Int) (Ha_size : Int) (Ha_digits : Nat → Int) (Hb_size : Int) (Hb_digits : Nat → Int) : Option (Int × (Nat → Int) × Int × (Nat → Int)) := (f_X6_take Fa_size Fa_digits Ha_size Ha_digits).bind fun x1 => (f_X6_take Fb_size Fb_digits Hb_size Hb_digits).bind fun x2 => some (x1.1, x1.2, x2.1, x2.2)
def l_X3_chanceGone_24 : Nat → Int → Int → Int → (Nat → Int) → Int → (Nat → Int) → Int → (Nat → Int) → Int → (Nat → Int) → Int → (Nat → Int) → Int → (Nat → Int) → Option (Int × (Nat → Int) × Int × (Nat → Int) × Int × (Nat → Int) × Int × (Nat → Int) × Int × (Nat → Int))
  | 0, _, _, _, _, _, _, _, _, _, _, _, _, _, _ => none
  | n + 1, v1, v3, v4, H_weights, Ha_size, Ha_digits, Hb_size, Hb_digits, Hs_size, Hs_digits, Hp_size, Hp_digits, Hq_size, Hq_digits => if v4 < v1 then ((f_X3_goRound v3 H_weights Ha_size Ha_digits Hb_size Hb_digits Hs_size Hs_digits Hp_size Hp_digits Hq_size Hq_digits).bind fun x4 => (f_X3_reduce v3 x4.1 x4.2.1 x4.2.2.1 x4.2.2.2.1).bind fun x5 => if zI (v4 + 1) then l_X3_chanceGone_24 n v1 v3 (v4 + 1) H_weights x5.1 x5.2.1 x5.2.2.1 x5.2.2.2 x4.2.2.2.2.1 x4.2.2.2.2.2.1 x4.2.2.2.2.2.2.1 x4.2.2.2.2.2.2.2.1 x4.2.2.2.2.2.2.2.2.1 x4.2.2.2.2.2.2.2.2.2 else none) else (some (Ha_size, Ha_digits, Hb_size, Hb_digits, Hs_size, Hs_digits, Hp_size, Hp_digits, Hq_size, Hq_digits))
def f_X3_chanceGone (p1 : Int) (H_weights : Nat → Int) (Ha_size : Int) (Ha_digits : Nat → Int) (Hb_size : Int) (Hb_digits : Nat → Int) (Hs_size : Int) (Hs_digits : Nat → Int) (Hp_size : Int) (Hp_digits : Nat → Int) (Hq_size : Int) (Hq_digits : Nat → Int) (Fa_size : Int) (Fa_digits : Nat → Int) (Fb_size : Int) (Fb_digits : Nat → Int) : Option (Int × (Nat → Int) × Int × (Nat → Int) × Int × (Nat → Int) × Int × (Nat → Int) × Int × (Nat → Int) × Int × (Nat → Int) × Int × (Nat → Int)) := (f_X3_sumOfWeights H_weights).bind fun x1 => (f_X6_become 0 Ha_size Ha_digits).bind fun x2 => (f_X6_become 1 Hb_size Hb_digits).bind fun x3 => (l_X3_chanceGone_24 zN p1 x1 0 H_weights x2.1 x2.2 x3.1 x3.2 Hs_size Hs_digits Hp_size Hp_digits Hq_size Hq_digits).bind fun x7 => (f_X2_take Fa_size Fa_digits Fb_size Fb_digits x7.1 x7.2.1 x7.2.2.1 x7.2.2.2.1).bind fun x8 => some (x7.1, x7.2.1, x7.2.2.1, x7.2.2.2.1, x7.2.2.2.2.1, x7.2.2.2.2.2.1, x7.2.2.2.2.2.2.1, x7.2.2.2.2.2.2.2.1, x7.2.2.2.2.2.2.2.2.1, x7.2.2.2.2.2.2.2.2.2, x8.1, x8.2.1, x8.2.2.1, x8.2.2.2)
def f_X9_gone (p1 : Int) (H_weights : Nat → Int) (Ha_size : Int) (Ha_digits : Nat → Int) (Hb_size : Int) (Hb_digits : Nat → Int) (Hs_size : Int) (Hs_digits : Nat → Int) (Hp_size : Int) (Hp_digits : Nat → Int) (Hq_size : Int) (Hq_digits : Nat → Int) (Fa_size : Int) (Fa_digits : Nat → Int) (Fb_size : Int) (Fb_digits : Nat → Int) : Option (Int × Int × (Nat → Int) × Int × (Nat → Int) × Int × (Nat → Int) × Int × (Nat → Int) × Int × (Nat → Int) × Int × (Nat → Int) × Int × (Nat → Int)) := (f_X9_within p1 0 3).bind fun x1 => if x1 = 0 then (some ((-2), Ha_size, Ha_digits, Hb_size, Hb_digits, Hs_size, Hs_digits, Hp_size, Hp_digits, Hq_size, Hq_digits, Fa_size, Fa_digits, Fb_size, Fb_digits)) else ((f_X3_sumOfWeights H_weights).bind fun x2 => if x2 = 0 then (some ((-3), Ha_size, Ha_digits, Hb_size, Hb_digits, Hs_size, Hs_digits, Hp_size, Hp_digits, Hq_size, Hq_digits, Fa_size, Fa_digits, Fb_size, Fb_digits)) else ((f_X3_chanceGone p1 H_weights Ha_size Ha_digits Hb_size Hb_digits Hs_size Hs_digits Hp_size Hp_digits Hq_size Hq_digits Fa_size Fa_digits Fb_size Fb_digits).bind fun x3 => some (1, x3.1, x3.2.1, x3.2.2.1, x3.2.2.2.1, x3.2.2.2.2.1, x3.2.2.2.2.2.1, x3.2.2.2.2.2.2.1, x3.2.2.2.2.2.2.2.1, x3.2.2.2.2.2.2.2.2.1, x3.2.2.2.2.2.2.2.2.2.1, x3.2.2.2.2.2.2.2.2.2.2.1, x3.2.2.2.2.2.2.2.2.2.2.2.1, x3.2.2.2.2.2.2.2.2.2.2.2.2.1, x3.2.2.2.2.2.2.2.2.2.2.2.2.2)))
def f_X0_tell (p1 : Int) (p2 : Int) (p3 : Int) (A_doing : Nat → Int) (A_asked : Nat → Int) : Option ((Nat → Int) × (Nat → Int)) := if zin p1 10 ∧ zin p1 10 then some ((zu A_doing (Int.toNat p1) p2), (zu A_asked (Int.toNat p1) p3)) else none
def f_X9_asking (p1 : Int) (p2 : Int) (p3 : Int) (A_doing : Nat → Int) (A_asked : Nat → Int) : Option (Int × (Nat → Int) × (Nat → Int)) := (f_X9_within p1 1 9).bind fun x1 => if x1 = 0 then (some ((-2), A_doing, A_asked)) else ((f_X9_within p3 1 100).bind fun x2 => if x2 = 0 then (some ((-2), A_doing, A_asked)) else ((f_X9_within p2 0 p3).bind fun x3 => if x3 = 0 then (some ((-2), A_doing, A_asked)) else ((f_X0_tell p1 p2 p3 A_doing A_asked).bind fun x4 => some (1, x4.1, x4.2))))
def l_X0_bestCopies_4 : Nat → Int → Int → (Nat → Int) → (Nat → Int) → Option (Int)
  | 0, _, _, _, _ => none
  | n + 1, v1, v2, A_doing, A_asked => if (9 : Int) < v2 then (some v1) else (if zin v2 10 ∧ zin v1 10 ∧ zin v1 10 ∧ zin v2 10 ∧ zI ((v2 * (A_doing (Int.toNat v2))) * (A_asked (Int.toNat v1))) ∧ zI ((v1 * (A_doing (Int.toNat v1))) * (A_asked (Int.toNat v2))) then if ((v1 * (A_doing (Int.toNat v1))) * (A_asked (Int.toNat v2))) < ((v2 * (A_doing (Int.toNat v2))) * (A_asked (Int.toNat v1))) then (if zI (v2 + 1) then l_X0_bestCopies_4 n v2 (v2 + 1) A_doing A_asked else none) else (if zI (v2 + 1) then l_X0_bestCopies_4 n v1 (v2 + 1) A_doing A_asked else none) else none)
def f_X0_bestCopies (A_doing : Nat → Int) (A_asked : Nat → Int) : Option (Int) := (l_X0_bestCopies_4 zN 1 2 A_doing A_asked).bind fun x4 => some x4
def f_X0_doing (p1 : Int) (A_doing : Nat → Int) : Option (Int) := if zin p1 10 then some (A_doing (Int.toNat p1)) else none
def f_X0_asked (p1 : Int) (A_asked : Nat → Int) : Option (Int) := if zin p1 10 then some (A_asked (Int.toNat p1)) else none
def f_X9_best (p1 : Int) (A_doing : Nat → Int) (A_asked : Nat → Int) (Fa_size : Int) (Fa_digits : Nat → Int) (Fb_size : Int) (Fb_digits : Nat → Int) : Option (Int × Int × (Nat → Int) × Int × (Nat → Int)) := (f_X9_within p1 0 1).bind fun x1 => if x1 = 0 then (some ((-2), Fa_size, Fa_digits, Fb_size, Fb_digits)) else ((f_X0_bestCopies A_doing A_asked).bind fun x2 => if p1 = 0 then (some (x2, Fa_size, Fa_digits, Fb_size, Fb_digits)) else ((f_X0_doing x2 A_doing).bind fun x3 => if zI (x2 * x3) then (f_X0_asked x2 A_asked).bind fun x4 => (f_X2_become (x2 * x3) x4 Fa_size Fa_digits Fb_size Fb_digits).bind fun x6 => some (1, x6.1, x6.2.1, x6.2.2.1, x6.2.2.2) else none))
def l_X9_round_29 : Nat → Int → Int → Int → Int → Option (Int)
  | 0, _, _, _, _ => none
  | n + 1, v1, v2, v3, v5 => if v5 < v2 then (if zJ (v3 * v1) ∧ zI (v5 + 1) then l_X9_round_29 n v1 v2 (v3 * v1) (v5 + 1) else none) else (some v3)
def f_X9_round (p1 : Int) (p2 : Int) : Option (Int) := (f_X9_within p1 1 9).bind fun x1 => if x1 = 0 then (some (-1)) else ((f_X9_within p2 0 18).bind fun x2 => if x2 = 0 then (some (-1)) else ((l_X9_round_29 zN p1 p2 1 0).bind fun x4 => some x4))
def l_X9_outrun_36 : Nat → Int → Int → Int → Int → Int → Option (Int)
  | 0, _, _, _, _, _ => none
  | n + 1, v1, v2, v4, v6, v8 => if (18 : Int) < v8 then (some (-1)) else (if zJ (v6 + v4) then if (0 : Int) < (zlc (v6 + v4) v2) then (some v8) else (if zJ (v4 * v1) ∧ zI (v8 + 1) then l_X9_outrun_36 n v1 v2 (v4 * v1) (v6 + v4) (v8 + 1) else none) else none)
def f_X9_outrun (p1 : Int) (p2 : Int) : Option (Int) := (f_X9_within p1 1 9).bind fun x1 => if x1 = 0 then (some (-2)) else (if (zlc p2 1) < 0 then (some (-2)) else (if (0 : Int) < (zlc p2 10000000000) then (some (-2)) else (l_X9_outrun_36 zN p1 p2 1 0 0)))
def f_X7_has (p0 : Int) : Option (Int) := if p0 < 0 then (some 0) else (if p0 < 10 then (some 1) else (some 0))
def f_X7_tellSends (p1 : Int) (p2 : Int) (E_others : Nat → Int) : Option (Int × (Nat → Int)) := if zin p1 10 ∧ zin p1 10 then some ((E_others (Int.toNat p1)), (zu E_others (Int.toNat p1) p2)) else none
def f_X9_sends (p1 : Int) (p2 : Int) (E_others : Nat → Int) : Option (Int × (Nat → Int)) := (f_X7_has p1).bind fun x1 => if x1 = 0 then (some ((-2), E_others)) else ((f_X9_within p2 0 1023).bind fun x2 => if x2 = 0 then (some ((-2), E_others)) else ((f_X7_tellSends p1 p2 E_others).bind fun x3 => some (x3.1, x3.2)))
def f_X7_tellCopies (p1 : Int) (p2 : Int) (p3 : Int) (p4 : Int) (E_copies : Nat → Int) (E_odds : Nat → Int) (E_often : Nat → Int) : Option ((Nat → Int) × (Nat → Int) × (Nat → Int)) := if zin p1 10 ∧ zin p1 10 then if zin p1 10 then some ((zu E_copies (Int.toNat p1) p2), (zu E_odds (Int.toNat p1) p3), (zu E_often (Int.toNat p1) p4)) else none else none
def f_X9_copies (p1 : Int) (p2 : Int) (p3 : Int) (p4 : Int) (E_copies : Nat → Int) (E_odds : Nat → Int) (E_often : Nat → Int) : Option (Int × (Nat → Int) × (Nat → Int) × (Nat → Int)) := (f_X7_has p1).bind fun x1 => if x1 = 0 then (some ((-2), E_copies, E_odds, E_often)) else ((f_X9_within p2 0 9).bind fun x2 => if x2 = 0 then (some ((-2), E_copies, E_odds, E_often)) else ((f_X9_within p3 0 100).bind fun x3 => if x3 = 0 then (some ((-2), E_copies, E_odds, E_often)) else ((f_X9_within p4 1 9).bind fun x4 => if x4 = 0 then (some ((-2), E_copies, E_odds, E_often)) else ((f_X7_tellCopies p1 p2 p3 p4 E_copies E_odds E_often).bind fun x5 => some (1, x5.1, x5.2.1, x5.2.2)))))
def l_X7_getters_12 : Nat → Int → Int → Int → Int → (Nat → Int) → Option (Int)
  | 0, _, _, _, _, _ => none
  | n + 1, v1, v2, v3, v4, E_others => if v4 < 10 then (if (0 : Int) < v3 then (if zI (v1 + v4) ∧ zin v1 10 then if (zand (zshr (E_others (Int.toNat v1)) (Int.tmod (v1 + v4) 10)) 1) = 0 then (if zI (v4 + 1) then l_X7_getters_12 n v1 v2 v3 (v4 + 1) E_others else none) else (if zI (v3 + (-1)) then if zI (v4 + 1) then l_X7_getters_12 n v1 (zor v2 (zshl 1 (Int.tmod (v1 + v4) 10))) (v3 + (-1)) (v4 + 1) E_others else none else none) else none) else (some v2)) else (some v2)
def f_X7_getters (p1 : Int) (E_others : Nat → Int) (E_copies : Nat → Int) : Option (Int) := if zin p1 10 then (l_X7_getters_12 zN p1 0 (E_copies (Int.toNat p1)) 1 E_others).bind fun x6 => some x6 else none
def l_X7_countDay_2 : Nat → Int → Int → (Nat → Int) → Option (Nat → Int)
  | 0, _, _, _ => none
  | n + 1, v1, v2, E_days => if v2 < 10 then (if zin v2 10 ∧ zin v2 10 ∧ zI ((E_days (Int.toNat v2)) + (zand (zshr v1 v2) 1)) then if zI (v2 + 1) then l_X7_countDay_2 n v1 (v2 + 1) (zu E_days (Int.toNat v2) ((E_days (Int.toNat v2)) + (zand (zshr v1 v2) 1))) else none else none) else (some E_days)
def f_X7_countDay (p1 : Int) (E_days : Nat → Int) : Option (Nat → Int) := (l_X7_countDay_2 zN p1 0 E_days).bind fun x3 => some x3
def l_X7_goThrough_2 : Nat → Int → Int → Int → (Nat → Int) → (Nat → Int) → Option ((Nat → Int) × (Nat → Int))
  | 0, _, _, _, _, _ => none
  | n + 1, v1, v2, v3, E_days, E_times => if v3 < 10 then (if v3 = v1 then (if zin v3 10 ∧ zin v3 10 ∧ zI (v3 + 1) then l_X7_goThrough_2 n v1 v2 (v3 + 1) (zu E_days (Int.toNat v3) 1) (zu E_times (Int.toNat v3) 0) else none) else (if zin v3 10 ∧ zin v3 10 ∧ zI (v3 + 1) then l_X7_goThrough_2 n v1 v2 (v3 + 1) (zu E_days (Int.toNat v3) 0) (zu E_times (Int.toNat v3) 0) else none)) else (some (E_days, E_times))
def l_X7_goThrough_68 : Nat → Int → Int → Int → Int → Int → Int → (Nat → Int) → (Nat → Int) → (Nat → Int) → (Nat → Int) → (Nat → Int) → Option (Int × Int × (Nat → Int))
  | 0, _, _, _, _, _, _, _, _, _, _, _ => none
  | n + 1, v4, v5, v6, v3, v7, v8, E_others, E_copies, E_odds, E_often, E_times => if v8 < 10 then (if (zand (zshr v4 v8) 1) = 0 then (if zI (v8 + 1) then l_X7_goThrough_68 n v4 v5 v6 v3 v7 (v8 + 1) E_others E_copies E_odds E_often E_times else none) else (if zin v8 10 then if (Int.tmod (zushr (zw ((v3 * 1103515245) + 12345)) 16) 100) < (E_odds (Int.toNat v8)) then (if zin v8 10 ∧ zin v8 10 then if (E_times (Int.toNat v8)) < (E_often (Int.toNat v8)) then (if zin v8 10 ∧ zin v8 10 ∧ zI ((E_times (Int.toNat v8)) + 1) then (f_X7_getters v8 E_others E_copies).bind fun x7 => if zI (v8 + 1) then l_X7_goThrough_68 n v4 v5 v6 (zw ((v3 * 1103515245) + 12345)) (zor v7 x7) (v8 + 1) E_others E_copies E_odds E_often (zu E_times (Int.toNat v8) ((E_times (Int.toNat v8)) + 1)) else none else none) else (if zI (v8 + 1) then l_X7_goThrough_68 n v4 v5 v6 (zw ((v3 * 1103515245) + 12345)) v7 (v8 + 1) E_others E_copies E_odds E_often E_times else none) else none) else (if zI (v8 + 1) then l_X7_goThrough_68 n v4 v5 v6 (zw ((v3 * 1103515245) + 12345)) v7 (v8 + 1) E_others E_copies E_odds E_often E_times else none) else none)) else (some (v3, v7, E_times))
def l_X7_goThrough_50 : Nat → Int → Int → Int → Int → (Nat → Int) → (Nat → Int) → (Nat → Int) → (Nat → Int) → (Nat → Int) → (Nat → Int) → Option (Int × (Nat → Int) × (Nat → Int))
  | 0, _, _, _, _, _, _, _, _, _, _ => none
  | n + 1, v3, v4, v5, v6, E_others, E_copies, E_odds, E_often, E_days, E_times => if (60 : Int) < v6 then (some (v5, E_days, E_times)) else (if v4 = 0 then (some (v5, E_days, E_times)) else ((l_X7_goThrough_68 zN v4 v5 v6 v3 0 0 E_others E_copies E_odds E_often E_times).bind fun x12 => if x12.2.1 = 0 then ((f_X7_countDay x12.2.1 E_days).bind fun x13 => if zI (v6 + 1) then l_X7_goThrough_50 n x12.1 x12.2.1 v5 (v6 + 1) E_others E_copies E_odds E_often x13 x12.2.2 else none) else ((f_X7_countDay x12.2.1 E_days).bind fun x15 => if zI (v6 + 1) then l_X7_goThrough_50 n x12.1 x12.2.1 v6 (v6 + 1) E_others E_copies E_odds E_often x15 x12.2.2 else none)))
def f_X7_goThrough (p1 : Int) (p2 : Int) (E_others : Nat → Int) (E_copies : Nat → Int) (E_odds : Nat → Int) (E_often : Nat → Int) (E_days : Nat → Int) (E_times : Nat → Int) : Option (Int × (Nat → Int) × (Nat → Int)) := (l_X7_goThrough_2 zN p1 p2 0 E_days E_times).bind fun x3 => (l_X7_goThrough_50 zN p2 (zshl 1 p1) 0 1 E_others E_copies E_odds E_often x3.1 x3.2).bind fun x17 => some (x17.1, x17.2.1, x17.2.2)
def f_X7_daysOf (p1 : Int) (E_days : Nat → Int) : Option (Int) := if zin p1 10 then some (E_days (Int.toNat p1)) else none
def f_X9_run (p1 : Int) (p2 : Int) (p3 : Int) (E_others : Nat → Int) (E_copies : Nat → Int) (E_odds : Nat → Int) (E_often : Nat → Int) (E_days : Nat → Int) (E_times : Nat → Int) : Option (Int × (Nat → Int) × (Nat → Int)) := (f_X7_has p1).bind fun x1 => if x1 = 0 then (some ((-2), E_days, E_times)) else (if p3 = (-1) then ((f_X7_goThrough p1 p2 E_others E_copies E_odds E_often E_days E_times).bind fun x2 => if p3 = (-1) then (some (x2.1, x2.2.1, x2.2.2)) else ((f_X7_daysOf p3 x2.2.1).bind fun x3 => some (x3, x2.2.1, x2.2.2))) else ((f_X7_has p3).bind fun x4 => if x4 = 0 then (some ((-2), E_days, E_times)) else ((f_X7_goThrough p1 p2 E_others E_copies E_odds E_often E_days E_times).bind fun x5 => if p3 = (-1) then (some (x5.1, x5.2.1, x5.2.2)) else ((f_X7_daysOf p3 x5.2.1).bind fun x6 => some (x6, x5.2.1, x5.2.2)))))
def l_X7_lookAhead_2 : Nat → Int → (Nat → Int) → (Nat → Int) → (Nat → Int) → (Nat → Int) → Option (Nat → Int)
  | 0, _, _, _, _, _ => none
  | n + 1, v1, E_others, E_copies, E_odds, E_next => if v1 < 10 then (if zin v1 10 then if (0 : Int) < (E_odds (Int.toNat v1)) then ((f_X7_getters v1 E_others E_copies).bind fun x2 => if zin v1 10 ∧ zI (v1 + 1) then l_X7_lookAhead_2 n (v1 + 1) E_others E_copies E_odds (zu E_next (Int.toNat v1) x2) else none) else (if zin v1 10 ∧ zI (v1 + 1) then l_X7_lookAhead_2 n (v1 + 1) E_others E_copies E_odds (zu E_next (Int.toNat v1) 0) else none) else none) else (some E_next)
def f_X7_lookAhead (E_others : Nat → Int) (E_copies : Nat → Int) (E_odds : Nat → Int) (E_next : Nat → Int) : Option (Nat → Int) := (l_X7_lookAhead_2 zN 0 E_others E_copies E_odds E_next).bind fun x5 => some x5
def l_X7_reached_39 : Nat → Int → Int → Int → Int → Int → Int → (Nat → Int) → Option (Int)
  | 0, _, _, _, _, _, _, _ => none
  | n + 1, v2, v4, v5, v6, v7, v8, E_next => if v8 < 10 then (if (zand (zshr v5 v8) 1) = 0 then (if zI (v8 + 1) then l_X7_reached_39 n v2 v4 v5 v6 v7 (v8 + 1) E_next else none) else (if zin v8 10 then if zI (v8 + 1) then l_X7_reached_39 n v2 v4 v5 v6 (zor v7 (E_next (Int.toNat v8))) (v8 + 1) E_next else none else none)) else (some v7)
def l_X7_reached_21 : Nat → Int → Int → Int → Int → (Nat → Int) → Option (Int)
  | 0, _, _, _, _, _ => none
  | n + 1, v2, v4, v5, v6, E_next => if v6 < 10 then (if v5 = 0 then (some v4) else ((l_X7_reached_39 zN v2 v4 v5 v6 0 0 E_next).bind fun x4 => if zI (v6 + 1) then l_X7_reached_21 n v2 (zor v4 (zand (zand x4 (zxor v4 (-1))) (zxor v2 (-1)))) (zand (zand x4 (zxor v4 (-1))) (zxor v2 (-1))) (v6 + 1) E_next else none)) else (some v4)
def f_X7_reached (p1 : Int) (p2 : Int) (E_next : Nat → Int) : Option (Int) := if (zand p2 (zshl 1 p1)) = 0 then ((l_X7_reached_21 zN p2 (zshl 1 p1) (zshl 1 p1) 0 E_next).bind fun x6 => some x6) else (some (zshl 1 p1))
def f_X9_reach (p1 : Int) (p2 : Int) (E_others : Nat → Int) (E_copies : Nat → Int) (E_odds : Nat → Int) (E_next : Nat → Int) : Option (Int × (Nat → Int)) := (f_X7_has p1).bind fun x1 => if x1 = 0 then (some ((-2), E_next)) else ((f_X9_within p2 0 1023).bind fun x2 => if x2 = 0 then (some ((-2), E_next)) else ((f_X7_lookAhead E_others E_copies E_odds E_next).bind fun x3 => (f_X7_reached p1 p2 x3).bind fun x4 => some (x4, x3)))
def f_J6_bitCount_0f7a4 (p0 : Int) : Option (Int) := some (zand (zw ((zw ((zand ((zw ((zand (zw (p0 - (zand (zushr p0 1) 1431655765))) 858993459) + (zand (zushr (zw (p0 - (zand (zushr p0 1) 1431655765))) 2) 858993459))) + (zushr (zw ((zand (zw (p0 - (zand (zushr p0 1) 1431655765))) 858993459) + (zand (zushr (zw (p0 - (zand (zushr p0 1) 1431655765))) 2) 858993459))) 4)) 252645135) + (zushr (zand ((zw ((zand (zw (p0 - (zand (zushr p0 1) 1431655765))) 858993459) + (zand (zushr (zw (p0 - (zand (zushr p0 1) 1431655765))) 2) 858993459))) + (zushr (zw ((zand (zw (p0 - (zand (zushr p0 1) 1431655765))) 858993459) + (zand (zushr (zw (p0 - (zand (zushr p0 1) 1431655765))) 2) 858993459))) 4)) 252645135) 8))) + (zushr (zw ((zand ((zw ((zand (zw (p0 - (zand (zushr p0 1) 1431655765))) 858993459) + (zand (zushr (zw (p0 - (zand (zushr p0 1) 1431655765))) 2) 858993459))) + (zushr (zw ((zand (zw (p0 - (zand (zushr p0 1) 1431655765))) 858993459) + (zand (zushr (zw (p0 - (zand (zushr p0 1) 1431655765))) 2) 858993459))) 4)) 252645135) + (zushr (zand ((zw ((zand (zw (p0 - (zand (zushr p0 1) 1431655765))) 858993459) + (zand (zushr (zw (p0 - (zand (zushr p0 1) 1431655765))) 2) 858993459))) + (zushr (zw ((zand (zw (p0 - (zand (zushr p0 1) 1431655765))) 858993459) + (zand (zushr (zw (p0 - (zand (zushr p0 1) 1431655765))) 2) 858993459))) 4)) 252645135) 8))) 16))) 63)
def l_X7_fewestTold_19 : Nat → Int → Int → Int → Int → Int → (Nat → Int) → Option (Int)
  | 0, _, _, _, _, _, _ => none
  | n + 1, v1, v2, v3, v4, v5, E_next => if v3 < v5 then (some v4) else (if (zand v5 (zxor v3 (-1))) = 0 then ((f_J6_bitCount_0f7a4 v5).bind fun x2 => (f_J6_bitCount_0f7a4 v4).bind fun x3 => if x2 < x3 then ((f_X7_reached v1 v5 E_next).bind fun x4 => (f_J6_bitCount_0f7a4 x4).bind fun x5 => if v2 < x5 then (if zI (v5 + 1) then l_X7_fewestTold_19 n v1 v2 v3 v4 (v5 + 1) E_next else none) else (if zI (v5 + 1) then l_X7_fewestTold_19 n v1 v2 v3 v5 (v5 + 1) E_next else none)) else (if zI (v5 + 1) then l_X7_fewestTold_19 n v1 v2 v3 v4 (v5 + 1) E_next else none)) else (if zI (v5 + 1) then l_X7_fewestTold_19 n v1 v2 v3 v4 (v5 + 1) E_next else none))
def f_X7_fewestTold (p1 : Int) (p2 : Int) (E_next : Nat → Int) : Option (Int) := (f_X7_reached p1 0 E_next).bind fun x1 => (l_X7_fewestTold_19 zN p1 p2 (zand x1 (zxor (zshl 1 p1) (-1))) (zand x1 (zxor (zshl 1 p1) (-1))) 0 E_next).bind fun x10 => some x10
def f_X9_stop (p1 : Int) (p2 : Int) (E_others : Nat → Int) (E_copies : Nat → Int) (E_odds : Nat → Int) (E_next : Nat → Int) : Option (Int × (Nat → Int)) := (f_X7_has p1).bind fun x1 => if x1 = 0 then (some ((-2), E_next)) else ((f_X9_within p2 1 10).bind fun x2 => if x2 = 0 then (some ((-2), E_next)) else ((f_X7_lookAhead E_others E_copies E_odds E_next).bind fun x3 => (f_X7_fewestTold p1 p2 x3).bind fun x4 => some (x4, x3)))
def f_X1_add (p1 : Int) (B_count : Int) (B_kinds : Nat → Int) (B_times : Nat → Int) : Option (Int × Int × (Nat → Int) × (Nat → Int)) := if B_count < 40 then (if zin B_count 40 ∧ zin p1 100 ∧ zin p1 100 ∧ zI ((B_times (Int.toNat p1)) + 1) then if zI (B_count + 1) then some ((B_count + 1), (B_count + 1), (zu B_kinds (Int.toNat B_count) p1), (zu B_times (Int.toNat p1) ((B_times (Int.toNat p1)) + 1))) else none else none) else (some ((-4), B_count, B_kinds, B_times))
def f_X9_keep (p1 : Int) (B_count : Int) (B_kinds : Nat → Int) (B_times : Nat → Int) : Option (Int × Int × (Nat → Int) × (Nat → Int)) := (f_X9_within p1 0 99).bind fun x1 => if x1 = 0 then (some ((-2), B_count, B_kinds, B_times)) else (if B_count < 40 then ((f_X1_add p1 B_count B_kinds B_times).bind fun x2 => some (x2.1, x2.2.1, x2.2.2.1, x2.2.2.2)) else (some ((-4), B_count, B_kinds, B_times)))
def l_X1_empty_12 : Nat → Int → Int → (Nat → Int) → Option (Nat → Int)
  | 0, _, _, _ => none
  | n + 1, v1, v2, B_times => if v2 < 100 then (if zin v2 100 ∧ zI (v2 + 1) then l_X1_empty_12 n v1 (v2 + 1) (zu B_times (Int.toNat v2) 0) else none) else (some B_times)
def f_X1_empty (B_count : Int) (B_times : Nat → Int) : Option (Int × Int × (Nat → Int)) := (l_X1_empty_12 zN B_count 0 B_times).bind fun x2 => some (B_count, 0, x2)
def f_X9_burn (B_count : Int) (B_times : Nat → Int) : Option (Int × Int × (Nat → Int)) := (f_X1_empty B_count B_times).bind fun x1 => some (x1.1, x1.2.1, x1.2.2)
def l_X1_tally_17 : Nat → Int → Int → Int → Int → (Nat → Int) → Option (Int × Int × Int)
  | 0, _, _, _, _, _ => none
  | n + 1, v1, B_keptAtAll, B_keptOnce, B_keptTwice, B_times => if v1 < 100 then (if zin v1 100 then if (0 : Int) < (B_times (Int.toNat v1)) then (if zI (B_keptAtAll + 1) ∧ zin v1 100 then if (B_times (Int.toNat v1)) = 1 then (if zI (B_keptOnce + 1) ∧ zin v1 100 then if (B_times (Int.toNat v1)) = 2 then (if zI (B_keptTwice + 1) ∧ zI (v1 + 1) then l_X1_tally_17 n (v1 + 1) (B_keptAtAll + 1) (B_keptOnce + 1) (B_keptTwice + 1) B_times else none) else (if zI (B_keptTwice + 0) ∧ zI (v1 + 1) then l_X1_tally_17 n (v1 + 1) (B_keptAtAll + 1) (B_keptOnce + 1) (B_keptTwice + 0) B_times else none) else none) else (if zI (B_keptOnce + 0) ∧ zin v1 100 then if (B_times (Int.toNat v1)) = 2 then (if zI (B_keptTwice + 1) ∧ zI (v1 + 1) then l_X1_tally_17 n (v1 + 1) (B_keptAtAll + 1) (B_keptOnce + 0) (B_keptTwice + 1) B_times else none) else (if zI (B_keptTwice + 0) ∧ zI (v1 + 1) then l_X1_tally_17 n (v1 + 1) (B_keptAtAll + 1) (B_keptOnce + 0) (B_keptTwice + 0) B_times else none) else none) else none) else (if zI (B_keptAtAll + 0) ∧ zin v1 100 then if (B_times (Int.toNat v1)) = 1 then (if zI (B_keptOnce + 1) ∧ zin v1 100 then if (B_times (Int.toNat v1)) = 2 then (if zI (B_keptTwice + 1) ∧ zI (v1 + 1) then l_X1_tally_17 n (v1 + 1) (B_keptAtAll + 0) (B_keptOnce + 1) (B_keptTwice + 1) B_times else none) else (if zI (B_keptTwice + 0) ∧ zI (v1 + 1) then l_X1_tally_17 n (v1 + 1) (B_keptAtAll + 0) (B_keptOnce + 1) (B_keptTwice + 0) B_times else none) else none) else (if zI (B_keptOnce + 0) ∧ zin v1 100 then if (B_times (Int.toNat v1)) = 2 then (if zI (B_keptTwice + 1) ∧ zI (v1 + 1) then l_X1_tally_17 n (v1 + 1) (B_keptAtAll + 0) (B_keptOnce + 0) (B_keptTwice + 1) B_times else none) else (if zI (B_keptTwice + 0) ∧ zI (v1 + 1) then l_X1_tally_17 n (v1 + 1) (B_keptAtAll + 0) (B_keptOnce + 0) (B_keptTwice + 0) B_times else none) else none) else none) else none) else (some (B_keptAtAll, B_keptOnce, B_keptTwice))
def f_X1_tally (B_keptAtAll : Int) (B_keptOnce : Int) (B_keptTwice : Int) (B_times : Nat → Int) : Option (Int × Int × Int) := (l_X1_tally_17 zN 0 0 0 0 B_times).bind fun x16 => some (x16.1, x16.2.1, x16.2.2)
def f_X9_hidden (B_keptAtAll : Int) (B_keptOnce : Int) (B_keptTwice : Int) (B_times : Nat → Int) (Fa_size : Int) (Fa_digits : Nat → Int) (Fb_size : Int) (Fb_digits : Nat → Int) : Option (Int × Int × Int × Int × Int × (Nat → Int) × Int × (Nat → Int)) := (f_X1_tally B_keptAtAll B_keptOnce B_keptTwice B_times).bind fun x1 => if (zlc x1.2.2 0) = 0 then (if zJ ((2 * x1.1) + (x1.2.1 * (x1.2.1 - 1))) then (f_X2_become ((2 * x1.1) + (x1.2.1 * (x1.2.1 - 1))) 2 Fa_size Fa_digits Fb_size Fb_digits).bind fun x2 => some (1, x1.1, x1.2.1, x1.2.2, x2.1, x2.2.1, x2.2.2.1, x2.2.2.2) else none) else (if zJ (2 * x1.2.2) ∧ zJ (((2 * x1.2.2) * x1.1) + (x1.2.1 * x1.2.1)) then (f_X2_become (((2 * x1.2.2) * x1.1) + (x1.2.1 * x1.2.1)) (2 * x1.2.2) Fa_size Fa_digits Fb_size Fb_digits).bind fun x4 => some (1, x1.1, x1.2.1, x1.2.2, x4.1, x4.2.1, x4.2.2.1, x4.2.2.2) else none)
def f_X9_sign (p1 : Int) (Fa_size : Int) (Fb_size : Int) : Option (Int) := if p1 = 0 then (if (0 : Int) < Fa_size then (some 1) else (some 0)) else if p1 = 1 then (some Fa_size) else if p1 = 2 then (some Fb_size) else (some (-2))
def f_X6_digit (p1 : Int) (s0 : Int) (d0 : Nat → Int) : Option (Int) := if p1 < 0 then (some (-1)) else (if p1 < s0 then (if p1 < 40 then (if zin p1 40 then some (d0 (Int.toNat p1)) else none) else (some (-1))) else (some (-1)))
def f_X9_limb (p1 : Int) (p2 : Int) (Fa_size : Int) (Fa_digits : Nat → Int) (Fb_size : Int) (Fb_digits : Nat → Int) : Option (Int) := (f_X9_within p1 0 1).bind fun x1 => if x1 = 0 then (some (-2)) else (if p2 < 0 then (some (-2)) else (if p1 = 0 then ((f_X6_digit p2 Fa_size Fa_digits).bind fun x2 => some x2) else ((f_X6_digit p2 Fb_size Fb_digits).bind fun x3 => some x3)))
def l_X4_sentencesOfAll_4 : Nat → Int → Int → Int → (Nat → Int) → Option (Int)
  | 0, _, _, _, _ => none
  | n + 1, v1, v2, L_count, L_forms => if zI (L_count * 8) then if v2 < (L_count * 8) then (if zin v2 64 then if (L_forms (Int.toNat v2)) = (-1) then (if zI (v2 + 1) then l_X4_sentencesOfAll_4 n v1 (v2 + 1) L_count L_forms else none) else (if zI (v1 + 1) then if zI (v2 + 1) then l_X4_sentencesOfAll_4 n (v1 + 1) (v2 + 1) L_count L_forms else none else none) else none) else (some v1) else none
def f_X4_sentencesOfAll (L_count : Int) (L_forms : Nat → Int) : Option (Int) := (l_X4_sentencesOfAll_4 zN 0 0 L_count L_forms).bind fun x6 => some x6
def f_X9_count (p1 : Int) (L_count : Int) (L_forms : Nat → Int) (N_count : Int) (B_count : Int) : Option (Int) := if p1 = 0 then (some L_count) else if p1 = 1 then ((f_X4_sentencesOfAll L_count L_forms).bind fun x1 => some x1) else if p1 = 2 then (some N_count) else if p1 = 3 then (some B_count) else (some (-2))
def l_X4_foldInto_47 : Nat → Int → Int → Int → (Nat → Int) → Option (Int)
  | 0, _, _, _, _ => none
  | n + 1, v5, v3, v6, L_forms => if v6 < 8 then (if zin ((v5 * 8) + v6) 64 then if zI (v6 + 1) then l_X4_foldInto_47 n v5 (zwl ((31 * v3) + (L_forms (Int.toNat ((v5 * 8) + v6))))) (v6 + 1) L_forms else none else none) else (some v3)
def l_X4_foldInto_5 : Nat → Int → Int → Int → (Nat → Int) → (Nat → Int) → (Nat → Int) → Option (Int)
  | 0, _, _, _, _, _, _ => none
  | n + 1, v3, v5, L_count, L_from, L_to, L_forms => if v5 < L_count then (if zin v5 8 then if zin v5 8 then (l_X4_foldInto_47 zN v5 (zwl ((31 * (zwl ((31 * v3) + (L_from (Int.toNat v5))))) + (L_to (Int.toNat v5)))) 0 L_forms).bind fun x5 => if zI (v5 + 1) then l_X4_foldInto_5 n x5 (v5 + 1) L_count L_from L_to L_forms else none else none else none) else (some v3)
def l_X4_foldInto_90 : Nat → Int → Int → (Nat → Int) → Option (Int)
  | 0, _, _, _ => none
  | n + 1, v3, v5, L_costs => if v5 < (Int.ofNat 5) then (if zin v5 5 then if zI (v5 + 1) then l_X4_foldInto_90 n (zwl ((31 * v3) + (L_costs (Int.toNat v5)))) (v5 + 1) L_costs else none else none) else (some v3)
def f_X4_foldInto (p1 : Int) (L_count : Int) (L_from : Nat → Int) (L_to : Nat → Int) (L_forms : Nat → Int) (L_costs : Nat → Int) : Option (Int) := (l_X4_foldInto_5 zN p1 0 L_count L_from L_to L_forms).bind fun x7 => (l_X4_foldInto_90 zN x7 0 L_costs).bind fun x10 => some x10
def l_X5_foldInto_5 : Nat → Int → Int → Int → (Nat → Int) → (Nat → Int) → Option (Int)
  | 0, _, _, _, _, _ => none
  | n + 1, v3, v5, N_count, N_lengths, N_told => if v5 < N_count then (if zin v5 10 then if zin v5 10 then if zI (v5 + 1) then l_X5_foldInto_5 n (zwl ((31 * (zwl ((31 * v3) + (N_lengths (Int.toNat v5))))) + (N_told (Int.toNat v5)))) (v5 + 1) N_count N_lengths N_told else none else none else none) else (some v3)
def f_X5_foldInto (p1 : Int) (N_count : Int) (N_lengths : Nat → Int) (N_told : Nat → Int) : Option (Int) := (l_X5_foldInto_5 zN p1 0 N_count N_lengths N_told).bind fun x4 => some x4
def l_X3_foldInto_5 : Nat → Int → Int → (Nat → Int) → Option (Int)
  | 0, _, _, _ => none
  | n + 1, v3, v5, H_weights => if (9 : Int) < v5 then (some v3) else (if zin v5 10 then if zI (v5 + 1) then l_X3_foldInto_5 n (zwl ((31 * v3) + (H_weights (Int.toNat v5)))) (v5 + 1) H_weights else none else none)
def f_X3_foldInto (p1 : Int) (H_weights : Nat → Int) : Option (Int) := (l_X3_foldInto_5 zN p1 0 H_weights).bind fun x3 => some x3
def l_X0_foldInto_5 : Nat → Int → Int → (Nat → Int) → (Nat → Int) → Option (Int)
  | 0, _, _, _, _ => none
  | n + 1, v3, v5, A_doing, A_asked => if (9 : Int) < v5 then (some v3) else (if zin v5 10 then if zin v5 10 then if zI (v5 + 1) then l_X0_foldInto_5 n (zwl ((31 * (zwl ((31 * v3) + (A_doing (Int.toNat v5))))) + (A_asked (Int.toNat v5)))) (v5 + 1) A_doing A_asked else none else none else none)
def f_X0_foldInto (p1 : Int) (A_doing : Nat → Int) (A_asked : Nat → Int) : Option (Int) := (l_X0_foldInto_5 zN p1 1 A_doing A_asked).bind fun x4 => some x4
def l_X7_foldInto_5 : Nat → Int → Int → (Nat → Int) → (Nat → Int) → (Nat → Int) → (Nat → Int) → Option (Int)
  | 0, _, _, _, _, _, _ => none
  | n + 1, v3, v5, E_others, E_copies, E_odds, E_often => if v5 < 10 then (if zin v5 10 then if zin v5 10 then if zin v5 10 then if zin v5 10 then if zI (v5 + 1) then l_X7_foldInto_5 n (zwl ((31 * (zwl ((31 * (zwl ((31 * (zwl ((31 * v3) + (E_others (Int.toNat v5))))) + (E_copies (Int.toNat v5))))) + (E_odds (Int.toNat v5))))) + (E_often (Int.toNat v5)))) (v5 + 1) E_others E_copies E_odds E_often else none else none else none else none else none) else (some v3)
def f_X7_foldInto (p1 : Int) (E_others : Nat → Int) (E_copies : Nat → Int) (E_odds : Nat → Int) (E_often : Nat → Int) : Option (Int) := (l_X7_foldInto_5 zN p1 0 E_others E_copies E_odds E_often).bind fun x6 => some x6
def l_X1_foldInto_5 : Nat → Int → Int → Int → (Nat → Int) → Option (Int)
  | 0, _, _, _, _ => none
  | n + 1, v3, v5, B_count, B_kinds => if v5 < B_count then (if zin v5 40 then if zI (v5 + 1) then l_X1_foldInto_5 n (zwl ((31 * v3) + (B_kinds (Int.toNat v5)))) (v5 + 1) B_count B_kinds else none else none) else (some v3)
def f_X1_foldInto (p1 : Int) (B_count : Int) (B_kinds : Nat → Int) : Option (Int) := (l_X1_foldInto_5 zN p1 0 B_count B_kinds).bind fun x3 => some x3
def l_X6_foldInto_5 : Nat → Int → Int → Int → (Nat → Int) → Option (Int)
  | 0, _, _, _, _ => none
  | n + 1, v3, v5, s0, d0 => if v5 < s0 then (if v5 < 40 then (if zin v5 40 then if zI (v5 + 1) then l_X6_foldInto_5 n (zwl ((31 * v3) + (d0 (Int.toNat v5)))) (v5 + 1) s0 d0 else none else none) else (some v3)) else (some v3)
def f_X6_foldInto (p1 : Int) (s0 : Int) (d0 : Nat → Int) : Option (Int) := (l_X6_foldInto_5 zN p1 0 s0 d0).bind fun x3 => some x3
def l_X9_digest_6 : Nat → Int → Int → Int → (Nat → Int) → Int → Int → Option (Int)
  | 0, _, _, _, _, _, _ => none
  | n + 1, v1, v3, L_count, L_forms, N_count, B_count => if (3 : Int) < v3 then (some v1) else ((f_X9_count v3 L_count L_forms N_count B_count).bind fun x1 => if zI (v3 + 1) then l_X9_digest_6 n (zwl ((31 * v1) + x1)) (v3 + 1) L_count L_forms N_count B_count else none)
def l_X9_digest_98 : Nat → Int → Int → Int → Int → Option (Int)
  | 0, _, _, _, _ => none
  | n + 1, v1, v3, Fa_size, Fb_size => if (2 : Int) < v3 then (some v1) else ((f_X9_sign v3 Fa_size Fb_size).bind fun x11 => if zI (v3 + 1) then l_X9_digest_98 n (zwl ((31 * v1) + x11)) (v3 + 1) Fa_size Fb_size else none)
def f_X9_digest (L_count : Int) (L_copiedStands : Int) (L_from : Nat → Int) (L_to : Nat → Int) (L_forms : Nat → Int) (L_costs : Nat → Int) (L_copied : Nat → Int) (T_cost : Int) (T_priced : Int) (T_steps : Nat → Int) (T_pairs : Nat → Int) (T_built : Nat → Int) (T_held : Nat → Int) (T_heldPrice : Nat → Int) (N_count : Int) (N_lengths : Nat → Int) (N_told : Nat → Int) (H_weights : Nat → Int) (A_doing : Nat → Int) (A_asked : Nat → Int) (E_others : Nat → Int) (E_copies : Nat → Int) (E_odds : Nat → Int) (E_often : Nat → Int) (B_count : Int) (B_kinds : Nat → Int) (Fa_size : Int) (Fa_digits : Nat → Int) (Fb_size : Int) (Fb_digits : Nat → Int) : Option (Int × Int × (Nat → Int) × Int × Int × (Nat → Int) × (Nat → Int) × (Nat → Int) × (Nat → Int)) := (l_X9_digest_6 zN 457 0 L_count L_forms N_count B_count).bind fun x3 => (f_X4_foldInto x3 L_count L_from L_to L_forms L_costs).bind fun x4 => (f_X5_foldInto x4 N_count N_lengths N_told).bind fun x5 => (f_X3_foldInto x5 H_weights).bind fun x6 => (f_X0_foldInto x6 A_doing A_asked).bind fun x7 => (f_X7_foldInto x7 E_others E_copies E_odds E_often).bind fun x8 => (f_X1_foldInto x8 B_count B_kinds).bind fun x9 => (f_X9_least L_count L_copiedStands L_forms L_costs L_copied T_cost T_priced T_steps T_pairs T_built T_held T_heldPrice).bind fun x10 => (l_X9_digest_98 zN (zwl ((31 * x9) + x10.1)) 0 Fa_size Fb_size).bind fun x13 => (f_X6_foldInto x13 Fa_size Fa_digits).bind fun x14 => (f_X6_foldInto x14 Fb_size Fb_digits).bind fun x15 => some (x15, x10.2.1, x10.2.2.1, x10.2.2.2.1, x10.2.2.2.2.1, x10.2.2.2.2.2.1, x10.2.2.2.2.2.2.1, x10.2.2.2.2.2.2.2.1, x10.2.2.2.2.2.2.2.2)
def f_X10_in (p0 : Int) (p2 : Int) (p4 : Int) : Option (Int) := if (zlc p0 p2) < 0 then (some 0) else (if (0 : Int) < (zlc p0 p4) then (some 0) else (some 1))
def f_X10_sign (p1 : Int) (mK_wide : Nat → Int) : Option (Int) := if p1 = 0 then (if (0 : Int) < (mK_wide (Int.toNat 0)) then (some 1) else (some 0)) else (if p1 = 1 then (some (mK_wide (Int.toNat 0))) else (if p1 = 2 then (some (mK_wide (Int.toNat 1))) else (some (-2))))
def f_X10_limb (p1 : Int) (p2 : Int) (mK_limbs : Nat → Int) (mK_wide : Nat → Int) : Option (Int) := (f_X10_in p1 0 1).bind fun x1 => if x1 = 0 then (some (-2)) else (if p2 < 0 then (some (-2)) else (if zin p1 9 then if p2 < (mK_wide (Int.toNat p1)) then (if zin ((70 * p1) + p2) 630 then some (mK_limbs (Int.toNat ((70 * p1) + p2))) else none) else (some (-1)) else none))
def l_X10_letter_60 : Nat → Int → Int → (Nat → Int) → Option (Nat → Int)
  | 0, _, _, _ => none
  | n + 1, v3, mL_letters, mL_forms => if v3 < 8 then (if zin ((8 * mL_letters) + v3) 64 then if zI (v3 + 1) then l_X10_letter_60 n (v3 + 1) mL_letters (zu mL_forms (Int.toNat ((8 * mL_letters) + v3)) (-1)) else none else none) else (some mL_forms)
def f_X10_letter (p1 : Int) (p2 : Int) (mL_letters : Int) (mL_from : Nat → Int) (mL_to : Nat → Int) (mL_forms : Nat → Int) : Option (Int × Int × (Nat → Int) × (Nat → Int) × (Nat → Int)) := (f_X10_in p1 0 p2).bind fun x1 => if x1 = 0 then (some ((-2), mL_letters, mL_from, mL_to, mL_forms)) else ((f_X10_in p2 0 99).bind fun x2 => if x2 = 0 then (some ((-2), mL_letters, mL_from, mL_to, mL_forms)) else (if mL_letters = 8 then (some ((-4), mL_letters, mL_from, mL_to, mL_forms)) else (if zin mL_letters 8 ∧ zin mL_letters 8 then (l_X10_letter_60 zN 0 mL_letters mL_forms).bind fun x6 => if zI (mL_letters + 1) ∧ zI ((mL_letters + 1) - 1) then some (((mL_letters + 1) - 1), (mL_letters + 1), (zu mL_from (Int.toNat mL_letters) p1), (zu mL_to (Int.toNat mL_letters) p2), x6) else none else none)))
def f_X10_isLetter (p1 : Int) (mL_letters : Int) : Option (Int) := if zI (mL_letters - 1) then (f_X10_in p1 0 (mL_letters - 1)).bind fun x1 => if zbit x1 then some x1 else none else none
def f_X10_form (p1 : Int) (p2 : Int) (p3 : Int) (mL_letters : Int) (mL_forms : Nat → Int) : Option (Int × (Nat → Int)) := (f_X10_isLetter p1 mL_letters).bind fun x1 => if x1 = 0 then (some ((-10), mL_forms)) else ((f_X10_in p2 0 7).bind fun x2 => if x2 = 0 then (some ((-10), mL_forms)) else ((f_X10_in p3 (-1) 9).bind fun x3 => if x3 = 0 then (some ((-10), mL_forms)) else (if zin ((8 * p1) + p2) 64 then if zin ((8 * p1) + p2) 64 then some ((mL_forms (Int.toNat ((8 * p1) + p2))), (zu mL_forms (Int.toNat ((8 * p1) + p2)) p3)) else none else none)))
def f_X10_cost (p1 : Int) (p2 : Int) (mL_costs : Nat → Int) : Option (Int × (Nat → Int)) := (f_X10_in p1 0 4).bind fun x1 => if x1 = 0 then (some ((-2), mL_costs)) else ((f_X10_in p2 0 9).bind fun x2 => if x2 = 0 then (some ((-2), mL_costs)) else (if zin p1 5 ∧ zin p1 5 then some ((mL_costs (Int.toNat p1)), (zu mL_costs (Int.toNat p1) p2)) else none))
def f_X10_firstOf (p1 : Int) : Option (Int) := if p1 = 0 then (some (-1)) else (if p1 < 20 then (if zI (p1 - 1) then some (p1 - 1) else none) else (if zI (p1 - 20) then if zI (Int.tdiv (p1 - 20) 64) then some (Int.tdiv (p1 - 20) 64) else none else none))
def f_X10_secondOf (p1 : Int) : Option (Int) := if p1 < 20 then (some (-1)) else (if zI (p1 - 20) ∧ zI (Int.tdiv (p1 - 20) 8) then some (Int.tmod (Int.tdiv (p1 - 20) 8) 8) else none)
def f_X10_cutOf (p0 : Int) : Option (Int) := if zI (p0 - 20) then some (Int.tmod (p0 - 20) 8) else none
def f_X10_isWay (p1 : Int) (p2 : Int) (mL_letters : Int) : Option (Int) := if p2 = 0 then (some 1) else ((f_X10_in p2 1 8).bind fun x1 => if x1 = 0 then ((f_X10_in p2 20 531).bind fun x2 => if x2 = 0 then (some 0) else ((f_X10_firstOf p2).bind fun x3 => (f_X10_secondOf p2).bind fun x4 => (f_X10_isLetter x3 mL_letters).bind fun x5 => if x5 = 0 then (if p2 < 20 then (some 0) else (some 0)) else (if x3 = p1 then (if p2 < 20 then (some 0) else (some 0)) else (if p2 < 20 then (some 1) else ((f_X10_isLetter x4 mL_letters).bind fun x6 => if x6 = 0 then (some 0) else (if x4 = p1 then (some 0) else (if x3 = x4 then (some 0) else ((f_X10_cutOf p2).bind fun x7 => if (0 : Int) < x7 then (some 1) else (some 0))))))))) else ((f_X10_firstOf p2).bind fun x8 => (f_X10_secondOf p2).bind fun x9 => (f_X10_isLetter x8 mL_letters).bind fun x10 => if x10 = 0 then (if p2 < 20 then (some 0) else (some 0)) else (if x8 = p1 then (if p2 < 20 then (some 0) else (some 0)) else (if p2 < 20 then (some 1) else ((f_X10_isLetter x9 mL_letters).bind fun x11 => if x11 = 0 then (some 0) else (if x9 = p1 then (some 0) else (if x8 = x9 then (some 0) else ((f_X10_cutOf p2).bind fun x12 => if (0 : Int) < x12 then (some 1) else (some 0)))))))))
def l_X10_copied_6 : Nat → Int → Int → Int → Int → Int → (Nat → Int) → (Nat → Int) → Option (Int)
  | 0, _, _, _, _, _, _, _ => none
  | n + 1, v1, v2, v4, v5, v6, mL_forms, mL_costs => if v6 < v4 then (if zin ((8 * v1) + v6) 64 then if zin ((8 * v2) + v6) 64 then if (mL_forms (Int.toNat ((8 * v1) + v6))) = (mL_forms (Int.toNat ((8 * v2) + v6))) then (if zI (v5 + 0) ∧ zI (v6 + 1) then l_X10_copied_6 n v1 v2 v4 (v5 + 0) (v6 + 1) mL_forms mL_costs else none) else (if (mL_forms (Int.toNat ((8 * v1) + v6))) = (-1) then (if zI (v5 + (mL_costs (Int.toNat 0))) ∧ zI (v6 + 1) then l_X10_copied_6 n v1 v2 v4 (v5 + (mL_costs (Int.toNat 0))) (v6 + 1) mL_forms mL_costs else none) else (if (mL_forms (Int.toNat ((8 * v2) + v6))) = (-1) then (if zI (v5 + (mL_costs (Int.toNat 2))) ∧ zI (v6 + 1) then l_X10_copied_6 n v1 v2 v4 (v5 + (mL_costs (Int.toNat 2))) (v6 + 1) mL_forms mL_costs else none) else (if zI (v5 + (mL_costs (Int.toNat 1))) ∧ zI (v6 + 1) then l_X10_copied_6 n v1 v2 v4 (v5 + (mL_costs (Int.toNat 1))) (v6 + 1) mL_forms mL_costs else none))) else none else none) else (some v5)
def f_X10_copied (p1 : Int) (p2 : Int) (p3 : Int) (p4 : Int) (mL_forms : Nat → Int) (mL_costs : Nat → Int) : Option (Int) := (l_X10_copied_6 zN p1 p2 p4 0 p3 mL_forms mL_costs).bind fun x7 => some x7
def l_X10_priceOf_9 : Nat → Int → Int → Int → (Nat → Int) → Option (Int)
  | 0, _, _, _, _ => none
  | n + 1, v1, v3, v4, mL_forms => if v4 < 8 then (if zin ((8 * v1) + v4) 64 then if (mL_forms (Int.toNat ((8 * v1) + v4))) = (-1) then (if zI (v3 + 0) ∧ zI (v4 + 1) then l_X10_priceOf_9 n v1 (v3 + 0) (v4 + 1) mL_forms else none) else (if zI (v3 + 1) ∧ zI (v4 + 1) then l_X10_priceOf_9 n v1 (v3 + 1) (v4 + 1) mL_forms else none) else none) else (some v3)
def f_X10_priceOf (p1 : Int) (p2 : Int) (mL_forms : Nat → Int) (mL_costs : Nat → Int) : Option (Int) := if p2 = 0 then ((l_X10_priceOf_9 zN p1 0 0 mL_forms).bind fun x4 => if zI (x4 * (mL_costs (Int.toNat 3))) then some (x4 * (mL_costs (Int.toNat 3))) else none) else (if p2 < 20 then (if zI (p2 - 1) then (f_X10_copied p1 (p2 - 1) 0 8 mL_forms mL_costs).bind fun x6 => some x6 else none) else ((f_X10_firstOf p2).bind fun x8 => (f_X10_cutOf p2).bind fun x9 => (f_X10_copied p1 x8 0 x9 mL_forms mL_costs).bind fun x10 => (f_X10_secondOf p2).bind fun x11 => (f_X10_cutOf p2).bind fun x12 => (f_X10_copied p1 x11 x12 8 mL_forms mL_costs).bind fun x13 => if zI (((mL_costs (Int.toNat 4)) + x10) + x13) then some (((mL_costs (Int.toNat 4)) + x10) + x13) else none))
def f_X10_price (p1 : Int) (p2 : Int) (mL_letters : Int) (mL_forms : Nat → Int) (mL_costs : Nat → Int) : Option (Int) := (f_X10_isLetter p1 mL_letters).bind fun x1 => if x1 = 0 then (some (-1)) else ((f_X10_isWay p1 p2 mL_letters).bind fun x2 => if x2 = 0 then (some (-1)) else ((f_X10_priceOf p1 p2 mL_forms mL_costs).bind fun x3 => some x3))
def f_X10_sources (p1 : Int) : Option (Int) := if p1 = 0 then (some 0) else (if p1 < 20 then (some (zshl 1 (p1 - 1))) else ((f_X10_firstOf p1).bind fun x1 => (f_X10_secondOf p1).bind fun x2 => some (zor (zshl 1 x1) (zshl 1 x2))))
def l_X10_prices_19 : Nat → Int → Int → Int → (Nat → Int) → (Nat → Int) → (Nat → Int) → Option (Nat → Int)
  | 0, _, _, _, _, _, _ => none
  | n + 1, v1, v2, mL_letters, mL_forms, mL_costs, mL_cheapest => if v2 < (zshl 1 mL_letters) then ((f_X10_priceOf v1 0 mL_forms mL_costs).bind fun x2 => if zin ((256 * v1) + v2) 2048 ∧ zI (v2 + 1) then l_X10_prices_19 n v1 (v2 + 1) mL_letters mL_forms mL_costs (zu mL_cheapest (Int.toNat ((256 * v1) + v2)) x2) else none) else (some mL_cheapest)
def l_X10_prices_55 : Nat → Int → Int → Int → (Nat → Int) → (Nat → Int) → (Nat → Int) → Option (Nat → Int)
  | 0, _, _, _, _, _, _ => none
  | n + 1, v1, v2, mL_letters, mL_forms, mL_costs, mL_cheapest => if v2 < 532 then ((f_X10_isWay v1 v2 mL_letters).bind fun x5 => if x5 = 0 then (if zI (v2 + 1) then l_X10_prices_55 n v1 (v2 + 1) mL_letters mL_forms mL_costs mL_cheapest else none) else ((f_X10_sources v2).bind fun x7 => (f_X10_priceOf v1 v2 mL_forms mL_costs).bind fun x8 => if zin ((256 * v1) + x7) 2048 then if x8 < (mL_cheapest (Int.toNat ((256 * v1) + x7))) then (if zin ((256 * v1) + x7) 2048 then if zI (v2 + 1) then l_X10_prices_55 n v1 (v2 + 1) mL_letters mL_forms mL_costs (zu mL_cheapest (Int.toNat ((256 * v1) + x7)) x8) else none else none) else (if zin ((256 * v1) + x7) 2048 then if zin ((256 * v1) + x7) 2048 then if zI (v2 + 1) then l_X10_prices_55 n v1 (v2 + 1) mL_letters mL_forms mL_costs (zu mL_cheapest (Int.toNat ((256 * v1) + x7)) (mL_cheapest (Int.toNat ((256 * v1) + x7)))) else none else none else none) else none)) else (some mL_cheapest)
def l_X10_prices_151 : Nat → Int → Int → Int → Int → (Nat → Int) → Option (Nat → Int)
  | 0, _, _, _, _, _ => none
  | n + 1, v1, v2, v3, mL_letters, mL_cheapest => if v3 < mL_letters then (if (zand (zshr v2 v3) 1) = 1 then (if zin ((256 * v1) + (zxor v2 (zshl 1 v3))) 2048 then if zin ((256 * v1) + v2) 2048 then if (mL_cheapest (Int.toNat ((256 * v1) + (zxor v2 (zshl 1 v3))))) < (mL_cheapest (Int.toNat ((256 * v1) + v2))) then (if zin ((256 * v1) + v2) 2048 ∧ zI (v3 + 1) then l_X10_prices_151 n v1 v2 (v3 + 1) mL_letters (zu mL_cheapest (Int.toNat ((256 * v1) + v2)) (mL_cheapest (Int.toNat ((256 * v1) + (zxor v2 (zshl 1 v3)))))) else none) else (if zin ((256 * v1) + v2) 2048 then if zin ((256 * v1) + v2) 2048 ∧ zI (v3 + 1) then l_X10_prices_151 n v1 v2 (v3 + 1) mL_letters (zu mL_cheapest (Int.toNat ((256 * v1) + v2)) (mL_cheapest (Int.toNat ((256 * v1) + v2)))) else none else none) else none else none) else (if zin ((256 * v1) + v2) 2048 then if (1000000 : Int) < (mL_cheapest (Int.toNat ((256 * v1) + v2))) then (if zin ((256 * v1) + v2) 2048 ∧ zI (v3 + 1) then l_X10_prices_151 n v1 v2 (v3 + 1) mL_letters (zu mL_cheapest (Int.toNat ((256 * v1) + v2)) 1000000) else none) else (if zin ((256 * v1) + v2) 2048 then if zin ((256 * v1) + v2) 2048 ∧ zI (v3 + 1) then l_X10_prices_151 n v1 v2 (v3 + 1) mL_letters (zu mL_cheapest (Int.toNat ((256 * v1) + v2)) (mL_cheapest (Int.toNat ((256 * v1) + v2)))) else none else none) else none)) else (some mL_cheapest)
def l_X10_prices_139 : Nat → Int → Int → Int → (Nat → Int) → Option (Nat → Int)
  | 0, _, _, _, _ => none
  | n + 1, v1, v2, mL_letters, mL_cheapest => if v2 < (zshl 1 mL_letters) then ((l_X10_prices_151 zN v1 v2 0 mL_letters mL_cheapest).bind fun x25 => if zI (v2 + 1) then l_X10_prices_139 n v1 (v2 + 1) mL_letters x25 else none) else (some mL_cheapest)
def l_X10_prices_2 : Nat → Int → Int → (Nat → Int) → (Nat → Int) → (Nat → Int) → (Nat → Int) → Option ((Nat → Int) × (Nat → Int))
  | 0, _, _, _, _, _, _ => none
  | n + 1, v1, mL_letters, mL_forms, mL_costs, mL_cheapest, mL_fixed => if v1 < mL_letters then (if zin v1 8 then (l_X10_prices_19 zN v1 0 mL_letters mL_forms mL_costs mL_cheapest).bind fun x4 => (l_X10_prices_55 zN v1 1 mL_letters mL_forms mL_costs x4).bind fun x15 => (l_X10_prices_139 zN v1 0 mL_letters x15).bind fun x27 => if zI (v1 + 1) then l_X10_prices_2 n (v1 + 1) mL_letters mL_forms mL_costs x27 (zu mL_fixed (Int.toNat v1) (-1)) else none else none) else (some (mL_cheapest, mL_fixed))
def f_X10_prices (mL_letters : Int) (mL_forms : Nat → Int) (mL_costs : Nat → Int) (mL_cheapest : Nat → Int) (mL_fixed : Nat → Int) : Option ((Nat → Int) × (Nat → Int)) := (l_X10_prices_2 zN 0 mL_letters mL_forms mL_costs mL_cheapest mL_fixed).bind fun x29 => some (x29.1, x29.2)
def l_X10_leastOf_9 : Nat → Int → Int → (Nat → Int) → Option (Nat → Int)
  | 0, _, _, _ => none
  | n + 1, v1, v2, mL_sumOf => if v2 < v1 then (if v2 = 0 then (if zin v2 256 ∧ zI (v2 + 1) then l_X10_leastOf_9 n v1 (v2 + 1) (zu mL_sumOf (Int.toNat v2) 0) else none) else (if zin v2 256 ∧ zI (v2 + 1) then l_X10_leastOf_9 n v1 (v2 + 1) (zu mL_sumOf (Int.toNat v2) 1000000) else none)) else (some mL_sumOf)
def l_X10_leastOf_45 : Nat → Int → Int → Int → Int → (Nat → Int) → (Nat → Int) → (Nat → Int) → (Nat → Int) → (Nat → Int) → Option (Nat → Int)
  | 0, _, _, _, _, _, _, _, _, _ => none
  | n + 1, v1, v2, v3, mL_letters, mL_forms, mL_costs, mL_cheapest, mL_fixed, mL_sumOf => if v3 < mL_letters then (if zin v2 256 then if (mL_sumOf (Int.toNat v2)) < 1000000 then (if (zand (zshr v2 v3) 1) = 0 then (if zin v3 8 then if (mL_fixed (Int.toNat v3)) = (-1) then (if zin ((256 * v3) + v2) 2048 then if zin v2 256 ∧ zI ((mL_sumOf (Int.toNat v2)) + (mL_cheapest (Int.toNat ((256 * v3) + v2)))) then if zin (zor v2 (zshl 1 v3)) 256 then if ((mL_sumOf (Int.toNat v2)) + (mL_cheapest (Int.toNat ((256 * v3) + v2)))) < (mL_sumOf (Int.toNat (zor v2 (zshl 1 v3)))) then (if zin (zor v2 (zshl 1 v3)) 256 then if zI (v3 + 1) then l_X10_leastOf_45 n v1 v2 (v3 + 1) mL_letters mL_forms mL_costs mL_cheapest mL_fixed (zu mL_sumOf (Int.toNat (zor v2 (zshl 1 v3))) ((mL_sumOf (Int.toNat v2)) + (mL_cheapest (Int.toNat ((256 * v3) + v2))))) else none else none) else (if zin (zor v2 (zshl 1 v3)) 256 then if zin (zor v2 (zshl 1 v3)) 256 then if zI (v3 + 1) then l_X10_leastOf_45 n v1 v2 (v3 + 1) mL_letters mL_forms mL_costs mL_cheapest mL_fixed (zu mL_sumOf (Int.toNat (zor v2 (zshl 1 v3))) (mL_sumOf (Int.toNat (zor v2 (zshl 1 v3))))) else none else none else none) else none else none else none) else ((f_X10_sources (mL_fixed (Int.toNat v3))).bind fun x14 => if (zand x14 (zxor v2 (-1))) = 0 then ((f_X10_priceOf v3 (mL_fixed (Int.toNat v3)) mL_forms mL_costs).bind fun x15 => if zin v2 256 ∧ zI ((mL_sumOf (Int.toNat v2)) + x15) then if zin (zor v2 (zshl 1 v3)) 256 then if ((mL_sumOf (Int.toNat v2)) + x15) < (mL_sumOf (Int.toNat (zor v2 (zshl 1 v3)))) then (if zin (zor v2 (zshl 1 v3)) 256 then if zI (v3 + 1) then l_X10_leastOf_45 n v1 v2 (v3 + 1) mL_letters mL_forms mL_costs mL_cheapest mL_fixed (zu mL_sumOf (Int.toNat (zor v2 (zshl 1 v3))) ((mL_sumOf (Int.toNat v2)) + x15)) else none else none) else (if zin (zor v2 (zshl 1 v3)) 256 then if zin (zor v2 (zshl 1 v3)) 256 then if zI (v3 + 1) then l_X10_leastOf_45 n v1 v2 (v3 + 1) mL_letters mL_forms mL_costs mL_cheapest mL_fixed (zu mL_sumOf (Int.toNat (zor v2 (zshl 1 v3))) (mL_sumOf (Int.toNat (zor v2 (zshl 1 v3))))) else none else none else none) else none else none) else (if zin v2 256 ∧ zI ((mL_sumOf (Int.toNat v2)) + 1000000) then if zin (zor v2 (zshl 1 v3)) 256 then if ((mL_sumOf (Int.toNat v2)) + 1000000) < (mL_sumOf (Int.toNat (zor v2 (zshl 1 v3)))) then (if zin (zor v2 (zshl 1 v3)) 256 then if zI (v3 + 1) then l_X10_leastOf_45 n v1 v2 (v3 + 1) mL_letters mL_forms mL_costs mL_cheapest mL_fixed (zu mL_sumOf (Int.toNat (zor v2 (zshl 1 v3))) ((mL_sumOf (Int.toNat v2)) + 1000000)) else none else none) else (if zin (zor v2 (zshl 1 v3)) 256 then if zin (zor v2 (zshl 1 v3)) 256 then if zI (v3 + 1) then l_X10_leastOf_45 n v1 v2 (v3 + 1) mL_letters mL_forms mL_costs mL_cheapest mL_fixed (zu mL_sumOf (Int.toNat (zor v2 (zshl 1 v3))) (mL_sumOf (Int.toNat (zor v2 (zshl 1 v3))))) else none else none else none) else none else none)) else none) else (if zI (v3 + 1) then l_X10_leastOf_45 n v1 v2 (v3 + 1) mL_letters mL_forms mL_costs mL_cheapest mL_fixed mL_sumOf else none)) else (some mL_sumOf) else none) else (some mL_sumOf)
def l_X10_leastOf_38 : Nat → Int → Int → Int → (Nat → Int) → (Nat → Int) → (Nat → Int) → (Nat → Int) → (Nat → Int) → Option (Nat → Int)
  | 0, _, _, _, _, _, _, _, _ => none
  | n + 1, v1, v2, mL_letters, mL_forms, mL_costs, mL_cheapest, mL_fixed, mL_sumOf => if v2 < v1 then ((l_X10_leastOf_45 zN v1 v2 0 mL_letters mL_forms mL_costs mL_cheapest mL_fixed mL_sumOf).bind fun x31 => if zI (v2 + 1) then l_X10_leastOf_38 n v1 (v2 + 1) mL_letters mL_forms mL_costs mL_cheapest mL_fixed x31 else none) else (some mL_sumOf)
def f_X10_leastOf (mL_letters : Int) (mL_forms : Nat → Int) (mL_costs : Nat → Int) (mL_cheapest : Nat → Int) (mL_fixed : Nat → Int) (mL_sumOf : Nat → Int) : Option (Int × (Nat → Int)) := (l_X10_leastOf_9 zN (zshl 1 mL_letters) 0 mL_sumOf).bind fun x3 => (l_X10_leastOf_38 zN (zshl 1 mL_letters) 0 mL_letters mL_forms mL_costs mL_cheapest mL_fixed x3).bind fun x33 => if zin ((zshl 1 mL_letters) - 1) 256 then some ((x33 (Int.toNat ((zshl 1 mL_letters) - 1))), x33) else none
def f_X10_leastAll (mL_letters : Int) (mL_forms : Nat → Int) (mL_costs : Nat → Int) (mL_cheapest : Nat → Int) (mL_fixed : Nat → Int) (mL_sumOf : Nat → Int) : Option (Int × (Nat → Int) × (Nat → Int) × (Nat → Int)) := (f_X10_prices mL_letters mL_forms mL_costs mL_cheapest mL_fixed).bind fun x1 => (f_X10_leastOf mL_letters mL_forms mL_costs x1.1 x1.2 mL_sumOf).bind fun x2 => some (x2.1, x1.1, x1.2, x2.2)
def f_X10_least (mL_letters : Int) (mL_forms : Nat → Int) (mL_costs : Nat → Int) (mL_cheapest : Nat → Int) (mL_fixed : Nat → Int) (mL_sumOf : Nat → Int) : Option (Int × (Nat → Int) × (Nat → Int) × (Nat → Int)) := (f_X10_leastAll mL_letters mL_forms mL_costs mL_cheapest mL_fixed mL_sumOf).bind fun x1 => some (x1.1, x1.2.1, x1.2.2.1, x1.2.2.2)
def l_X10_plants_20 : Nat → Int → Int → Int → Int → Int → (Nat → Int) → (Nat → Int) → (Nat → Int) → (Nat → Int) → (Nat → Int) → Option ((Nat → Int) × (Nat → Int))
  | 0, _, _, _, _, _, _, _, _, _, _ => none
  | n + 1, v1, v2, v3, v4, mL_letters, mL_forms, mL_costs, mL_cheapest, mL_fixed, mL_sumOf => if v4 = 0 then (if zI (v3 + 1) then (f_X10_isWay v2 (v3 + 1) mL_letters).bind fun x2 => if x2 = 0 then (l_X10_plants_20 n v1 v2 (v3 + 1) v4 mL_letters mL_forms mL_costs mL_cheapest mL_fixed mL_sumOf) else (if zin v2 8 then (f_X10_leastOf mL_letters mL_forms mL_costs mL_cheapest (zu mL_fixed (Int.toNat v2) (v3 + 1)) mL_sumOf).bind fun x4 => if x4.1 = v1 then (l_X10_plants_20 n v1 v2 (v3 + 1) 1 mL_letters mL_forms mL_costs mL_cheapest (zu mL_fixed (Int.toNat v2) (v3 + 1)) x4.2) else (l_X10_plants_20 n v1 v2 (v3 + 1) 0 mL_letters mL_forms mL_costs mL_cheapest (zu mL_fixed (Int.toNat v2) (v3 + 1)) x4.2) else none) else none) else (some (mL_fixed, mL_sumOf))
def l_X10_plants_7 : Nat → Int → Int → Int → (Nat → Int) → (Nat → Int) → (Nat → Int) → (Nat → Int) → (Nat → Int) → Option ((Nat → Int) × (Nat → Int))
  | 0, _, _, _, _, _, _, _, _ => none
  | n + 1, v1, v2, mL_letters, mL_forms, mL_costs, mL_cheapest, mL_fixed, mL_sumOf => if v2 < mL_letters then ((l_X10_plants_20 zN v1 v2 (-1) 0 mL_letters mL_forms mL_costs mL_cheapest mL_fixed mL_sumOf).bind fun x6 => if zI (v2 + 1) then l_X10_plants_7 n v1 (v2 + 1) mL_letters mL_forms mL_costs mL_cheapest x6.1 x6.2 else none) else (some (mL_fixed, mL_sumOf))
def f_X10_plants (mL_letters : Int) (mL_forms : Nat → Int) (mL_costs : Nat → Int) (mL_cheapest : Nat → Int) (mL_fixed : Nat → Int) (mL_sumOf : Nat → Int) : Option ((Nat → Int) × (Nat → Int) × (Nat → Int)) := (f_X10_leastAll mL_letters mL_forms mL_costs mL_cheapest mL_fixed mL_sumOf).bind fun x1 => (l_X10_plants_7 zN x1.1 0 mL_letters mL_forms mL_costs x1.2.1 x1.2.2.1 x1.2.2.2).bind fun x8 => some (x1.2.1, x8.1, x8.2)
def f_X10_way (p1 : Int) (mL_letters : Int) (mL_forms : Nat → Int) (mL_costs : Nat → Int) (mL_cheapest : Nat → Int) (mL_fixed : Nat → Int) (mL_sumOf : Nat → Int) : Option (Int × (Nat → Int) × (Nat → Int) × (Nat → Int)) := (f_X10_isLetter p1 mL_letters).bind fun x1 => if x1 = 0 then (some ((-1), mL_cheapest, mL_fixed, mL_sumOf)) else ((f_X10_plants mL_letters mL_forms mL_costs mL_cheapest mL_fixed mL_sumOf).bind fun x2 => if zin p1 8 then some ((x2.2.1 (Int.toNat p1)), x2.1, x2.2.1, x2.2.2) else none)
def f_X10_may (p1 : Int) (p2 : Int) (mL_letters : Int) (mL_forms : Nat → Int) (mL_costs : Nat → Int) (mL_cheapest : Nat → Int) (mL_fixed : Nat → Int) (mL_sumOf : Nat → Int) : Option (Int × (Nat → Int) × (Nat → Int) × (Nat → Int)) := (f_X10_isLetter p1 mL_letters).bind fun x1 => if x1 = 0 then (some ((-2), mL_cheapest, mL_fixed, mL_sumOf)) else ((f_X10_isWay p1 p2 mL_letters).bind fun x2 => if x2 = 0 then (some ((-2), mL_cheapest, mL_fixed, mL_sumOf)) else ((f_X10_leastAll mL_letters mL_forms mL_costs mL_cheapest mL_fixed mL_sumOf).bind fun x3 => if zin p1 8 then (f_X10_leastOf mL_letters mL_forms mL_costs x3.2.1 (zu x3.2.2.1 (Int.toNat p1) p2) x3.2.2.2).bind fun x4 => if x4.1 = x3.1 then (some (1, x3.2.1, (zu x3.2.2.1 (Int.toNat p1) p2), x4.2)) else (some (0, x3.2.1, (zu x3.2.2.1 (Int.toNat p1) p2), x4.2)) else none))
def l_X10_sure_21 : Nat → Int → Int → Int → Int → Int → (Nat → Int) → (Nat → Int) → (Nat → Int) → (Nat → Int) → (Nat → Int) → Option (Int × (Nat → Int) × (Nat → Int))
  | 0, _, _, _, _, _, _, _, _, _, _ => none
  | n + 1, v1, v2, v3, v4, mL_letters, mL_forms, mL_costs, mL_cheapest, mL_fixed, mL_sumOf => if v4 < 532 then (if v3 < 2 then ((f_X10_isWay v1 v4 mL_letters).bind fun x3 => if x3 = 0 then (if zI (v4 + 1) then l_X10_sure_21 n v1 v2 v3 (v4 + 1) mL_letters mL_forms mL_costs mL_cheapest mL_fixed mL_sumOf else none) else (if zin v1 8 then (f_X10_leastOf mL_letters mL_forms mL_costs mL_cheapest (zu mL_fixed (Int.toNat v1) v4) mL_sumOf).bind fun x5 => if x5.1 = v2 then (if zI (v3 + 1) then if zI (v4 + 1) then l_X10_sure_21 n v1 v2 (v3 + 1) (v4 + 1) mL_letters mL_forms mL_costs mL_cheapest (zu mL_fixed (Int.toNat v1) v4) x5.2 else none else none) else (if zI (v3 + 0) then if zI (v4 + 1) then l_X10_sure_21 n v1 v2 (v3 + 0) (v4 + 1) mL_letters mL_forms mL_costs mL_cheapest (zu mL_fixed (Int.toNat v1) v4) x5.2 else none else none) else none)) else (some (v3, mL_fixed, mL_sumOf))) else (some (v3, mL_fixed, mL_sumOf))
def f_X10_sure (p1 : Int) (mL_letters : Int) (mL_forms : Nat → Int) (mL_costs : Nat → Int) (mL_cheapest : Nat → Int) (mL_fixed : Nat → Int) (mL_sumOf : Nat → Int) : Option (Int × (Nat → Int) × (Nat → Int) × (Nat → Int)) := (f_X10_isLetter p1 mL_letters).bind fun x1 => if x1 = 0 then (some ((-2), mL_cheapest, mL_fixed, mL_sumOf)) else ((f_X10_leastAll mL_letters mL_forms mL_costs mL_cheapest mL_fixed mL_sumOf).bind fun x2 => (l_X10_sure_21 zN p1 x2.1 0 0 mL_letters mL_forms mL_costs x2.2.1 x2.2.2.1 x2.2.2.2).bind fun x11 => if x11.1 = 1 then (some (1, x2.2.1, x11.2.1, x11.2.2)) else (some (0, x2.2.1, x11.2.1, x11.2.2)))
def l_X10_date_27 : Nat → Int → Int → Int → Int → (Nat → Int) → (Nat → Int) → (Nat → Int) → (Nat → Int) → Option ((Nat → Int) × (Nat → Int))
  | 0, _, _, _, _, _, _, _, _ => none
  | n + 1, v1, v2, v3, mL_letters, mL_from, mL_to, mL_early, mL_late => if v3 < mL_letters then (if zin v3 8 ∧ zin v3 8 ∧ zin v3 8 ∧ zin v3 8 then if zI (v3 + 1) then l_X10_date_27 n v1 v2 (v3 + 1) mL_letters mL_from mL_to (zu mL_early (Int.toNat v3) (mL_from (Int.toNat v3))) (zu mL_late (Int.toNat v3) (mL_to (Int.toNat v3))) else none else none) else (some (mL_early, mL_late))
def l_X10_date_103 : Nat → Int → Int → Int → Int → Int → Int → Int → (Nat → Int) → (Nat → Int) → Option ((Nat → Int) × (Nat → Int))
  | 0, _, _, _, _, _, _, _, _, _ => none
  | n + 1, v1, v2, v3, v4, v5, v6, mL_letters, mL_early, mL_late => if v6 < mL_letters then (if (zand (zshr v5 v6) 1) = 1 then (if zin v6 8 ∧ zin v4 8 then if (mL_early (Int.toNat v4)) < (mL_early (Int.toNat v6)) then (if zin v6 8 then if zin v4 8 ∧ zin v4 8 ∧ zin v6 8 then if (mL_late (Int.toNat v4)) < (mL_late (Int.toNat v6)) then (if zin v4 8 then if zin v6 8 then if zI (v6 + 1) then l_X10_date_103 n v1 v2 v3 v4 v5 (v6 + 1) mL_letters (zu mL_early (Int.toNat v4) (mL_early (Int.toNat v6))) (zu mL_late (Int.toNat v6) (mL_late (Int.toNat v4))) else none else none else none) else (if zin v6 8 then if zin v6 8 then if zI (v6 + 1) then l_X10_date_103 n v1 v2 v3 v4 v5 (v6 + 1) mL_letters (zu mL_early (Int.toNat v4) (mL_early (Int.toNat v6))) (zu mL_late (Int.toNat v6) (mL_late (Int.toNat v6))) else none else none else none) else none else none) else (if zin v4 8 then if zin v4 8 ∧ zin v4 8 ∧ zin v6 8 then if (mL_late (Int.toNat v4)) < (mL_late (Int.toNat v6)) then (if zin v4 8 then if zin v6 8 then if zI (v6 + 1) then l_X10_date_103 n v1 v2 v3 v4 v5 (v6 + 1) mL_letters (zu mL_early (Int.toNat v4) (mL_early (Int.toNat v4))) (zu mL_late (Int.toNat v6) (mL_late (Int.toNat v4))) else none else none else none) else (if zin v6 8 then if zin v6 8 then if zI (v6 + 1) then l_X10_date_103 n v1 v2 v3 v4 v5 (v6 + 1) mL_letters (zu mL_early (Int.toNat v4) (mL_early (Int.toNat v4))) (zu mL_late (Int.toNat v6) (mL_late (Int.toNat v6))) else none else none else none) else none else none) else none) else (if zI (v6 + 1) then l_X10_date_103 n v1 v2 v3 v4 v5 (v6 + 1) mL_letters mL_early mL_late else none)) else (some (mL_early, mL_late))
def l_X10_date_78 : Nat → Int → Int → Int → Int → Int → (Nat → Int) → (Nat → Int) → (Nat → Int) → Option ((Nat → Int) × (Nat → Int))
  | 0, _, _, _, _, _, _, _, _ => none
  | n + 1, v1, v2, v3, v4, mL_letters, mL_fixed, mL_early, mL_late => if v4 < mL_letters then (if zin v4 8 then (f_X10_sources (mL_fixed (Int.toNat v4))).bind fun x7 => (l_X10_date_103 zN v1 v2 v3 v4 x7 0 mL_letters mL_early mL_late).bind fun x27 => if zI (v4 + 1) then l_X10_date_78 n v1 v2 v3 (v4 + 1) mL_letters mL_fixed x27.1 x27.2 else none else none) else (some (mL_early, mL_late))
def l_X10_date_67 : Nat → Int → Int → Int → Int → (Nat → Int) → (Nat → Int) → (Nat → Int) → Option ((Nat → Int) × (Nat → Int))
  | 0, _, _, _, _, _, _, _ => none
  | n + 1, v1, v2, v3, mL_letters, mL_fixed, mL_early, mL_late => if v3 < mL_letters then ((l_X10_date_78 zN v1 v2 v3 0 mL_letters mL_fixed mL_early mL_late).bind fun x29 => if zI (v3 + 1) then l_X10_date_67 n v1 v2 (v3 + 1) mL_letters mL_fixed x29.1 x29.2 else none) else (some (mL_early, mL_late))
def l_X10_date_228 : Nat → Int → Int → Int → Int → Int → (Nat → Int) → (Nat → Int) → Option (Int)
  | 0, _, _, _, _, _, _, _ => none
  | n + 1, v1, v2, v3, v4, mL_letters, mL_early, mL_late => if v4 < mL_letters then (if v3 = 0 then (if zI (v4 + 1) then l_X10_date_228 n v1 v2 0 (v4 + 1) mL_letters mL_early mL_late else none) else (if zin v4 8 ∧ zin v4 8 then if (mL_late (Int.toNat v4)) < (mL_early (Int.toNat v4)) then (if zI (v4 + 1) then l_X10_date_228 n v1 v2 0 (v4 + 1) mL_letters mL_early mL_late else none) else (if zI (v4 + 1) then l_X10_date_228 n v1 v2 1 (v4 + 1) mL_letters mL_early mL_late else none) else none)) else (some v3)
def f_X10_date (p1 : Int) (p2 : Int) (mL_letters : Int) (mL_from : Nat → Int) (mL_to : Nat → Int) (mL_forms : Nat → Int) (mL_costs : Nat → Int) (mL_cheapest : Nat → Int) (mL_fixed : Nat → Int) (mL_sumOf : Nat → Int) (mL_early : Nat → Int) (mL_late : Nat → Int) : Option (Int × (Nat → Int) × (Nat → Int) × (Nat → Int) × (Nat → Int) × (Nat → Int)) := (f_X10_isLetter p1 mL_letters).bind fun x1 => if x1 = 0 then (some ((-2), mL_cheapest, mL_fixed, mL_sumOf, mL_early, mL_late)) else ((f_X10_in p2 0 1).bind fun x2 => if x2 = 0 then (some ((-2), mL_cheapest, mL_fixed, mL_sumOf, mL_early, mL_late)) else ((f_X10_plants mL_letters mL_forms mL_costs mL_cheapest mL_fixed mL_sumOf).bind fun x3 => (l_X10_date_27 zN p1 p2 0 mL_letters mL_from mL_to mL_early mL_late).bind fun x6 => (l_X10_date_67 zN p1 p2 0 mL_letters x3.2.1 x6.1 x6.2).bind fun x31 => (l_X10_date_228 zN p1 p2 1 0 mL_letters x31.1 x31.2).bind fun x36 => if x36 = 0 then (some ((-1), x3.1, x3.2.1, x3.2.2, x31.1, x31.2)) else (if p2 = 0 then (if zin p1 8 then some ((x31.1 (Int.toNat p1)), x3.1, x3.2.1, x3.2.2, x31.1, x31.2) else none) else (if zin p1 8 then some ((x31.2 (Int.toNat p1)), x3.1, x3.2.1, x3.2.2, x31.1, x31.2) else none))))
def l_X10_name_27 : Nat → Int → Int → Int → Int → Int → Option (Int × Int)
  | 0, _, _, _, _, _ => none
  | n + 1, v1, v2, v3, v4, v5 => if v5 < v1 then (if v4 = 0 then (if zI (Int.tdiv v3 27) ∧ zI (v5 + 1) then l_X10_name_27 n v1 v2 (Int.tdiv v3 27) 0 (v5 + 1) else none) else (if (0 : Int) < (Int.tmod v3 27) then (if zI (Int.tdiv v3 27) ∧ zI (v5 + 1) then l_X10_name_27 n v1 v2 (Int.tdiv v3 27) 1 (v5 + 1) else none) else (if zI (Int.tdiv v3 27) ∧ zI (v5 + 1) then l_X10_name_27 n v1 v2 (Int.tdiv v3 27) 0 (v5 + 1) else none))) else (some (v3, v4))
def l_X10_name_114 : Nat → Int → Int → Int → (Nat → Int) → Option (Nat → Int)
  | 0, _, _, _, _ => none
  | n + 1, v3, v5, mN_names, mN_signs => if v5 < 0 then (some mN_signs) else (if zin ((6 * mN_names) + v5) 60 then if zI (Int.tdiv v3 27) ∧ zI (v5 + (-1)) then l_X10_name_114 n (Int.tdiv v3 27) (v5 + (-1)) mN_names (zu mN_signs (Int.toNat ((6 * mN_names) + v5)) (Int.tmod v3 27)) else none else none)
def f_X10_name (p1 : Int) (p2 : Int) (mN_names : Int) (mN_lengths : Nat → Int) (mN_spelt : Nat → Int) (mN_signs : Nat → Int) : Option (Int × Int × (Nat → Int) × (Nat → Int) × (Nat → Int)) := (f_X10_in p1 1 6).bind fun x1 => if x1 = 0 then (some ((-2), mN_names, mN_lengths, mN_spelt, mN_signs)) else (if p2 < 0 then (some ((-2), mN_names, mN_lengths, mN_spelt, mN_signs)) else ((l_X10_name_27 zN p1 p2 p2 1 0).bind fun x5 => if x5.2 = 0 then (some ((-2), mN_names, mN_lengths, mN_spelt, mN_signs)) else (if (0 : Int) < x5.1 then (some ((-2), mN_names, mN_lengths, mN_spelt, mN_signs)) else (if mN_names = 10 then (some ((-4), mN_names, mN_lengths, mN_spelt, mN_signs)) else (if zin mN_names 10 ∧ zin mN_names 10 then if zI (p1 - 1) then (l_X10_name_114 zN p2 (p1 - 1) mN_names mN_signs).bind fun x10 => if zI (mN_names + 1) ∧ zI ((mN_names + 1) - 1) then some (((mN_names + 1) - 1), (mN_names + 1), (zu mN_lengths (Int.toNat mN_names) p1), (zu mN_spelt (Int.toNat mN_names) p2), x10) else none else none else none)))))
def f_X10_isName (p1 : Int) (mN_names : Int) : Option (Int) := if zI (mN_names - 1) then (f_X10_in p1 0 (mN_names - 1)).bind fun x1 => if zbit x1 then some x1 else none else none
def f_X10_lesser (p0 : Int) (p1 : Int) : Option (Int) := if p0 < p1 then (some p0) else (some p1)
def l_X10_slipsOf_15 : Nat → Int → Int → Int → Int → (Nat → Int) → (Nat → Int) → (Nat → Int) → Option (Nat → Int)
  | 0, _, _, _, _, _, _, _ => none
  | n + 1, v1, v2, v3, v4, mN_lengths, mN_signs, mN_table => if zin v2 10 then if (mN_lengths (Int.toNat v2)) < v4 then (some mN_table) else (if v3 = 0 then (if zin ((7 * v3) + v4) 49 ∧ zI (v3 + v4) then if zI (v4 + 1) then l_X10_slipsOf_15 n v1 v2 v3 (v4 + 1) mN_lengths mN_signs (zu mN_table (Int.toNat ((7 * v3) + v4)) (v3 + v4)) else none else none) else (if v4 = 0 then (if zin ((7 * v3) + v4) 49 ∧ zI (v3 + v4) then if zI (v4 + 1) then l_X10_slipsOf_15 n v1 v2 v3 (v4 + 1) mN_lengths mN_signs (zu mN_table (Int.toNat ((7 * v3) + v4)) (v3 + v4)) else none else none) else (if zin (((6 * v1) + v3) - 1) 60 ∧ zin (((6 * v2) + v4) - 1) 60 then if (mN_signs (Int.toNat (((6 * v1) + v3) - 1))) = (mN_signs (Int.toNat (((6 * v2) + v4) - 1))) then (if zin (((7 * v3) + v4) - 8) 49 ∧ zin (((7 * v3) + v4) - 7) 49 ∧ zin (((7 * v3) + v4) - 1) 49 then (f_X10_lesser (mN_table (Int.toNat (((7 * v3) + v4) - 7))) (mN_table (Int.toNat (((7 * v3) + v4) - 1)))).bind fun x8 => if zI (1 + x8) ∧ zI ((mN_table (Int.toNat (((7 * v3) + v4) - 8))) + 0) then (f_X10_lesser ((mN_table (Int.toNat (((7 * v3) + v4) - 8))) + 0) (1 + x8)).bind fun x10 => if zin ((7 * v3) + v4) 49 then if zI (v4 + 1) then l_X10_slipsOf_15 n v1 v2 v3 (v4 + 1) mN_lengths mN_signs (zu mN_table (Int.toNat ((7 * v3) + v4)) x10) else none else none else none else none) else (if zin (((7 * v3) + v4) - 8) 49 ∧ zin (((7 * v3) + v4) - 7) 49 ∧ zin (((7 * v3) + v4) - 1) 49 then (f_X10_lesser (mN_table (Int.toNat (((7 * v3) + v4) - 7))) (mN_table (Int.toNat (((7 * v3) + v4) - 1)))).bind fun x14 => if zI (1 + x14) ∧ zI ((mN_table (Int.toNat (((7 * v3) + v4) - 8))) + 1) then (f_X10_lesser ((mN_table (Int.toNat (((7 * v3) + v4) - 8))) + 1) (1 + x14)).bind fun x16 => if zin ((7 * v3) + v4) 49 then if zI (v4 + 1) then l_X10_slipsOf_15 n v1 v2 v3 (v4 + 1) mN_lengths mN_signs (zu mN_table (Int.toNat ((7 * v3) + v4)) x16) else none else none else none else none) else none))) else none
def l_X10_slipsOf_2 : Nat → Int → Int → Int → (Nat → Int) → (Nat → Int) → (Nat → Int) → Option (Nat → Int)
  | 0, _, _, _, _, _, _ => none
  | n + 1, v1, v2, v3, mN_lengths, mN_signs, mN_table => if zin v1 10 then if (mN_lengths (Int.toNat v1)) < v3 then (some mN_table) else ((l_X10_slipsOf_15 zN v1 v2 v3 0 mN_lengths mN_signs mN_table).bind fun x20 => if zI (v3 + 1) then l_X10_slipsOf_2 n v1 v2 (v3 + 1) mN_lengths mN_signs x20 else none) else none
def f_X10_slipsOf (p1 : Int) (p2 : Int) (mN_lengths : Nat → Int) (mN_signs : Nat → Int) (mN_table : Nat → Int) : Option (Int × (Nat → Int)) := (l_X10_slipsOf_2 zN p1 p2 0 mN_lengths mN_signs mN_table).bind fun x22 => if zin p1 10 ∧ zin p2 10 ∧ zin ((7 * (mN_lengths (Int.toNat p1))) + (mN_lengths (Int.toNat p2))) 49 then some ((x22 (Int.toNat ((7 * (mN_lengths (Int.toNat p1))) + (mN_lengths (Int.toNat p2))))), x22) else none
def f_X10_slips (p1 : Int) (p2 : Int) (mN_names : Int) (mN_lengths : Nat → Int) (mN_signs : Nat → Int) (mN_table : Nat → Int) : Option (Int × (Nat → Int)) := (f_X10_isName p1 mN_names).bind fun x1 => if x1 = 0 then (some ((-2), mN_table)) else ((f_X10_isName p2 mN_names).bind fun x2 => if x2 = 0 then (some ((-2), mN_table)) else ((f_X10_slipsOf p1 p2 mN_lengths mN_signs mN_table).bind fun x3 => some (x3.1, x3.2)))
def f_X10_step (p1 : Int) (p2 : Int) (mN_lengths : Nat → Int) (mN_signs : Nat → Int) (mN_table : Nat → Int) : Option (Int × (Nat → Int)) := (f_X10_slipsOf p1 p2 mN_lengths mN_signs mN_table).bind fun x1 => if zI (((100 * x1.1) * x1.1) + 1) then some ((((100 * x1.1) * x1.1) + 1), x1.2) else none
def l_X10_worn_27 : Nat → Int → Int → Int → Int → Int → (Nat → Int) → Option (Nat → Int)
  | 0, _, _, _, _, _, _ => none
  | n + 1, v1, v2, v3, v4, mN_names, mN_far => if v4 < mN_names then (if v4 = v2 then (if zin v4 10 ∧ zI (v4 + 1) then l_X10_worn_27 n v1 v2 v3 (v4 + 1) mN_names (zu mN_far (Int.toNat v4) 0) else none) else (if zin v4 10 ∧ zI (v4 + 1) then l_X10_worn_27 n v1 v2 v3 (v4 + 1) mN_names (zu mN_far (Int.toNat v4) 1000000) else none)) else (some mN_far)
def l_X10_worn_88 : Nat → Int → Int → Int → Int → Int → Int → Int → (Nat → Int) → (Nat → Int) → (Nat → Int) → (Nat → Int) → Option ((Nat → Int) × (Nat → Int))
  | 0, _, _, _, _, _, _, _, _, _, _, _ => none
  | n + 1, v1, v2, v3, v4, v5, v6, mN_names, mN_lengths, mN_signs, mN_table, mN_far => if v6 < mN_names then (if v6 = v5 then (if zin v5 10 then if (1000000 : Int) < (mN_far (Int.toNat v5)) then (if zin v5 10 ∧ zI (v6 + 1) then l_X10_worn_88 n v1 v2 v3 v4 v5 (v6 + 1) mN_names mN_lengths mN_signs mN_table (zu mN_far (Int.toNat v5) 1000000) else none) else (if zin v5 10 then if zin v5 10 ∧ zI (v6 + 1) then l_X10_worn_88 n v1 v2 v3 v4 v5 (v6 + 1) mN_names mN_lengths mN_signs mN_table (zu mN_far (Int.toNat v5) (mN_far (Int.toNat v5))) else none else none) else none) else (if zin v6 10 then (f_X10_step v5 v6 mN_lengths mN_signs mN_table).bind fun x10 => if zI ((mN_far (Int.toNat v6)) + x10.1) ∧ zin v5 10 then if ((mN_far (Int.toNat v6)) + x10.1) < (mN_far (Int.toNat v5)) then (if zin v5 10 ∧ zI (v6 + 1) then l_X10_worn_88 n v1 v2 v3 v4 v5 (v6 + 1) mN_names mN_lengths mN_signs x10.2 (zu mN_far (Int.toNat v5) ((mN_far (Int.toNat v6)) + x10.1)) else none) else (if zin v5 10 then if zin v5 10 ∧ zI (v6 + 1) then l_X10_worn_88 n v1 v2 v3 v4 v5 (v6 + 1) mN_names mN_lengths mN_signs x10.2 (zu mN_far (Int.toNat v5) (mN_far (Int.toNat v5))) else none else none) else none else none)) else (some (mN_table, mN_far))
def l_X10_worn_76 : Nat → Int → Int → Int → Int → Int → Int → (Nat → Int) → (Nat → Int) → (Nat → Int) → (Nat → Int) → Option ((Nat → Int) × (Nat → Int))
  | 0, _, _, _, _, _, _, _, _, _, _ => none
  | n + 1, v1, v2, v3, v4, v5, mN_names, mN_lengths, mN_signs, mN_table, mN_far => if v5 < mN_names then ((l_X10_worn_88 zN v1 v2 v3 v4 v5 0 mN_names mN_lengths mN_signs mN_table mN_far).bind fun x16 => if zI (v5 + 1) then l_X10_worn_76 n v1 v2 v3 v4 (v5 + 1) mN_names mN_lengths mN_signs x16.1 x16.2 else none) else (some (mN_table, mN_far))
def l_X10_worn_64 : Nat → Int → Int → Int → Int → Int → (Nat → Int) → (Nat → Int) → (Nat → Int) → (Nat → Int) → Option ((Nat → Int) × (Nat → Int))
  | 0, _, _, _, _, _, _, _, _, _ => none
  | n + 1, v1, v2, v3, v4, mN_names, mN_lengths, mN_signs, mN_table, mN_far => if v4 < mN_names then ((l_X10_worn_76 zN v1 v2 v3 v4 0 mN_names mN_lengths mN_signs mN_table mN_far).bind fun x18 => if zI (v4 + 1) then l_X10_worn_64 n v1 v2 v3 (v4 + 1) mN_names mN_lengths mN_signs x18.1 x18.2 else none) else (some (mN_table, mN_far))
def l_X10_worn_223 : Nat → Int → Int → Int → Int → Int → Int → (Nat → Int) → (Nat → Int) → (Nat → Int) → (Nat → Int) → Option (Int × (Nat → Int))
  | 0, _, _, _, _, _, _, _, _, _, _ => none
  | n + 1, v2, v3, v4, v5, v6, v7, mN_lengths, mN_signs, mN_table, mN_far => if v7 < 0 then (some (v6, mN_table)) else (if v7 = v4 then (if zI (v7 + (-1)) then l_X10_worn_223 n v2 v3 v4 v5 v6 (v7 + (-1)) mN_lengths mN_signs mN_table mN_far else none) else (if zin v7 10 then (f_X10_step v4 v7 mN_lengths mN_signs mN_table).bind fun x24 => if zin v4 10 ∧ zI ((mN_far (Int.toNat v7)) + x24.1) then if ((mN_far (Int.toNat v7)) + x24.1) = (mN_far (Int.toNat v4)) then (if zI (v7 + (-1)) then l_X10_worn_223 n v2 v3 v4 v5 v7 (v7 + (-1)) mN_lengths mN_signs x24.2 mN_far else none) else (if zI (v7 + (-1)) then l_X10_worn_223 n v2 v3 v4 v5 v6 (v7 + (-1)) mN_lengths mN_signs x24.2 mN_far else none) else none else none))
def l_X10_worn_197 : Nat → Int → Int → Int → Int → Int → (Nat → Int) → (Nat → Int) → (Nat → Int) → (Nat → Int) → Option (Int × (Nat → Int) × (Nat → Int))
  | 0, _, _, _, _, _, _, _, _, _ => none
  | n + 1, v2, v3, v4, v5, mN_names, mN_lengths, mN_signs, mN_table, mN_far => if v5 < v3 then (if v4 = v2 then (some ((-5), mN_table, mN_far)) else (if zI (mN_names - 1) then (l_X10_worn_223 zN v2 v3 v4 v5 (-1) (mN_names - 1) mN_lengths mN_signs mN_table mN_far).bind fun x29 => if zI (v5 + 1) then l_X10_worn_197 n v2 v3 x29.1 (v5 + 1) mN_names mN_lengths mN_signs x29.2 mN_far else none else none)) else (some (v4, mN_table, mN_far))
def f_X10_worn (p1 : Int) (p2 : Int) (p3 : Int) (mN_names : Int) (mN_lengths : Nat → Int) (mN_signs : Nat → Int) (mN_table : Nat → Int) (mN_far : Nat → Int) : Option (Int × (Nat → Int) × (Nat → Int)) := (f_X10_isName p1 mN_names).bind fun x1 => if x1 = 0 then (some ((-10), mN_table, mN_far)) else ((f_X10_isName p2 mN_names).bind fun x2 => if x2 = 0 then (some ((-10), mN_table, mN_far)) else (if p3 < (-1) then (some ((-10), mN_table, mN_far)) else ((l_X10_worn_27 zN p1 p2 p3 0 mN_names mN_far).bind fun x5 => (l_X10_worn_64 zN p1 p2 p3 0 mN_names mN_lengths mN_signs mN_table x5).bind fun x20 => if p3 = (-1) then (if zin p1 10 ∧ zI (Int.tdiv (x20.2 (Int.toNat p1)) 100) then some ((Int.tdiv (x20.2 (Int.toNat p1)) 100), x20.1, x20.2) else none) else (l_X10_worn_197 zN p2 p3 p1 0 mN_names mN_lengths mN_signs x20.1 x20.2))))
def f_X10_habit (p1 : Int) (p2 : Int) (mH_habits : Nat → Int) : Option (Int × (Nat → Int)) := (f_X10_in p1 0 9).bind fun x1 => if x1 = 0 then (some ((-2), mH_habits)) else ((f_X10_in p2 0 100).bind fun x2 => if x2 = 0 then (some ((-2), mH_habits)) else (if zin p1 10 ∧ zin p1 10 then some ((mH_habits (Int.toNat p1)), (zu mH_habits (Int.toNat p1) p2)) else none))
def l_X10_weights_4 : Nat → Int → Int → (Nat → Int) → Option (Int)
  | 0, _, _, _ => none
  | n + 1, v1, v2, mH_habits => if v2 < 10 then (if zin v2 10 ∧ zI (v1 + (mH_habits (Int.toNat v2))) ∧ zI (v2 + 1) then l_X10_weights_4 n (v1 + (mH_habits (Int.toNat v2))) (v2 + 1) mH_habits else none) else (some v1)
def f_X10_weights (mH_habits : Nat → Int) : Option (Int) := (l_X10_weights_4 zN 0 0 mH_habits).bind fun x2 => some x2
def l_X10_copiesOfAll_4 : Nat → Int → Int → (Nat → Int) → Option (Int)
  | 0, _, _, _ => none
  | n + 1, v1, v2, mH_habits => if v2 < 10 then (if zin v2 10 ∧ zI (v1 + (v2 * (mH_habits (Int.toNat v2)))) then if zI (v2 + 1) then l_X10_copiesOfAll_4 n (v1 + (v2 * (mH_habits (Int.toNat v2)))) (v2 + 1) mH_habits else none else none) else (some v1)
def f_X10_copiesOfAll (mH_habits : Nat → Int) : Option (Int) := (l_X10_copiesOfAll_4 zN 0 0 mH_habits).bind fun x3 => some x3
def f_X10_lives (mH_habits : Nat → Int) : Option (Int) := (f_X10_weights mH_habits).bind fun x1 => (f_X10_copiesOfAll mH_habits).bind fun x2 => if x1 = 0 then (some 0) else (if x2 < x1 then (some 0) else (if x2 = x1 then (some 1) else (some 2)))
def l_X10_trims_0 : Nat → Int → (Nat → Int) → (Nat → Int) → Option (Nat → Int)
  | 0, _, _, _ => none
  | n + 1, v1, mK_limbs, mK_wide => if zin v1 9 then if (0 : Int) < (mK_wide (Int.toNat v1)) then (if zin v1 9 ∧ zin (((70 * v1) + (mK_wide (Int.toNat v1))) - 1) 630 then if (mK_limbs (Int.toNat (((70 * v1) + (mK_wide (Int.toNat v1))) - 1))) = 0 then (if zin v1 9 ∧ zin v1 9 ∧ zI ((mK_wide (Int.toNat v1)) - 1) then l_X10_trims_0 n v1 mK_limbs (zu mK_wide (Int.toNat v1) ((mK_wide (Int.toNat v1)) - 1)) else none) else (some mK_wide) else none) else (some mK_wide) else none
def f_X10_trims (p1 : Int) (mK_limbs : Nat → Int) (mK_wide : Nat → Int) : Option (Nat → Int) := (l_X10_trims_0 zN p1 mK_limbs mK_wide).bind fun x4 => some x4
def l_X10_sets_3 : Nat → Int → Int → Int → (Nat → Int) → Option (Nat → Int)
  | 0, _, _, _, _ => none
  | n + 1, v1, v2, v4, mK_limbs => if v4 < 70 then (if v4 < 3 then (if zin ((70 * v1) + v4) 630 ∧ zI (zandl (zshrl v2 (30 * v4)) 1073741823) ∧ zI (v4 + 1) then l_X10_sets_3 n v1 v2 (v4 + 1) (zu mK_limbs (Int.toNat ((70 * v1) + v4)) (zandl (zshrl v2 (30 * v4)) 1073741823)) else none) else (if zin ((70 * v1) + v4) 630 ∧ zI (v4 + 1) then l_X10_sets_3 n v1 v2 (v4 + 1) (zu mK_limbs (Int.toNat ((70 * v1) + v4)) 0) else none)) else (some mK_limbs)
def f_X10_sets (p1 : Int) (p2 : Int) (mK_limbs : Nat → Int) (mK_wide : Nat → Int) : Option ((Nat → Int) × (Nat → Int)) := (l_X10_sets_3 zN p1 p2 0 mK_limbs).bind fun x3 => if zin p1 9 then (f_X10_trims p1 x3 (zu mK_wide (Int.toNat p1) 3)).bind fun x4 => some (x3, x4) else none
def f_X10_isEven (p1 : Int) (mK_limbs : Nat → Int) : Option (Int) := if zin (70 * p1) 630 then if (zand (mK_limbs (Int.toNat (70 * p1))) 1) = 0 then (some 1) else (some 0) else none
def l_X10_halves_2 : Nat → Int → Int → (Nat → Int) → (Nat → Int) → Option (Nat → Int)
  | 0, _, _, _, _ => none
  | n + 1, v1, v2, mK_limbs, mK_wide => if zin v1 9 then if v2 < (mK_wide (Int.toNat v1)) then (if zin v1 9 ∧ zI (v2 + 1) then if (v2 + 1) < (mK_wide (Int.toNat v1)) then (if zin (((70 * v1) + v2) + 1) 630 then if zin ((70 * v1) + v2) 630 ∧ zin ((70 * v1) + v2) 630 then if zI (v2 + 1) then l_X10_halves_2 n v1 (v2 + 1) (zu mK_limbs (Int.toNat ((70 * v1) + v2)) (zor (zshr (mK_limbs (Int.toNat ((70 * v1) + v2))) 1) (zshl (zand (mK_limbs (Int.toNat (((70 * v1) + v2) + 1))) 1) 29))) mK_wide else none else none else none) else (if zin ((70 * v1) + v2) 630 ∧ zin ((70 * v1) + v2) 630 then if zI (v2 + 1) then l_X10_halves_2 n v1 (v2 + 1) (zu mK_limbs (Int.toNat ((70 * v1) + v2)) (zor (zshr (mK_limbs (Int.toNat ((70 * v1) + v2))) 1) (zshl 0 29))) mK_wide else none else none) else none) else (some mK_limbs) else none
def f_X10_halves (p1 : Int) (mK_limbs : Nat → Int) (mK_wide : Nat → Int) : Option ((Nat → Int) × (Nat → Int)) := (l_X10_halves_2 zN p1 0 mK_limbs mK_wide).bind fun x8 => (f_X10_trims p1 x8 mK_wide).bind fun x9 => some (x8, x9)
def l_X10_takes_2 : Nat → Int → Int → Int → (Nat → Int) → Option (Nat → Int)
  | 0, _, _, _, _ => none
  | n + 1, v1, v2, v3, mK_limbs => if v3 < 70 then (if zin ((70 * v2) + v3) 630 ∧ zin ((70 * v1) + v3) 630 then if zI (v3 + 1) then l_X10_takes_2 n v1 v2 (v3 + 1) (zu mK_limbs (Int.toNat ((70 * v1) + v3)) (mK_limbs (Int.toNat ((70 * v2) + v3)))) else none else none) else (some mK_limbs)
def f_X10_takes (p1 : Int) (p2 : Int) (mK_limbs : Nat → Int) (mK_wide : Nat → Int) : Option ((Nat → Int) × (Nat → Int)) := (l_X10_takes_2 zN p1 p2 0 mK_limbs).bind fun x3 => if zin p2 9 ∧ zin p1 9 then some (x3, (zu mK_wide (Int.toNat p1) (mK_wide (Int.toNat p2)))) else none
def l_X10_against_45 : Nat → Int → Int → Int → (Nat → Int) → Option (Int)
  | 0, _, _, _, _ => none
  | n + 1, v1, v2, v3, mK_limbs => if v3 < 0 then (some 0) else (if zin ((70 * v1) + v3) 630 ∧ zin ((70 * v2) + v3) 630 then if (mK_limbs (Int.toNat ((70 * v1) + v3))) = (mK_limbs (Int.toNat ((70 * v2) + v3))) then (if zI (v3 + (-1)) then l_X10_against_45 n v1 v2 (v3 + (-1)) mK_limbs else none) else (if zin ((70 * v1) + v3) 630 ∧ zin ((70 * v2) + v3) 630 then if (mK_limbs (Int.toNat ((70 * v1) + v3))) < (mK_limbs (Int.toNat ((70 * v2) + v3))) then (some (-1)) else (some 1) else none) else none)
def f_X10_against (p1 : Int) (p2 : Int) (mK_limbs : Nat → Int) (mK_wide : Nat → Int) : Option (Int) := if zin p1 9 ∧ zin p2 9 then if (mK_wide (Int.toNat p1)) = (mK_wide (Int.toNat p2)) then (if zin p1 9 ∧ zI ((mK_wide (Int.toNat p1)) - 1) then l_X10_against_45 zN p1 p2 ((mK_wide (Int.toNat p1)) - 1) mK_limbs else none) else (if zin p1 9 ∧ zin p2 9 then if (mK_wide (Int.toNat p1)) < (mK_wide (Int.toNat p2)) then (some (-1)) else (some 1) else none) else none
def l_X10_lessens_5 : Nat → Int → Int → Int → Int → (Nat → Int) → (Nat → Int) → Option (Nat → Int)
  | 0, _, _, _, _, _, _ => none
  | n + 1, v1, v2, v3, v4, mK_limbs, mK_wide => if zin v1 9 then if v4 < (mK_wide (Int.toNat v1)) then (if zin ((70 * v1) + v4) 630 ∧ zin ((70 * v2) + v4) 630 ∧ zI (((mK_limbs (Int.toNat ((70 * v1) + v4))) - (mK_limbs (Int.toNat ((70 * v2) + v4)))) - v3) then if zin ((70 * v1) + v4) 630 then if (((mK_limbs (Int.toNat ((70 * v1) + v4))) - (mK_limbs (Int.toNat ((70 * v2) + v4)))) - v3) < 0 then (if zI (v4 + 1) then l_X10_lessens_5 n v1 v2 1 (v4 + 1) (zu mK_limbs (Int.toNat ((70 * v1) + v4)) (zand (((mK_limbs (Int.toNat ((70 * v1) + v4))) - (mK_limbs (Int.toNat ((70 * v2) + v4)))) - v3) 1073741823)) mK_wide else none) else (if zI (v4 + 1) then l_X10_lessens_5 n v1 v2 0 (v4 + 1) (zu mK_limbs (Int.toNat ((70 * v1) + v4)) (zand (((mK_limbs (Int.toNat ((70 * v1) + v4))) - (mK_limbs (Int.toNat ((70 * v2) + v4)))) - v3) 1073741823)) mK_wide else none) else none else none) else (some mK_limbs) else none
def f_X10_lessens (p1 : Int) (p2 : Int) (mK_limbs : Nat → Int) (mK_wide : Nat → Int) : Option ((Nat → Int) × (Nat → Int)) := (l_X10_lessens_5 zN p1 p2 0 0 mK_limbs mK_wide).bind fun x6 => (f_X10_trims p1 x6 mK_wide).bind fun x7 => some (x6, x7)
def l_X10_parts_4 : Nat → Int → Int → Int → (Nat → Int) → Option (Int)
  | 0, _, _, _, _ => none
  | n + 1, v1, v2, v3, mK_limbs => if v3 < 5 then (if zI (v3 + 1) then l_X10_parts_4 n v1 (zw (v2 * (2 - ((mK_limbs (Int.toNat 210)) * v2)))) (v3 + 1) mK_limbs else none) else (some v2)
def l_X10_parts_71 : Nat → Int → Int → Int → Int → Int → Int → Int → (Nat → Int) → (Nat → Int) → Option (Nat → Int)
  | 0, _, _, _, _, _, _, _, _, _ => none
  | n + 1, v1, v2, v3, v4, v5, v6, v8, mK_limbs, mK_wide => if zI (v4 + v8) then if (v4 + v8) < v3 then (if v8 < (mK_wide (Int.toNat 3)) then (if zin (210 + v8) 630 then if zJ (v5 * (mK_limbs (Int.toNat (210 + v8)))) ∧ zin (((70 * v1) + v4) + v8) 630 ∧ zJ (((mK_limbs (Int.toNat (((70 * v1) + v4) + v8))) - (v5 * (mK_limbs (Int.toNat (210 + v8))))) - v6) then if zin (((70 * v1) + v4) + v8) 630 ∧ zI (zandl (((mK_limbs (Int.toNat (((70 * v1) + v4) + v8))) - (v5 * (mK_limbs (Int.toNat (210 + v8))))) - v6) 1073741823) then if zJ (-(zshrl (((mK_limbs (Int.toNat (((70 * v1) + v4) + v8))) - (v5 * (mK_limbs (Int.toNat (210 + v8))))) - v6) 30)) ∧ zI (v8 + 1) then l_X10_parts_71 n v1 v2 v3 v4 v5 (-(zshrl (((mK_limbs (Int.toNat (((70 * v1) + v4) + v8))) - (v5 * (mK_limbs (Int.toNat (210 + v8))))) - v6) 30)) (v8 + 1) (zu mK_limbs (Int.toNat (((70 * v1) + v4) + v8)) (zandl (((mK_limbs (Int.toNat (((70 * v1) + v4) + v8))) - (v5 * (mK_limbs (Int.toNat (210 + v8))))) - v6) 1073741823)) mK_wide else none else none else none else none) else (if zin (((70 * v1) + v4) + v8) 630 ∧ zJ (((mK_limbs (Int.toNat (((70 * v1) + v4) + v8))) - 0) - v6) then if zin (((70 * v1) + v4) + v8) 630 ∧ zI (zandl (((mK_limbs (Int.toNat (((70 * v1) + v4) + v8))) - 0) - v6) 1073741823) then if zJ (-(zshrl (((mK_limbs (Int.toNat (((70 * v1) + v4) + v8))) - 0) - v6) 30)) ∧ zI (v8 + 1) then l_X10_parts_71 n v1 v2 v3 v4 v5 (-(zshrl (((mK_limbs (Int.toNat (((70 * v1) + v4) + v8))) - 0) - v6) 30)) (v8 + 1) (zu mK_limbs (Int.toNat (((70 * v1) + v4) + v8)) (zandl (((mK_limbs (Int.toNat (((70 * v1) + v4) + v8))) - 0) - v6) 1073741823)) mK_wide else none else none else none)) else (some mK_limbs) else none
def l_X10_parts_40 : Nat → Int → Int → Int → Int → (Nat → Int) → (Nat → Int) → Option (Nat → Int)
  | 0, _, _, _, _, _, _ => none
  | n + 1, v1, v2, v3, v4, mK_limbs, mK_wide => if v4 < v3 then (if zin ((70 * v1) + v4) 630 then (l_X10_parts_71 zN v1 v2 v3 v4 (zand ((mK_limbs (Int.toNat ((70 * v1) + v4))) * v2) 1073741823) 0 0 mK_limbs mK_wide).bind fun x13 => if zin (280 + v4) 630 ∧ zI (v4 + 1) then l_X10_parts_40 n v1 v2 v3 (v4 + 1) (zu x13 (Int.toNat (280 + v4)) (zand ((mK_limbs (Int.toNat ((70 * v1) + v4))) * v2) 1073741823)) mK_wide else none else none) else (some mK_limbs)
def l_X10_parts_195 : Nat → Int → Int → Int → (Nat → Int) → Option (Nat → Int)
  | 0, _, _, _, _ => none
  | n + 1, v1, v3, v4, mK_limbs => if v4 < v3 then (if zin (280 + v4) 630 ∧ zin ((70 * v1) + v4) 630 then if zI (v4 + 1) then l_X10_parts_195 n v1 v3 (v4 + 1) (zu mK_limbs (Int.toNat ((70 * v1) + v4)) (mK_limbs (Int.toNat (280 + v4)))) else none else none) else (some mK_limbs)
def f_X10_parts (p1 : Int) (mK_limbs : Nat → Int) (mK_wide : Nat → Int) : Option ((Nat → Int) × (Nat → Int)) := (l_X10_parts_4 zN p1 1 0 mK_limbs).bind fun x2 => if zin p1 9 then (l_X10_parts_40 zN p1 x2 (mK_wide (Int.toNat p1)) 0 mK_limbs mK_wide).bind fun x15 => (l_X10_parts_195 zN p1 (mK_wide (Int.toNat p1)) 0 x15).bind fun x18 => (f_X10_trims p1 x18 mK_wide).bind fun x19 => some (x18, x19) else none
def l_X10_lowers_16 : Nat → (Nat → Int) → (Nat → Int) → Option ((Nat → Int) × (Nat → Int))
  | 0, _, _ => none
  | n + 1, mK_limbs, mK_wide => (f_X10_isEven 0 mK_limbs).bind fun x2 => if x2 = 0 then (some (mK_limbs, mK_wide)) else ((f_X10_isEven 1 mK_limbs).bind fun x3 => if x3 = 0 then (some (mK_limbs, mK_wide)) else ((f_X10_halves 0 mK_limbs mK_wide).bind fun x4 => (f_X10_halves 1 x4.1 x4.2).bind fun x5 => l_X10_lowers_16 n x5.1 x5.2))
def l_X10_lowers_66 : Nat → (Nat → Int) → (Nat → Int) → Option ((Nat → Int) × (Nat → Int))
  | 0, _, _ => none
  | n + 1, mK_limbs, mK_wide => (f_X10_isEven 2 mK_limbs).bind fun x9 => if x9 = 0 then (some (mK_limbs, mK_wide)) else ((f_X10_halves 2 mK_limbs mK_wide).bind fun x10 => l_X10_lowers_66 n x10.1 x10.2)
def l_X10_lowers_82 : Nat → (Nat → Int) → (Nat → Int) → Option ((Nat → Int) × (Nat → Int))
  | 0, _, _ => none
  | n + 1, mK_limbs, mK_wide => (f_X10_isEven 3 mK_limbs).bind fun x12 => if x12 = 0 then (some (mK_limbs, mK_wide)) else ((f_X10_halves 3 mK_limbs mK_wide).bind fun x13 => l_X10_lowers_82 n x13.1 x13.2)
def l_X10_lowers_57 : Nat → (Nat → Int) → (Nat → Int) → Option ((Nat → Int) × (Nat → Int))
  | 0, _, _ => none
  | n + 1, mK_limbs, mK_wide => if (0 : Int) < (mK_wide (Int.toNat 2)) then ((l_X10_lowers_66 zN mK_limbs mK_wide).bind fun x11 => (l_X10_lowers_82 zN x11.1 x11.2).bind fun x14 => (f_X10_against 2 3 x14.1 x14.2).bind fun x15 => if x15 < 0 then (if zI (5 - 3) then (f_X10_lessens 3 (5 - 3) x14.1 x14.2).bind fun x16 => if (x16.2 (Int.toNat 3)) = 0 then ((f_X10_takes 3 2 x16.1 x16.2).bind fun x18 => (f_X10_sets 2 0 x18.1 x18.2).bind fun x19 => l_X10_lowers_57 n x19.1 x19.2) else (l_X10_lowers_57 n x16.1 x16.2) else none) else (if zI (5 - 2) then (f_X10_lessens 2 (5 - 2) x14.1 x14.2).bind fun x20 => if (x20.2 (Int.toNat 3)) = 0 then ((f_X10_takes 3 2 x20.1 x20.2).bind fun x22 => (f_X10_sets 2 0 x22.1 x22.2).bind fun x23 => l_X10_lowers_57 n x23.1 x23.2) else (l_X10_lowers_57 n x20.1 x20.2) else none)) else (some (mK_limbs, mK_wide))
def f_X10_lowers (mK_limbs : Nat → Int) (mK_wide : Nat → Int) : Option ((Nat → Int) × (Nat → Int)) := if (mK_wide (Int.toNat 0)) = 0 then ((f_X10_sets 1 1 mK_limbs mK_wide).bind fun x1 => some (x1.1, x1.2)) else ((l_X10_lowers_16 zN mK_limbs mK_wide).bind fun x6 => (f_X10_takes 2 0 x6.1 x6.2).bind fun x7 => (f_X10_takes 3 1 x7.1 x7.2).bind fun x8 => (l_X10_lowers_57 zN x8.1 x8.2).bind fun x24 => (f_X10_parts 0 x24.1 x24.2).bind fun x25 => (f_X10_parts 1 x25.1 x25.2).bind fun x26 => some (x26.1, x26.2))
def f_X10_tells (p1 : Int) (p3 : Int) (mK_limbs : Nat → Int) (mK_wide : Nat → Int) : Option (Int × (Nat → Int) × (Nat → Int)) := (f_X10_sets 0 p1 mK_limbs mK_wide).bind fun x1 => (f_X10_sets 1 p3 x1.1 x1.2).bind fun x2 => (f_X10_lowers x2.1 x2.2).bind fun x3 => some (1, x3.1, x3.2)
def f_X10_mean (mK_limbs : Nat → Int) (mK_wide : Nat → Int) (mH_habits : Nat → Int) : Option (Int × (Nat → Int) × (Nat → Int)) := (f_X10_weights mH_habits).bind fun x1 => if x1 = 0 then (some ((-3), mK_limbs, mK_wide)) else ((f_X10_copiesOfAll mH_habits).bind fun x2 => (f_X10_weights mH_habits).bind fun x3 => (f_X10_tells x2 x3 mK_limbs mK_wide).bind fun x4 => some (x4.1, x4.2.1, x4.2.2))
def l_X10_multiplies_24 : Nat → Int → Int → Int → Int → Int → (Nat → Int) → (Nat → Int) → Option (Nat → Int)
  | 0, _, _, _, _, _, _, _ => none
  | n + 1, v1, v2, v3, v4, v6, mK_limbs, mK_wide => if zin v2 9 then if v6 < (mK_wide (Int.toNat v2)) then (if zin v2 9 then if v6 < (mK_wide (Int.toNat v2)) then (if zin ((70 * v1) + v3) 630 ∧ zin ((70 * v2) + v6) 630 then if zJ ((mK_limbs (Int.toNat ((70 * v1) + v3))) * (mK_limbs (Int.toNat ((70 * v2) + v6)))) ∧ zin ((280 + v3) + v6) 630 ∧ zJ (((mK_limbs (Int.toNat ((280 + v3) + v6))) + ((mK_limbs (Int.toNat ((70 * v1) + v3))) * (mK_limbs (Int.toNat ((70 * v2) + v6))))) + v4) then if zin ((280 + v3) + v6) 630 ∧ zI (zandl (((mK_limbs (Int.toNat ((280 + v3) + v6))) + ((mK_limbs (Int.toNat ((70 * v1) + v3))) * (mK_limbs (Int.toNat ((70 * v2) + v6))))) + v4) 1073741823) then if zI (v6 + 1) then l_X10_multiplies_24 n v1 v2 v3 (zshrl (((mK_limbs (Int.toNat ((280 + v3) + v6))) + ((mK_limbs (Int.toNat ((70 * v1) + v3))) * (mK_limbs (Int.toNat ((70 * v2) + v6))))) + v4) 30) (v6 + 1) (zu mK_limbs (Int.toNat ((280 + v3) + v6)) (zandl (((mK_limbs (Int.toNat ((280 + v3) + v6))) + ((mK_limbs (Int.toNat ((70 * v1) + v3))) * (mK_limbs (Int.toNat ((70 * v2) + v6))))) + v4) 1073741823)) mK_wide else none else none else none else none) else (if zin ((280 + v3) + v6) 630 ∧ zJ (((mK_limbs (Int.toNat ((280 + v3) + v6))) + 0) + v4) then if zin ((280 + v3) + v6) 630 ∧ zI (zandl (((mK_limbs (Int.toNat ((280 + v3) + v6))) + 0) + v4) 1073741823) then if zI (v6 + 1) then l_X10_multiplies_24 n v1 v2 v3 (zshrl (((mK_limbs (Int.toNat ((280 + v3) + v6))) + 0) + v4) 30) (v6 + 1) (zu mK_limbs (Int.toNat ((280 + v3) + v6)) (zandl (((mK_limbs (Int.toNat ((280 + v3) + v6))) + 0) + v4) 1073741823)) mK_wide else none else none else none) else none) else (if (0 : Int) < (zlc v4 0) then (if zin v2 9 then if v6 < (mK_wide (Int.toNat v2)) then (if zin ((70 * v1) + v3) 630 ∧ zin ((70 * v2) + v6) 630 then if zJ ((mK_limbs (Int.toNat ((70 * v1) + v3))) * (mK_limbs (Int.toNat ((70 * v2) + v6)))) ∧ zin ((280 + v3) + v6) 630 ∧ zJ (((mK_limbs (Int.toNat ((280 + v3) + v6))) + ((mK_limbs (Int.toNat ((70 * v1) + v3))) * (mK_limbs (Int.toNat ((70 * v2) + v6))))) + v4) then if zin ((280 + v3) + v6) 630 ∧ zI (zandl (((mK_limbs (Int.toNat ((280 + v3) + v6))) + ((mK_limbs (Int.toNat ((70 * v1) + v3))) * (mK_limbs (Int.toNat ((70 * v2) + v6))))) + v4) 1073741823) then if zI (v6 + 1) then l_X10_multiplies_24 n v1 v2 v3 (zshrl (((mK_limbs (Int.toNat ((280 + v3) + v6))) + ((mK_limbs (Int.toNat ((70 * v1) + v3))) * (mK_limbs (Int.toNat ((70 * v2) + v6))))) + v4) 30) (v6 + 1) (zu mK_limbs (Int.toNat ((280 + v3) + v6)) (zandl (((mK_limbs (Int.toNat ((280 + v3) + v6))) + ((mK_limbs (Int.toNat ((70 * v1) + v3))) * (mK_limbs (Int.toNat ((70 * v2) + v6))))) + v4) 1073741823)) mK_wide else none else none else none else none) else (if zin ((280 + v3) + v6) 630 ∧ zJ (((mK_limbs (Int.toNat ((280 + v3) + v6))) + 0) + v4) then if zin ((280 + v3) + v6) 630 ∧ zI (zandl (((mK_limbs (Int.toNat ((280 + v3) + v6))) + 0) + v4) 1073741823) then if zI (v6 + 1) then l_X10_multiplies_24 n v1 v2 v3 (zshrl (((mK_limbs (Int.toNat ((280 + v3) + v6))) + 0) + v4) 30) (v6 + 1) (zu mK_limbs (Int.toNat ((280 + v3) + v6)) (zandl (((mK_limbs (Int.toNat ((280 + v3) + v6))) + 0) + v4) 1073741823)) mK_wide else none else none else none) else none) else (some mK_limbs)) else none
def l_X10_multiplies_8 : Nat → Int → Int → Int → (Nat → Int) → (Nat → Int) → Option (Nat → Int)
  | 0, _, _, _, _, _ => none
  | n + 1, v1, v2, v3, mK_limbs, mK_wide => if zin v1 9 then if v3 < (mK_wide (Int.toNat v1)) then ((l_X10_multiplies_24 zN v1 v2 v3 0 0 mK_limbs mK_wide).bind fun x20 => if zI (v3 + 1) then l_X10_multiplies_8 n v1 v2 (v3 + 1) x20 mK_wide else none) else (some mK_limbs) else none
def f_X10_multiplies (p1 : Int) (p2 : Int) (mK_limbs : Nat → Int) (mK_wide : Nat → Int) : Option ((Nat → Int) × (Nat → Int)) := (f_X10_sets 4 0 mK_limbs mK_wide).bind fun x1 => (l_X10_multiplies_8 zN p1 p2 0 x1.1 x1.2).bind fun x22 => if zin p1 9 ∧ zin p2 9 ∧ zI ((x1.2 (Int.toNat p1)) + (x1.2 (Int.toNat p2))) then (f_X10_trims 4 x22 (zu x1.2 (Int.toNat 4) ((x1.2 (Int.toNat p1)) + (x1.2 (Int.toNat p2))))).bind fun x24 => (f_X10_takes p1 4 x22 x24).bind fun x25 => some (x25.1, x25.2) else none
def l_X10_adds_37 : Nat → Int → Int → Int → Int → Int → (Nat → Int) → Option (Int × (Nat → Int))
  | 0, _, _, _, _, _, _ => none
  | n + 1, v1, v2, v4, v3, v5, mK_limbs => if v5 < v4 then (if zin ((70 * v1) + v5) 630 ∧ zin ((70 * v2) + v5) 630 ∧ zI (((mK_limbs (Int.toNat ((70 * v1) + v5))) + (mK_limbs (Int.toNat ((70 * v2) + v5)))) + v3) then if zin ((70 * v1) + v5) 630 then if zI (v5 + 1) then l_X10_adds_37 n v1 v2 v4 (zushr (((mK_limbs (Int.toNat ((70 * v1) + v5))) + (mK_limbs (Int.toNat ((70 * v2) + v5)))) + v3) 30) (v5 + 1) (zu mK_limbs (Int.toNat ((70 * v1) + v5)) (zand (((mK_limbs (Int.toNat ((70 * v1) + v5))) + (mK_limbs (Int.toNat ((70 * v2) + v5)))) + v3) 1073741823)) else none else none else none) else (some (v3, mK_limbs))
def f_X10_adds (p1 : Int) (p2 : Int) (mK_limbs : Nat → Int) (mK_wide : Nat → Int) : Option ((Nat → Int) × (Nat → Int)) := if zin p1 9 ∧ zin p2 9 then if (mK_wide (Int.toNat p2)) < (mK_wide (Int.toNat p1)) then (if zin p1 9 then (l_X10_adds_37 zN p1 p2 (mK_wide (Int.toNat p1)) 0 0 mK_limbs).bind fun x6 => if zin ((70 * p1) + (mK_wide (Int.toNat p1))) 630 then if zin p1 9 ∧ zI ((mK_wide (Int.toNat p1)) + x6.1) then (f_X10_trims p1 (zu x6.2 (Int.toNat ((70 * p1) + (mK_wide (Int.toNat p1)))) x6.1) (zu mK_wide (Int.toNat p1) ((mK_wide (Int.toNat p1)) + x6.1))).bind fun x8 => some ((zu x6.2 (Int.toNat ((70 * p1) + (mK_wide (Int.toNat p1)))) x6.1), x8) else none else none else none) else (if zin p2 9 then (l_X10_adds_37 zN p1 p2 (mK_wide (Int.toNat p2)) 0 0 mK_limbs).bind fun x11 => if zin ((70 * p1) + (mK_wide (Int.toNat p2))) 630 then if zin p1 9 ∧ zI ((mK_wide (Int.toNat p2)) + x11.1) then (f_X10_trims p1 (zu x11.2 (Int.toNat ((70 * p1) + (mK_wide (Int.toNat p2)))) x11.1) (zu mK_wide (Int.toNat p1) ((mK_wide (Int.toNat p2)) + x11.1))).bind fun x13 => some ((zu x11.2 (Int.toNat ((70 * p1) + (mK_wide (Int.toNat p2)))) x11.1), x13) else none else none else none) else none
def l_X10_rounds_39 : Nat → Int → Int → (Nat → Int) → (Nat → Int) → Option ((Nat → Int) × (Nat → Int))
  | 0, _, _, _, _ => none
  | n + 1, v1, v2, mK_limbs, mK_wide => if v2 < 9 then (if v2 < v1 then ((f_X10_multiplies 8 5 mK_limbs mK_wide).bind fun x5 => if zI (v2 + 1) then l_X10_rounds_39 n v1 (v2 + 1) x5.1 x5.2 else none) else ((f_X10_multiplies 8 6 mK_limbs mK_wide).bind fun x7 => if zI (v2 + 1) then l_X10_rounds_39 n v1 (v2 + 1) x7.1 x7.2 else none)) else (some (mK_limbs, mK_wide))
def l_X10_rounds_9 : Nat → Int → (Nat → Int) → (Nat → Int) → (Nat → Int) → Option ((Nat → Int) × (Nat → Int))
  | 0, _, _, _, _ => none
  | n + 1, v1, mK_limbs, mK_wide, mH_habits => if v1 < 10 then (if zin v1 10 then if (0 : Int) < (mH_habits (Int.toNat v1)) then (if zin v1 10 then (f_X10_sets 8 (mH_habits (Int.toNat v1)) mK_limbs mK_wide).bind fun x3 => (l_X10_rounds_39 zN v1 0 x3.1 x3.2).bind fun x9 => (f_X10_adds 7 8 x9.1 x9.2).bind fun x10 => if zI (v1 + 1) then l_X10_rounds_9 n (v1 + 1) x10.1 x10.2 mH_habits else none else none) else (if zI (v1 + 1) then l_X10_rounds_9 n (v1 + 1) mK_limbs mK_wide mH_habits else none) else none) else (some (mK_limbs, mK_wide))
def l_X10_rounds_95 : Nat → Int → (Nat → Int) → (Nat → Int) → Option ((Nat → Int) × (Nat → Int))
  | 0, _, _, _ => none
  | n + 1, v1, mK_limbs, mK_wide => if v1 < 9 then ((f_X10_multiplies 8 6 mK_limbs mK_wide).bind fun x16 => if zI (v1 + 1) then l_X10_rounds_95 n (v1 + 1) x16.1 x16.2 else none) else (some (mK_limbs, mK_wide))
def f_X10_rounds (mK_limbs : Nat → Int) (mK_wide : Nat → Int) (mH_habits : Nat → Int) : Option ((Nat → Int) × (Nat → Int)) := (f_X10_sets 7 0 mK_limbs mK_wide).bind fun x1 => (l_X10_rounds_9 zN 0 x1.1 x1.2 mH_habits).bind fun x13 => (f_X10_weights mH_habits).bind fun x14 => (f_X10_sets 8 x14 x13.1 x13.2).bind fun x15 => (l_X10_rounds_95 zN 0 x15.1 x15.2).bind fun x18 => (f_X10_takes 5 7 x18.1 x18.2).bind fun x19 => (f_X10_takes 6 8 x19.1 x19.2).bind fun x20 => some (x20.1, x20.2)
def l_X10_gone_40 : Nat → Int → Int → (Nat → Int) → (Nat → Int) → (Nat → Int) → Option ((Nat → Int) × (Nat → Int))
  | 0, _, _, _, _, _ => none
  | n + 1, v1, v2, mK_limbs, mK_wide, mH_habits => if v2 < v1 then ((f_X10_rounds mK_limbs mK_wide mH_habits).bind fun x5 => if zI (v2 + 1) then l_X10_gone_40 n v1 (v2 + 1) x5.1 x5.2 mH_habits else none) else (some (mK_limbs, mK_wide))
def f_X10_gone (p1 : Int) (mK_limbs : Nat → Int) (mK_wide : Nat → Int) (mH_habits : Nat → Int) : Option (Int × (Nat → Int) × (Nat → Int)) := (f_X10_in p1 0 3).bind fun x1 => if x1 = 0 then (some ((-2), mK_limbs, mK_wide)) else ((f_X10_weights mH_habits).bind fun x2 => if x2 = 0 then (some ((-3), mK_limbs, mK_wide)) else ((f_X10_sets 5 0 mK_limbs mK_wide).bind fun x3 => (f_X10_sets 6 1 x3.1 x3.2).bind fun x4 => (l_X10_gone_40 zN p1 0 x4.1 x4.2 mH_habits).bind fun x7 => (f_X10_takes 0 5 x7.1 x7.2).bind fun x8 => (f_X10_takes 1 6 x8.1 x8.2).bind fun x9 => (f_X10_lowers x9.1 x9.2).bind fun x10 => some (1, x10.1, x10.2)))
def f_X10_asking (p1 : Int) (p2 : Int) (p3 : Int) (mA_doIt : Nat → Int) (mA_askOf : Nat → Int) : Option (Int × (Nat → Int) × (Nat → Int)) := (f_X10_in p1 1 9).bind fun x1 => if x1 = 0 then (some ((-2), mA_doIt, mA_askOf)) else ((f_X10_in p3 1 100).bind fun x2 => if x2 = 0 then (some ((-2), mA_doIt, mA_askOf)) else ((f_X10_in p2 0 p3).bind fun x3 => if x3 = 0 then (some ((-2), mA_doIt, mA_askOf)) else (if zin p1 10 ∧ zin p1 10 then some (1, (zu mA_doIt (Int.toNat p1) p2), (zu mA_askOf (Int.toNat p1) p3)) else none)))
def l_X10_best_17 : Nat → Int → Int → Int → (Nat → Int) → (Nat → Int) → Option (Int)
  | 0, _, _, _, _, _ => none
  | n + 1, v1, v2, v3, mA_doIt, mA_askOf => if v3 < 10 then (if zin v3 10 ∧ zin v2 10 ∧ zin v2 10 ∧ zin v3 10 ∧ zI ((v3 * (mA_doIt (Int.toNat v3))) * (mA_askOf (Int.toNat v2))) ∧ zI ((v2 * (mA_doIt (Int.toNat v2))) * (mA_askOf (Int.toNat v3))) then if ((v2 * (mA_doIt (Int.toNat v2))) * (mA_askOf (Int.toNat v3))) < ((v3 * (mA_doIt (Int.toNat v3))) * (mA_askOf (Int.toNat v2))) then (if zI (v3 + 1) then l_X10_best_17 n v1 v3 (v3 + 1) mA_doIt mA_askOf else none) else (if zI (v3 + 1) then l_X10_best_17 n v1 v2 (v3 + 1) mA_doIt mA_askOf else none) else none) else (some v2)
def f_X10_best (p1 : Int) (mK_limbs : Nat → Int) (mK_wide : Nat → Int) (mA_doIt : Nat → Int) (mA_askOf : Nat → Int) : Option (Int × (Nat → Int) × (Nat → Int)) := (f_X10_in p1 0 1).bind fun x1 => if x1 = 0 then (some ((-2), mK_limbs, mK_wide)) else ((l_X10_best_17 zN p1 1 2 mA_doIt mA_askOf).bind fun x5 => if p1 = 0 then (some (x5, mK_limbs, mK_wide)) else (if zin x5 10 ∧ zI (x5 * (mA_doIt (Int.toNat x5))) ∧ zin x5 10 then (f_X10_tells (x5 * (mA_doIt (Int.toNat x5))) (mA_askOf (Int.toNat x5)) mK_limbs mK_wide).bind fun x6 => some (x6.1, x6.2.1, x6.2.2) else none))
def l_X10_power_5 : Nat → Int → Int → Int → Int → Option (Int)
  | 0, _, _, _, _ => none
  | n + 1, v0, v1, v2, v4 => if v4 < v1 then (if zJ (v2 * v0) ∧ zI (v4 + 1) then l_X10_power_5 n v0 v1 (v2 * v0) (v4 + 1) else none) else (some v2)
def f_X10_power (p0 : Int) (p1 : Int) : Option (Int) := (l_X10_power_5 zN p0 p1 1 0).bind fun x2 => some x2
def f_X10_round (p1 : Int) (p2 : Int) : Option (Int) := (f_X10_in p1 1 9).bind fun x1 => if x1 = 0 then (some (-1)) else ((f_X10_in p2 0 18).bind fun x2 => if x2 = 0 then (some (-1)) else ((f_X10_power p1 p2).bind fun x3 => some x3))
def l_X10_outrun_32 : Nat → Int → Int → Int → Int → Option (Int)
  | 0, _, _, _, _ => none
  | n + 1, v1, v2, v4, v6 => if v6 < 19 then ((f_X10_power v1 v6).bind fun x3 => if zJ (v4 + x3) then if (0 : Int) < (zlc (v4 + x3) v2) then (some v6) else (if zI (v6 + 1) then l_X10_outrun_32 n v1 v2 (v4 + x3) (v6 + 1) else none) else none) else (some (-1))
def f_X10_outrun (p1 : Int) (p2 : Int) : Option (Int) := (f_X10_in p1 1 9).bind fun x1 => if x1 = 0 then (some (-2)) else ((f_X10_in p2 1 10000000000).bind fun x2 => if x2 = 0 then (some (-2)) else (l_X10_outrun_32 zN p1 p2 0 0))
def f_X10_isPerson (p0 : Int) : Option (Int) := (f_X10_in p0 0 9).bind fun x1 => if zbit x1 then some x1 else none
def f_X10_sends (p1 : Int) (p2 : Int) (mE_others : Nat → Int) : Option (Int × (Nat → Int)) := (f_X10_isPerson p1).bind fun x1 => if x1 = 0 then (some ((-2), mE_others)) else ((f_X10_in p2 0 1023).bind fun x2 => if x2 = 0 then (some ((-2), mE_others)) else (if zin p1 10 ∧ zin p1 10 then some ((mE_others (Int.toNat p1)), (zu mE_others (Int.toNat p1) p2)) else none))
def f_X10_copies (p1 : Int) (p2 : Int) (p3 : Int) (p4 : Int) (mE_copies : Nat → Int) (mE_odds : Nat → Int) (mE_often : Nat → Int) : Option (Int × (Nat → Int) × (Nat → Int) × (Nat → Int)) := (f_X10_isPerson p1).bind fun x1 => if x1 = 0 then (some ((-2), mE_copies, mE_odds, mE_often)) else ((f_X10_in p2 0 9).bind fun x2 => if x2 = 0 then (some ((-2), mE_copies, mE_odds, mE_often)) else ((f_X10_in p3 0 100).bind fun x3 => if x3 = 0 then (some ((-2), mE_copies, mE_odds, mE_often)) else ((f_X10_in p4 1 9).bind fun x4 => if x4 = 0 then (some ((-2), mE_copies, mE_odds, mE_often)) else (if zin p1 10 ∧ zin p1 10 then if zin p1 10 then some (1, (zu mE_copies (Int.toNat p1) p2), (zu mE_odds (Int.toNat p1) p3), (zu mE_often (Int.toNat p1) p4)) else none else none))))
def l_X10_goesTo_12 : Nat → Int → Int → Int → Int → (Nat → Int) → Option (Int)
  | 0, _, _, _, _, _ => none
  | n + 1, v1, v2, v3, v4, mE_others => if v4 < 10 then (if zI (v1 + v4) then if (0 : Int) < v3 then (if zin v1 10 then if (zand (zshr (mE_others (Int.toNat v1)) (Int.tmod (v1 + v4) 10)) 1) = 1 then (if zI (v3 + (-1)) then if zI (v4 + 1) then l_X10_goesTo_12 n v1 (zor v2 (zshl 1 (Int.tmod (v1 + v4) 10))) (v3 + (-1)) (v4 + 1) mE_others else none else none) else (if zI (v4 + 1) then l_X10_goesTo_12 n v1 v2 v3 (v4 + 1) mE_others else none) else none) else (if zI (v4 + 1) then l_X10_goesTo_12 n v1 v2 v3 (v4 + 1) mE_others else none) else none) else (some v2)
def f_X10_goesTo (p1 : Int) (mE_others : Nat → Int) (mE_copies : Nat → Int) : Option (Int) := if zin p1 10 then (l_X10_goesTo_12 zN p1 0 (mE_copies (Int.toNat p1)) 1 mE_others).bind fun x8 => some x8 else none
def l_X10_run_27 : Nat → Int → Int → Int → Int → (Nat → Int) → (Nat → Int) → Option ((Nat → Int) × (Nat → Int))
  | 0, _, _, _, _, _, _ => none
  | n + 1, v1, v2, v3, v4, mE_got, mE_did => if v4 < 10 then (if v4 = v1 then (if zin v4 10 ∧ zin v4 10 ∧ zI (v4 + 1) then l_X10_run_27 n v1 v2 v3 (v4 + 1) (zu mE_got (Int.toNat v4) 1) (zu mE_did (Int.toNat v4) 0) else none) else (if zin v4 10 ∧ zin v4 10 ∧ zI (v4 + 1) then l_X10_run_27 n v1 v2 v3 (v4 + 1) (zu mE_got (Int.toNat v4) 0) (zu mE_did (Int.toNat v4) 0) else none)) else (some (mE_got, mE_did))
def l_X10_run_98 : Nat → Int → Int → Int → Int → Int → Int → Int → (Nat → Int) → (Nat → Int) → (Nat → Int) → (Nat → Int) → (Nat → Int) → Option (Int × Int × (Nat → Int))
  | 0, _, _, _, _, _, _, _, _, _, _, _, _ => none
  | n + 1, v3, v4, v6, v7, v5, v8, v9, mE_others, mE_copies, mE_odds, mE_often, mE_did => if v9 < 10 then (if (zand (zshr v4 v9) 1) = 1 then (if zin v9 10 then if (Int.tmod (zushr (zw ((v5 * 1103515245) + 12345)) 16) 100) < (mE_odds (Int.toNat v9)) then (if zin v9 10 ∧ zin v9 10 then if (mE_did (Int.toNat v9)) < (mE_often (Int.toNat v9)) then (if zin v9 10 ∧ zin v9 10 ∧ zI ((mE_did (Int.toNat v9)) + 1) then (f_X10_goesTo v9 mE_others mE_copies).bind fun x8 => if zI (v9 + 1) then l_X10_run_98 n v3 v4 v6 v7 (zw ((v5 * 1103515245) + 12345)) (zor v8 x8) (v9 + 1) mE_others mE_copies mE_odds mE_often (zu mE_did (Int.toNat v9) ((mE_did (Int.toNat v9)) + 1)) else none else none) else (if zI (v9 + 1) then l_X10_run_98 n v3 v4 v6 v7 (zw ((v5 * 1103515245) + 12345)) v8 (v9 + 1) mE_others mE_copies mE_odds mE_often mE_did else none) else none) else (if zI (v9 + 1) then l_X10_run_98 n v3 v4 v6 v7 (zw ((v5 * 1103515245) + 12345)) v8 (v9 + 1) mE_others mE_copies mE_odds mE_often mE_did else none) else none) else (if zI (v9 + 1) then l_X10_run_98 n v3 v4 v6 v7 v5 v8 (v9 + 1) mE_others mE_copies mE_odds mE_often mE_did else none)) else (some (v5, v8, mE_did))
def l_X10_run_193 : Nat → Int → Int → Int → Int → Int → Int → (Nat → Int) → Option (Nat → Int)
  | 0, _, _, _, _, _, _, _ => none
  | n + 1, v3, v5, v6, v7, v8, v9, mE_got => if v9 < 10 then (if zin v9 10 ∧ zin v9 10 ∧ zI ((mE_got (Int.toNat v9)) + (zand (zshr v8 v9) 1)) then if zI (v9 + 1) then l_X10_run_193 n v3 v5 v6 v7 v8 (v9 + 1) (zu mE_got (Int.toNat v9) ((mE_got (Int.toNat v9)) + (zand (zshr v8 v9) 1))) else none else none) else (some mE_got)
def l_X10_run_80 : Nat → Int → Int → Int → Int → Int → (Nat → Int) → (Nat → Int) → (Nat → Int) → (Nat → Int) → (Nat → Int) → (Nat → Int) → Option (Int × (Nat → Int) × (Nat → Int))
  | 0, _, _, _, _, _, _, _, _, _, _, _ => none
  | n + 1, v3, v4, v5, v6, v7, mE_others, mE_copies, mE_odds, mE_often, mE_got, mE_did => if (60 : Int) < v7 then (some (v6, mE_got, mE_did)) else (if v4 = 0 then (some (v6, mE_got, mE_did)) else ((l_X10_run_98 zN v3 v4 v6 v7 v5 0 0 mE_others mE_copies mE_odds mE_often mE_did).bind fun x14 => (l_X10_run_193 zN v3 x14.1 v6 v7 x14.2.1 0 mE_got).bind fun x17 => if x14.2.1 = 0 then (if zI (v7 + 1) then l_X10_run_80 n v3 x14.2.1 x14.1 v6 (v7 + 1) mE_others mE_copies mE_odds mE_often x17 x14.2.2 else none) else (if zI (v7 + 1) then l_X10_run_80 n v3 x14.2.1 x14.1 v7 (v7 + 1) mE_others mE_copies mE_odds mE_often x17 x14.2.2 else none)))
def f_X10_run (p1 : Int) (p2 : Int) (p3 : Int) (mE_others : Nat → Int) (mE_copies : Nat → Int) (mE_odds : Nat → Int) (mE_often : Nat → Int) (mE_got : Nat → Int) (mE_did : Nat → Int) : Option (Int × (Nat → Int) × (Nat → Int)) := (f_X10_isPerson p1).bind fun x1 => if x1 = 0 then (some ((-2), mE_got, mE_did)) else ((f_X10_in p3 (-1) 9).bind fun x2 => if x2 = 0 then (some ((-2), mE_got, mE_did)) else ((l_X10_run_27 zN p1 p2 p3 0 mE_got mE_did).bind fun x5 => (l_X10_run_80 zN p3 (zshl 1 p1) p2 0 1 mE_others mE_copies mE_odds mE_often x5.1 x5.2).bind fun x20 => if p3 = (-1) then (some (x20.1, x20.2.1, x20.2.2)) else (if zin p3 10 then some ((x20.2.1 (Int.toNat p3)), x20.2.1, x20.2.2) else none)))
def l_X10_reachOf_17 : Nat → Int → Int → Int → Int → (Nat → Int) → (Nat → Int) → (Nat → Int) → Option (Int)
  | 0, _, _, _, _, _, _, _ => none
  | n + 1, v2, v4, v3, v5, mE_others, mE_copies, mE_odds => if v5 < 10 then (if (zand (zshr v3 v5) 1) = 1 then (if (zand (zshr v2 v5) 1) = 0 then (if zin v5 10 then if (0 : Int) < (mE_odds (Int.toNat v5)) then ((f_X10_goesTo v5 mE_others mE_copies).bind fun x2 => if zI (v5 + 1) then l_X10_reachOf_17 n v2 v4 (zor v3 (zand x2 (zxor v2 (-1)))) (v5 + 1) mE_others mE_copies mE_odds else none) else (if zI (v5 + 1) then l_X10_reachOf_17 n v2 v4 (zor v3 0) (v5 + 1) mE_others mE_copies mE_odds else none) else none) else (if zI (v5 + 1) then l_X10_reachOf_17 n v2 v4 (zor v3 0) (v5 + 1) mE_others mE_copies mE_odds else none)) else (if zI (v5 + 1) then l_X10_reachOf_17 n v2 v4 (zor v3 0) (v5 + 1) mE_others mE_copies mE_odds else none)) else (some v3)
def l_X10_reachOf_7 : Nat → Int → Int → Int → (Nat → Int) → (Nat → Int) → (Nat → Int) → Option (Int)
  | 0, _, _, _, _, _, _ => none
  | n + 1, v2, v3, v4, mE_others, mE_copies, mE_odds => if v4 < 10 then ((l_X10_reachOf_17 zN v2 v4 v3 0 mE_others mE_copies mE_odds).bind fun x7 => if zI (v4 + 1) then l_X10_reachOf_7 n v2 x7 (v4 + 1) mE_others mE_copies mE_odds else none) else (some v3)
def f_X10_reachOf (p1 : Int) (p2 : Int) (mE_others : Nat → Int) (mE_copies : Nat → Int) (mE_odds : Nat → Int) : Option (Int) := (l_X10_reachOf_7 zN p2 (zshl 1 p1) 0 mE_others mE_copies mE_odds).bind fun x9 => some x9
def f_X10_reach (p1 : Int) (p2 : Int) (mE_others : Nat → Int) (mE_copies : Nat → Int) (mE_odds : Nat → Int) : Option (Int) := (f_X10_isPerson p1).bind fun x1 => if x1 = 0 then (some (-2)) else ((f_X10_in p2 0 1023).bind fun x2 => if x2 = 0 then (some (-2)) else ((f_X10_reachOf p1 p2 mE_others mE_copies mE_odds).bind fun x3 => some x3))
def l_X10_sizeOf_4 : Nat → Int → Int → Option (Int)
  | 0, _, _ => none
  | n + 1, v1, v2 => if (0 : Int) < v2 then (if zI (v1 + (zand v2 1)) then l_X10_sizeOf_4 n (v1 + (zand v2 1)) (zshr v2 1) else none) else (some v1)
def f_X10_sizeOf (p0 : Int) : Option (Int) := (l_X10_sizeOf_4 zN 0 p0).bind fun x2 => some x2
def l_X10_stop_27 : Nat → Int → Int → Int → Int → (Nat → Int) → (Nat → Int) → (Nat → Int) → Option (Int)
  | 0, _, _, _, _, _, _, _ => none
  | n + 1, v1, v2, v3, v4, mE_others, mE_copies, mE_odds => if v4 < 1024 then (if (zand (zshr v4 v1) 1) = 0 then ((f_X10_reachOf v1 v4 mE_others mE_copies mE_odds).bind fun x3 => (f_X10_sizeOf x3).bind fun x4 => if v2 < x4 then (if zI (v4 + 1) then l_X10_stop_27 n v1 v2 v3 (v4 + 1) mE_others mE_copies mE_odds else none) else (if v3 = (-1) then (if zI (v4 + 1) then l_X10_stop_27 n v1 v2 v4 (v4 + 1) mE_others mE_copies mE_odds else none) else ((f_X10_sizeOf v4).bind fun x7 => (f_X10_sizeOf v3).bind fun x8 => if x7 < x8 then (if zI (v4 + 1) then l_X10_stop_27 n v1 v2 v4 (v4 + 1) mE_others mE_copies mE_odds else none) else (if zI (v4 + 1) then l_X10_stop_27 n v1 v2 v3 (v4 + 1) mE_others mE_copies mE_odds else none)))) else (if zI (v4 + 1) then l_X10_stop_27 n v1 v2 v3 (v4 + 1) mE_others mE_copies mE_odds else none)) else (some v3)
def f_X10_stop (p1 : Int) (p2 : Int) (mE_others : Nat → Int) (mE_copies : Nat → Int) (mE_odds : Nat → Int) : Option (Int) := (f_X10_isPerson p1).bind fun x1 => if x1 = 0 then (some (-2)) else ((f_X10_in p2 1 10).bind fun x2 => if x2 = 0 then (some (-2)) else ((l_X10_stop_27 zN p1 p2 (-1) 0 mE_others mE_copies mE_odds).bind fun x12 => some x12))
def f_X10_keep (p1 : Int) (mB_kept : Int) (mB_box : Nat → Int) : Option (Int × Int × (Nat → Int)) := (f_X10_in p1 0 99).bind fun x1 => if x1 = 0 then (some ((-2), mB_kept, mB_box)) else (if mB_kept = 40 then (some ((-4), mB_kept, mB_box)) else (if zin mB_kept 40 ∧ zI (mB_kept + 1) then some ((mB_kept + 1), (mB_kept + 1), (zu mB_box (Int.toNat mB_kept) p1)) else none))
def f_X10_burn (mB_kept : Int) : Option (Int × Int) := some (mB_kept, 0)
def l_X10_hidden_22 : Nat → Int → Int → Int → Int → Int → Int → Int → (Nat → Int) → Option (Int)
  | 0, _, _, _, _, _, _, _, _ => none
  | n + 1, v1, v2, v3, v4, v5, v6, mB_kept, mB_box => if v6 < mB_kept then (if zin v6 40 then if (mB_box (Int.toNat v6)) = v4 then (if zI (v5 + 1) ∧ zI (v6 + 1) then l_X10_hidden_22 n v1 v2 v3 v4 (v5 + 1) (v6 + 1) mB_kept mB_box else none) else (if zI (v5 + 0) ∧ zI (v6 + 1) then l_X10_hidden_22 n v1 v2 v3 v4 (v5 + 0) (v6 + 1) mB_kept mB_box else none) else none) else (some v5)
def l_X10_hidden_9 : Nat → Int → Int → Int → Int → Int → (Nat → Int) → Option (Int × Int × Int)
  | 0, _, _, _, _, _, _ => none
  | n + 1, v1, v2, v3, v4, mB_kept, mB_box => if v4 < 100 then ((l_X10_hidden_22 zN v1 v2 v3 v4 0 0 mB_kept mB_box).bind fun x4 => if (0 : Int) < x4 then (if zI (v1 + 1) then if x4 = 1 then (if zI (v2 + 1) then if x4 = 2 then (if zI (v3 + 1) ∧ zI (v4 + 1) then l_X10_hidden_9 n (v1 + 1) (v2 + 1) (v3 + 1) (v4 + 1) mB_kept mB_box else none) else (if zI (v3 + 0) ∧ zI (v4 + 1) then l_X10_hidden_9 n (v1 + 1) (v2 + 1) (v3 + 0) (v4 + 1) mB_kept mB_box else none) else none) else (if zI (v2 + 0) then if x4 = 2 then (if zI (v3 + 1) ∧ zI (v4 + 1) then l_X10_hidden_9 n (v1 + 1) (v2 + 0) (v3 + 1) (v4 + 1) mB_kept mB_box else none) else (if zI (v3 + 0) ∧ zI (v4 + 1) then l_X10_hidden_9 n (v1 + 1) (v2 + 0) (v3 + 0) (v4 + 1) mB_kept mB_box else none) else none) else none) else (if zI (v1 + 0) then if x4 = 1 then (if zI (v2 + 1) then if x4 = 2 then (if zI (v3 + 1) ∧ zI (v4 + 1) then l_X10_hidden_9 n (v1 + 0) (v2 + 1) (v3 + 1) (v4 + 1) mB_kept mB_box else none) else (if zI (v3 + 0) ∧ zI (v4 + 1) then l_X10_hidden_9 n (v1 + 0) (v2 + 1) (v3 + 0) (v4 + 1) mB_kept mB_box else none) else none) else (if zI (v2 + 0) then if x4 = 2 then (if zI (v3 + 1) ∧ zI (v4 + 1) then l_X10_hidden_9 n (v1 + 0) (v2 + 0) (v3 + 1) (v4 + 1) mB_kept mB_box else none) else (if zI (v3 + 0) ∧ zI (v4 + 1) then l_X10_hidden_9 n (v1 + 0) (v2 + 0) (v3 + 0) (v4 + 1) mB_kept mB_box else none) else none) else none)) else (some (v1, v2, v3))
def f_X10_hidden (mB_kept : Int) (mK_limbs : Nat → Int) (mK_wide : Nat → Int) (mB_box : Nat → Int) : Option (Int × (Nat → Int) × (Nat → Int)) := (l_X10_hidden_9 zN 0 0 0 0 mB_kept mB_box).bind fun x19 => if x19.2.2 = 0 then (if zI ((2 * x19.1) + (x19.2.1 * (x19.2.1 - 1))) then (f_X10_tells ((2 * x19.1) + (x19.2.1 * (x19.2.1 - 1))) 2 mK_limbs mK_wide).bind fun x20 => some (x20.1, x20.2.1, x20.2.2) else none) else (if zI (((2 * x19.2.2) * x19.1) + (x19.2.1 * x19.2.1)) ∧ zJ (2 * x19.2.2) then (f_X10_tells (((2 * x19.2.2) * x19.1) + (x19.2.1 * x19.2.1)) (2 * x19.2.2) mK_limbs mK_wide).bind fun x22 => some (x22.1, x22.2.1, x22.2.2) else none)
def l_X10_countOf_4 : Nat → Int → Int → Int → Int → (Nat → Int) → Option (Int)
  | 0, _, _, _, _, _ => none
  | n + 1, v1, v2, v3, mL_letters, mL_forms => if zI (8 * mL_letters) then if v3 < (8 * mL_letters) then (if zin v3 64 then if (mL_forms (Int.toNat v3)) = (-1) then (if zI (v2 + 0) ∧ zI (v3 + 1) then l_X10_countOf_4 n v1 (v2 + 0) (v3 + 1) mL_letters mL_forms else none) else (if zI (v2 + 1) ∧ zI (v3 + 1) then l_X10_countOf_4 n v1 (v2 + 1) (v3 + 1) mL_letters mL_forms else none) else none) else (some v2) else none
def f_X10_countOf (p1 : Int) (mL_letters : Int) (mN_names : Int) (mB_kept : Int) (mL_forms : Nat → Int) : Option (Int) := (l_X10_countOf_4 zN p1 0 0 mL_letters mL_forms).bind fun x5 => if p1 = 0 then (some mL_letters) else (if p1 = 1 then (some x5) else (if p1 = 2 then (some mN_names) else (some mB_kept)))
def f_X10_count (p1 : Int) (mL_letters : Int) (mN_names : Int) (mB_kept : Int) (mL_forms : Nat → Int) : Option (Int) := (f_X10_in p1 0 3).bind fun x1 => if x1 = 0 then (some (-2)) else ((f_X10_countOf p1 mL_letters mN_names mB_kept mL_forms).bind fun x2 => some x2)
def l_X10_mixed_6 : Nat → Int → Int → Int → Int → (Nat → Int) → Option (Int)
  | 0, _, _, _, _, _ => none
  | n + 1, v3, v4, v5, v7, row => if v7 < v4 then (if zin (v3 + v7) 64 then if zI (v7 + 1) then l_X10_mixed_6 n v3 v4 (zwl ((31 * v5) + (row (Int.toNat (v3 + v7))))) (v7 + 1) row else none else none) else (some v5)
def f_X10_mixed (p0 : Int) (p3 : Int) (p4 : Int) (row : Nat → Int) : Option (Int) := (l_X10_mixed_6 zN p3 p4 p0 0 row).bind fun x3 => some x3
def l_X10_digest_6 : Nat → Int → Int → Int → Int → Int → (Nat → Int) → Option (Int)
  | 0, _, _, _, _, _, _ => none
  | n + 1, v1, v3, mL_letters, mN_names, mB_kept, mL_forms => if v3 < 4 then ((f_X10_countOf v3 mL_letters mN_names mB_kept mL_forms).bind fun x1 => if zI (v3 + 1) then l_X10_digest_6 n (zwl ((31 * v1) + x1)) (v3 + 1) mL_letters mN_names mB_kept mL_forms else none) else (some v1)
def l_X10_digest_32 : Nat → Int → Int → Int → (Nat → Int) → (Nat → Int) → (Nat → Int) → Option (Int)
  | 0, _, _, _, _, _, _ => none
  | n + 1, v1, v3, mL_letters, mL_from, mL_to, mL_forms => if v3 < mL_letters then (if zin v3 8 ∧ zin v3 8 then (f_X10_mixed (zwl ((31 * ((31 * v1) + (mL_from (Int.toNat v3)))) + (mL_to (Int.toNat v3)))) (zw (8 * v3)) 8 mL_forms).bind fun x4 => if zI (v3 + 1) then l_X10_digest_32 n x4 (v3 + 1) mL_letters mL_from mL_to mL_forms else none else none) else (some v1)
def l_X10_digest_98 : Nat → Int → Int → Int → (Nat → Int) → (Nat → Int) → Option (Int)
  | 0, _, _, _, _, _ => none
  | n + 1, v1, v3, mN_names, mN_lengths, mN_spelt => if v3 < mN_names then (if zin v3 10 ∧ zin v3 10 then if zI (v3 + 1) then l_X10_digest_98 n (zwl ((31 * ((31 * v1) + (mN_lengths (Int.toNat v3)))) + (mN_spelt (Int.toNat v3)))) (v3 + 1) mN_names mN_lengths mN_spelt else none else none) else (some v1)
def l_X10_digest_152 : Nat → Int → Int → (Nat → Int) → (Nat → Int) → Option (Int)
  | 0, _, _, _, _ => none
  | n + 1, v1, v3, mA_doIt, mA_askOf => if v3 < 10 then (if zin v3 10 ∧ zin v3 10 then if zI (v3 + 1) then l_X10_digest_152 n (zwl ((31 * ((31 * v1) + (mA_doIt (Int.toNat v3)))) + (mA_askOf (Int.toNat v3)))) (v3 + 1) mA_doIt mA_askOf else none else none) else (some v1)
def l_X10_digest_192 : Nat → Int → Int → (Nat → Int) → (Nat → Int) → (Nat → Int) → (Nat → Int) → Option (Int)
  | 0, _, _, _, _, _, _ => none
  | n + 1, v1, v3, mE_others, mE_copies, mE_odds, mE_often => if v3 < 10 then (if zin v3 10 ∧ zin v3 10 ∧ zin v3 10 ∧ zin v3 10 then if zI (v3 + 1) then l_X10_digest_192 n (zwl ((31 * ((31 * ((31 * ((31 * v1) + (mE_others (Int.toNat v3)))) + (mE_copies (Int.toNat v3)))) + (mE_odds (Int.toNat v3)))) + (mE_often (Int.toNat v3)))) (v3 + 1) mE_others mE_copies mE_odds mE_often else none else none) else (some v1)
def l_X10_digest_280 : Nat → Int → Int → (Nat → Int) → Option (Int)
  | 0, _, _, _ => none
  | n + 1, v1, v3, mK_wide => if v3 < 3 then ((f_X10_sign v3 mK_wide).bind fun x21 => if zI (v3 + 1) then l_X10_digest_280 n (zwl ((31 * v1) + x21)) (v3 + 1) mK_wide else none) else (some v1)
def l_X10_digest_306 : Nat → Int → Int → (Nat → Int) → (Nat → Int) → Option (Int)
  | 0, _, _, _, _ => none
  | n + 1, v1, v3, mK_limbs, mK_wide => if v3 < 2 then (if zin v3 9 then (f_X10_mixed v1 (zw (70 * v3)) (mK_wide (Int.toNat v3)) mK_limbs).bind fun x24 => if zI (v3 + 1) then l_X10_digest_306 n x24 (v3 + 1) mK_limbs mK_wide else none else none) else (some v1)
def f_X10_digest (mL_letters : Int) (mN_names : Int) (mB_kept : Int) (mK_limbs : Nat → Int) (mK_wide : Nat → Int) (mL_from : Nat → Int) (mL_to : Nat → Int) (mL_forms : Nat → Int) (mL_costs : Nat → Int) (mL_cheapest : Nat → Int) (mL_fixed : Nat → Int) (mL_sumOf : Nat → Int) (mN_lengths : Nat → Int) (mN_spelt : Nat → Int) (mH_habits : Nat → Int) (mA_doIt : Nat → Int) (mA_askOf : Nat → Int) (mE_others : Nat → Int) (mE_copies : Nat → Int) (mE_odds : Nat → Int) (mE_often : Nat → Int) (mB_box : Nat → Int) : Option (Int × (Nat → Int) × (Nat → Int) × (Nat → Int)) := (l_X10_digest_6 zN 457 0 mL_letters mN_names mB_kept mL_forms).bind fun x3 => (l_X10_digest_32 zN x3 0 mL_letters mL_from mL_to mL_forms).bind fun x7 => (f_X10_mixed x7 0 5 mL_costs).bind fun x8 => (l_X10_digest_98 zN x8 0 mN_names mN_lengths mN_spelt).bind fun x11 => (f_X10_mixed x11 0 10 mH_habits).bind fun x12 => (l_X10_digest_152 zN x12 1 mA_doIt mA_askOf).bind fun x15 => (l_X10_digest_192 zN x15 0 mE_others mE_copies mE_odds mE_often).bind fun x18 => (f_X10_mixed x18 0 mB_kept mB_box).bind fun x19 => (f_X10_leastAll mL_letters mL_forms mL_costs mL_cheapest mL_fixed mL_sumOf).bind fun x20 => (l_X10_digest_280 zN (zwl ((31 * x19) + x20.1)) 0 mK_wide).bind fun x23 => (l_X10_digest_306 zN x23 0 mK_limbs mK_wide).bind fun x27 => some (x27, x20.2.1, x20.2.2.1, x20.2.2.2)
end
section
def lamC : List zE := [.inr (9, [.inl 1, .inl 7, .inl 18, .inl 26, .inl 38, .inl 41, .inl 49, .inl 52]), .inr (4, [.inr (0, 0), .inl 2, .inl 3, .inl 4, .inl 5, .inl 6, .inr (0, 1)]), .inl (0, 0, 8), .inl (0, 1, 8), .inl (0, 2, 64), .inl (0, 3, 5), .inl (0, 4, 576), .inr (8, [.inl 1, .inl 8, .inl 9, .inl 10, .inl 11, .inl 12, .inl 13, .inl 14, .inl 15, .inl 16, .inl 17, .inr (1, 0), .inr (1, 1), .inr (1, 2), .inr (1, 3)]), .inl (1, 0, 2048), .inl (1, 1, 64), .inl (1, 2, 256), .inl (1, 3, 256), .inl (1, 4, 256), .inl (1, 5, 8), .inl (1, 6, 8), .inl (1, 7, 8), .inl (1, 8, 8), .inl (1, 9, 8), .inr (5, [.inr (2, 0), .inl 19, .inl 20, .inl 21, .inl 22, .inl 23, .inl 24, .inl 25]), .inl (2, 0, 10), .inl (2, 1, 10), .inl (2, 2, 60), .inl (2, 3, 100), .inl (2, 4, 10), .inl (2, 5, 7), .inl (2, 6, 7), .inr (3, [.inl 27, .inl 28, .inl 30, .inl 32, .inl 34, .inl 36]), .inl (3, 0, 10), .inr (6, [.inr (4, 0), .inl 29]), .inl (4, 0, 40), .inr (6, [.inr (5, 0), .inl 31]), .inl (5, 0, 40), .inr (6, [.inr (6, 0), .inl 33]), .inl (6, 0, 40), .inr (6, [.inr (7, 0), .inl 35]), .inl (7, 0, 40), .inr (6, [.inr (8, 0), .inl 37]), .inl (8, 0, 40), .inr (0, [.inl 39, .inl 40]), .inl (9, 0, 10), .inl (9, 1, 10), .inr (7, [.inl 42, .inl 43, .inl 44, .inl 45, .inl 46, .inl 47, .inl 48]), .inl (10, 0, 10), .inl (10, 1, 10), .inl (10, 2, 10), .inl (10, 3, 10), .inl (10, 4, 10), .inl (10, 5, 10), .inl (10, 6, 10), .inr (1, [.inr (11, 0), .inr (11, 1), .inr (11, 2), .inr (11, 3), .inl 50, .inl 51]), .inl (11, 0, 40), .inl (11, 1, 100), .inr (2, [.inl 53, .inl 55]), .inr (6, [.inr (12, 0), .inl 54]), .inl (12, 0, 40), .inr (6, [.inr (13, 0), .inl 56]), .inl (13, 0, 40)]
def shpC : List (Nat × Nat) := [(2, 5), (4, 10), (1, 7), (0, 1), (1, 1), (1, 1), (1, 1), (1, 1), (1, 1), (0, 2), (0, 7), (4, 2), (1, 1), (1, 1)]
def lamM : List zE := [.inr (10, [.inl 1, .inl 2, .inr (1, 0), .inl 3, .inl 4, .inl 5, .inl 6, .inl 7, .inl 8, .inl 9, .inl 10, .inl 11, .inr (2, 0), .inl 12, .inl 13, .inl 14, .inl 15, .inl 16, .inl 17, .inl 18, .inl 19, .inl 20, .inl 21, .inl 22, .inl 23, .inl 24, .inl 25, .inl 26, .inr (6, 0)]), .inl (0, 0, 630), .inl (0, 1, 9), .inl (1, 0, 8), .inl (1, 1, 8), .inl (1, 2, 64), .inl (1, 3, 5), .inl (1, 4, 2048), .inl (1, 5, 8), .inl (1, 6, 256), .inl (1, 7, 8), .inl (1, 8, 8), .inl (2, 0, 10), .inl (2, 1, 10), .inl (2, 2, 60), .inl (2, 3, 49), .inl (2, 4, 10), .inl (3, 0, 10), .inl (4, 0, 10), .inl (4, 1, 10), .inl (5, 0, 10), .inl (5, 1, 10), .inl (5, 2, 10), .inl (5, 3, 10), .inl (5, 4, 10), .inl (5, 5, 10), .inl (6, 0, 40)]
def shpM : List (Nat × Nat) := [(0, 2), (1, 9), (1, 5), (0, 1), (0, 2), (0, 6), (1, 1)]
def lam1 : List zE := [.inr (6, [.inr (0, 0), .inl 1]), .inl (0, 0, 40)]
def shp1 : List (Nat × Nat) := [(1, 1)]
theorem lokC : zLok lamC shpC := zLok_of (by decide +kernel)
theorem lokM : zLok lamM shpM := zLok_of (by decide +kernel)
theorem lok1 : zLok lam1 shp1 := zLok_of (by decide +kernel)
def eX0 : zEnv := ([(9, 0, 0, 0), (13, 0, 1, 0)], [], [(16, 31)], [])
theorem eX0_ok (c0 : Cond) : zEok (c0 :: uU) RX0 eX0 := zEok_of (List.forall_mem_cons.mpr ⟨⟨RX0, TX0, 2, tyX0, rfl, by decide, u_lay_X0, u_5_7, tyX0_ok, nmX0, (fun h => absurd h (by decide)), (fun h => absurd h (by decide))⟩, (List.forall_mem_cons.mpr ⟨⟨RX0, TX0, 2, tyX0, rfl, by decide, u_lay_X0, u_5_8, tyX0_ok, nmX0, (fun h => absurd h (by decide)), (fun h => absurd h (by decide))⟩, (fun _ h => absurd h List.not_mem_nil)⟩)⟩) (fun _ h => absurd h List.not_mem_nil) (List.forall_mem_cons.mpr ⟨⟨⟨by decide, by decide⟩, u_41_21⟩, (fun _ h => absurd h List.not_mem_nil)⟩) (fun _ h => absurd h List.not_mem_nil) c0
def eX1 : zEnv := ([(11, 1, 4, 0), (15, 1, 5, 0), (18, 1, 0, 1), (22, 1, 1, 1), (25, 1, 2, 1), (28, 1, 3, 1)], [], [(31, 31)], [])
theorem eX1_ok (c0 : Cond) : zEok (c0 :: uU) RX1 eX1 := zEok_of (List.forall_mem_cons.mpr ⟨⟨RX1, TX1, 6, tyX1, rfl, by decide, u_lay_X1, u_6_0, tyX1_ok, nmX1, (fun h => absurd h (by decide)), (fun h => absurd h (by decide))⟩, (List.forall_mem_cons.mpr ⟨⟨RX1, TX1, 6, tyX1, rfl, by decide, u_lay_X1, u_6_1, tyX1_ok, nmX1, (fun h => absurd h (by decide)), (fun h => absurd h (by decide))⟩, (List.forall_mem_cons.mpr ⟨⟨RX1, TX1, 6, tyX1, rfl, by decide, u_lay_X1, u_37_14, tyX1_ok, nmX1, (fun _ => ⟨rfl, by decide +kernel⟩), (fun h => absurd h (by decide))⟩, (List.forall_mem_cons.mpr ⟨⟨RX1, TX1, 6, tyX1, rfl, by decide, u_lay_X1, u_38_20, tyX1_ok, nmX1, (fun _ => ⟨rfl, by decide +kernel⟩), (fun h => absurd h (by decide))⟩, (List.forall_mem_cons.mpr ⟨⟨RX1, TX1, 6, tyX1, rfl, by decide, u_lay_X1, u_38_21, tyX1_ok, nmX1, (fun _ => ⟨rfl, by decide +kernel⟩), (fun h => absurd h (by decide))⟩, (List.forall_mem_cons.mpr ⟨⟨RX1, TX1, 6, tyX1, rfl, by decide, u_lay_X1, u_38_22, tyX1_ok, nmX1, (fun _ => ⟨rfl, by decide +kernel⟩), (fun h => absurd h (by decide))⟩, (fun _ h => absurd h List.not_mem_nil)⟩)⟩)⟩)⟩)⟩)⟩) (fun _ h => absurd h List.not_mem_nil) (List.forall_mem_cons.mpr ⟨⟨⟨by decide, by decide⟩, u_42_7⟩, (fun _ h => absurd h List.not_mem_nil)⟩) (fun _ h => absurd h List.not_mem_nil) c0
def eX2 : zEnv := ([(10, 2, 0, 0), (16, 2, 1, 0)], [], [], [])
theorem eX2_ok (c0 : Cond) : zEok (c0 :: uU) RX2 eX2 := zEok_of (List.forall_mem_cons.mpr ⟨⟨RX2, TX2, 2, tyX2, rfl, by decide, u_lay_X2, u_6_7, tyX2_ok, nmX2, (fun h => absurd h (by decide)), (fun h => absurd h (by decide))⟩, (List.forall_mem_cons.mpr ⟨⟨RX2, TX2, 2, tyX2, rfl, by decide, u_lay_X2, u_6_8, tyX2_ok, nmX2, (fun h => absurd h (by decide)), (fun h => absurd h (by decide))⟩, (fun _ h => absurd h List.not_mem_nil)⟩)⟩) (fun _ h => absurd h List.not_mem_nil) (fun _ h => absurd h List.not_mem_nil) (fun _ h => absurd h List.not_mem_nil) c0
def eX3 : zEnv := ([(9, 3, 0, 0), (16, 3, 1, 0), (20, 3, 2, 0), (23, 3, 3, 0), (26, 3, 4, 0), (29, 3, 5, 0), (63, 6, 0, 1)], [], [(78, 31)], [])
theorem eX3_ok (c0 : Cond) : zEok (c0 :: uU) RX3 eX3 := zEok_of (List.forall_mem_cons.mpr ⟨⟨RX3, TX3, 6, tyX3, rfl, by decide, u_lay_X3, u_4_13, tyX3_ok, nmX3, (fun h => absurd h (by decide)), (fun h => absurd h (by decide))⟩, (List.forall_mem_cons.mpr ⟨⟨RX3, TX3, 6, tyX3, rfl, by decide, u_lay_X3, u_4_17, tyX3_ok, nmX3, (fun h => absurd h (by decide)), (fun h => absurd h (by decide))⟩, (List.forall_mem_cons.mpr ⟨⟨RX3, TX3, 6, tyX3, rfl, by decide, u_lay_X3, u_4_18, tyX3_ok, nmX3, (fun h => absurd h (by decide)), (fun h => absurd h (by decide))⟩, (List.forall_mem_cons.mpr ⟨⟨RX3, TX3, 6, tyX3, rfl, by decide, u_lay_X3, u_4_19, tyX3_ok, nmX3, (fun h => absurd h (by decide)), (fun h => absurd h (by decide))⟩, (List.forall_mem_cons.mpr ⟨⟨RX3, TX3, 6, tyX3, rfl, by decide, u_lay_X3, u_4_20, tyX3_ok, nmX3, (fun h => absurd h (by decide)), (fun h => absurd h (by decide))⟩, (List.forall_mem_cons.mpr ⟨⟨RX3, TX3, 6, tyX3, rfl, by decide, u_lay_X3, u_4_21, tyX3_ok, nmX3, (fun h => absurd h (by decide)), (fun h => absurd h (by decide))⟩, (List.forall_mem_cons.mpr ⟨⟨RX6, TX6, 2, tyX6, rfl, by decide, u_lay_X6, u_29_4, tyX6_ok, nmX6, (fun _ => ⟨rfl, by decide +kernel⟩), (fun h => absurd h (by decide))⟩, (fun _ h => absurd h List.not_mem_nil)⟩)⟩)⟩)⟩)⟩)⟩)⟩) (fun _ h => absurd h List.not_mem_nil) (List.forall_mem_cons.mpr ⟨⟨⟨by decide, by decide⟩, u_41_16⟩, (fun _ h => absurd h List.not_mem_nil)⟩) (fun _ h => absurd h List.not_mem_nil) c0
def eX4 : zEnv := ([(11, 4, 1, 0), (15, 4, 2, 0), (18, 4, 3, 0), (21, 4, 4, 0), (24, 4, 5, 0), (27, 4, 0, 1), (31, 4, 6, 2)], [], [(62, 31)], [])
theorem eX4_ok (c0 : Cond) : zEok (c0 :: uU) RX4 eX4 := zEok_of (List.forall_mem_cons.mpr ⟨⟨RX4, TX4, 7, tyX4, rfl, by decide, u_lay_X4, u_3_2, tyX4_ok, nmX4, (fun h => absurd h (by decide)), (fun h => absurd h (by decide))⟩, (List.forall_mem_cons.mpr ⟨⟨RX4, TX4, 7, tyX4, rfl, by decide, u_lay_X4, u_3_3, tyX4_ok, nmX4, (fun h => absurd h (by decide)), (fun h => absurd h (by decide))⟩, (List.forall_mem_cons.mpr ⟨⟨RX4, TX4, 7, tyX4, rfl, by decide, u_lay_X4, u_3_4, tyX4_ok, nmX4, (fun h => absurd h (by decide)), (fun h => absurd h (by decide))⟩, (List.forall_mem_cons.mpr ⟨⟨RX4, TX4, 7, tyX4, rfl, by decide, u_lay_X4, u_3_5, tyX4_ok, nmX4, (fun h => absurd h (by decide)), (fun h => absurd h (by decide))⟩, (List.forall_mem_cons.mpr ⟨⟨RX4, TX4, 7, tyX4, rfl, by decide, u_lay_X4, u_3_6, tyX4_ok, nmX4, (fun h => absurd h (by decide)), (fun h => absurd h (by decide))⟩, (List.forall_mem_cons.mpr ⟨⟨RX4, TX4, 7, tyX4, rfl, by decide, u_lay_X4, u_9_5, tyX4_ok, nmX4, (fun _ => ⟨rfl, by decide +kernel⟩), (fun h => absurd h (by decide))⟩, (List.forall_mem_cons.mpr ⟨⟨RX4, TX4, 7, tyX4, rfl, by decide, u_lay_X4, u_9_6, tyX4_ok, nmX4, (fun h => absurd h (by decide)), (fun _ => ⟨rfl, by decide +kernel⟩)⟩, (fun _ h => absurd h List.not_mem_nil)⟩)⟩)⟩)⟩)⟩)⟩)⟩) (fun _ h => absurd h List.not_mem_nil) (List.forall_mem_cons.mpr ⟨⟨⟨by decide, by decide⟩, u_41_6⟩, (fun _ h => absurd h List.not_mem_nil)⟩) (fun _ h => absurd h List.not_mem_nil) c0
def eX5 : zEnv := ([(11, 5, 1, 0), (15, 5, 2, 0), (18, 5, 3, 0), (21, 5, 4, 0), (24, 5, 5, 0), (27, 5, 6, 0), (30, 5, 7, 0), (33, 5, 0, 1)], [], [(57, 31)], [(41, false)])
theorem eX5_ok (c0 : Cond) : zEok (c0 :: uU) RX5 eX5 := zEok_of (List.forall_mem_cons.mpr ⟨⟨RX5, TX5, 8, tyX5, rfl, by decide, u_lay_X5, u_4_2, tyX5_ok, nmX5, (fun h => absurd h (by decide)), (fun h => absurd h (by decide))⟩, (List.forall_mem_cons.mpr ⟨⟨RX5, TX5, 8, tyX5, rfl, by decide, u_lay_X5, u_4_3, tyX5_ok, nmX5, (fun h => absurd h (by decide)), (fun h => absurd h (by decide))⟩, (List.forall_mem_cons.mpr ⟨⟨RX5, TX5, 8, tyX5, rfl, by decide, u_lay_X5, u_4_4, tyX5_ok, nmX5, (fun h => absurd h (by decide)), (fun h => absurd h (by decide))⟩, (List.forall_mem_cons.mpr ⟨⟨RX5, TX5, 8, tyX5, rfl, by decide, u_lay_X5, u_4_5, tyX5_ok, nmX5, (fun h => absurd h (by decide)), (fun h => absurd h (by decide))⟩, (List.forall_mem_cons.mpr ⟨⟨RX5, TX5, 8, tyX5, rfl, by decide, u_lay_X5, u_4_6, tyX5_ok, nmX5, (fun h => absurd h (by decide)), (fun h => absurd h (by decide))⟩, (List.forall_mem_cons.mpr ⟨⟨RX5, TX5, 8, tyX5, rfl, by decide, u_lay_X5, u_4_7, tyX5_ok, nmX5, (fun h => absurd h (by decide)), (fun h => absurd h (by decide))⟩, (List.forall_mem_cons.mpr ⟨⟨RX5, TX5, 8, tyX5, rfl, by decide, u_lay_X5, u_4_8, tyX5_ok, nmX5, (fun h => absurd h (by decide)), (fun h => absurd h (by decide))⟩, (List.forall_mem_cons.mpr ⟨⟨RX5, TX5, 8, tyX5, rfl, by decide, u_lay_X5, u_21_10, tyX5_ok, nmX5, (fun _ => ⟨rfl, by decide +kernel⟩), (fun h => absurd h (by decide))⟩, (fun _ h => absurd h List.not_mem_nil)⟩)⟩)⟩)⟩)⟩)⟩)⟩)⟩) (fun _ h => absurd h List.not_mem_nil) (List.forall_mem_cons.mpr ⟨⟨⟨by decide, by decide⟩, u_41_11⟩, (fun _ h => absurd h List.not_mem_nil)⟩) (List.forall_mem_cons.mpr ⟨⟨u_14_20, (fun h => absurd h (by decide)), (fun _ => ⟨u_21_15, u_14_19, u_14_21⟩)⟩, (fun _ h => absurd h List.not_mem_nil)⟩) c0
def eX5n : zEnv := (eX5.1, eX5.2.1, eX5.2.2.1, [])
theorem eX5n_ok (c0 : Cond) : zEok (c0 :: uU) RX5 eX5n := zEok_of (List.forall_mem_cons.mpr ⟨⟨RX5, TX5, 8, tyX5, rfl, by decide, u_lay_X5, u_4_2, tyX5_ok, nmX5, (fun h => absurd h (by decide)), (fun h => absurd h (by decide))⟩, (List.forall_mem_cons.mpr ⟨⟨RX5, TX5, 8, tyX5, rfl, by decide, u_lay_X5, u_4_3, tyX5_ok, nmX5, (fun h => absurd h (by decide)), (fun h => absurd h (by decide))⟩, (List.forall_mem_cons.mpr ⟨⟨RX5, TX5, 8, tyX5, rfl, by decide, u_lay_X5, u_4_4, tyX5_ok, nmX5, (fun h => absurd h (by decide)), (fun h => absurd h (by decide))⟩, (List.forall_mem_cons.mpr ⟨⟨RX5, TX5, 8, tyX5, rfl, by decide, u_lay_X5, u_4_5, tyX5_ok, nmX5, (fun h => absurd h (by decide)), (fun h => absurd h (by decide))⟩, (List.forall_mem_cons.mpr ⟨⟨RX5, TX5, 8, tyX5, rfl, by decide, u_lay_X5, u_4_6, tyX5_ok, nmX5, (fun h => absurd h (by decide)), (fun h => absurd h (by decide))⟩, (List.forall_mem_cons.mpr ⟨⟨RX5, TX5, 8, tyX5, rfl, by decide, u_lay_X5, u_4_7, tyX5_ok, nmX5, (fun h => absurd h (by decide)), (fun h => absurd h (by decide))⟩, (List.forall_mem_cons.mpr ⟨⟨RX5, TX5, 8, tyX5, rfl, by decide, u_lay_X5, u_4_8, tyX5_ok, nmX5, (fun h => absurd h (by decide)), (fun h => absurd h (by decide))⟩, (List.forall_mem_cons.mpr ⟨⟨RX5, TX5, 8, tyX5, rfl, by decide, u_lay_X5, u_21_10, tyX5_ok, nmX5, (fun _ => ⟨rfl, by decide +kernel⟩), (fun h => absurd h (by decide))⟩, (fun _ h => absurd h List.not_mem_nil)⟩)⟩)⟩)⟩)⟩)⟩)⟩)⟩) (fun _ h => absurd h List.not_mem_nil) (List.forall_mem_cons.mpr ⟨⟨⟨by decide, by decide⟩, u_41_11⟩, (fun _ h => absurd h List.not_mem_nil)⟩) (fun _ h => absurd h List.not_mem_nil) c0
def eX6 : zEnv := ([(11, 6, 1, 0), (15, 6, 0, 1)], [], [(19, 1073741823), (30, 31)], [(24, false)])
theorem eX6_ok (c0 : Cond) : zEok (c0 :: uU) RX6 eX6 := zEok_of (List.forall_mem_cons.mpr ⟨⟨RX6, TX6, 2, tyX6, rfl, by decide, u_lay_X6, u_5_2, tyX6_ok, nmX6, (fun h => absurd h (by decide)), (fun h => absurd h (by decide))⟩, (List.forall_mem_cons.mpr ⟨⟨RX6, TX6, 2, tyX6, rfl, by decide, u_lay_X6, u_6_19, tyX6_ok, nmX6, (fun _ => ⟨rfl, by decide +kernel⟩), (fun h => absurd h (by decide))⟩, (fun _ h => absurd h List.not_mem_nil)⟩)⟩) (fun _ h => absurd h List.not_mem_nil) (List.forall_mem_cons.mpr ⟨⟨⟨by decide, by decide⟩, u_6_14⟩, (List.forall_mem_cons.mpr ⟨⟨⟨by decide, by decide⟩, u_42_14⟩, (fun _ h => absurd h List.not_mem_nil)⟩)⟩) (List.forall_mem_cons.mpr ⟨⟨u_14_20, (fun h => absurd h (by decide)), (fun _ => ⟨u_29_9, u_14_19, u_14_21⟩)⟩, (fun _ h => absurd h List.not_mem_nil)⟩) c0
def eX6n : zEnv := (eX6.1, eX6.2.1, eX6.2.2.1, [])
theorem eX6n_ok (c0 : Cond) : zEok (c0 :: uU) RX6 eX6n := zEok_of (List.forall_mem_cons.mpr ⟨⟨RX6, TX6, 2, tyX6, rfl, by decide, u_lay_X6, u_5_2, tyX6_ok, nmX6, (fun h => absurd h (by decide)), (fun h => absurd h (by decide))⟩, (List.forall_mem_cons.mpr ⟨⟨RX6, TX6, 2, tyX6, rfl, by decide, u_lay_X6, u_6_19, tyX6_ok, nmX6, (fun _ => ⟨rfl, by decide +kernel⟩), (fun h => absurd h (by decide))⟩, (fun _ h => absurd h List.not_mem_nil)⟩)⟩) (fun _ h => absurd h List.not_mem_nil) (List.forall_mem_cons.mpr ⟨⟨⟨by decide, by decide⟩, u_6_14⟩, (List.forall_mem_cons.mpr ⟨⟨⟨by decide, by decide⟩, u_42_14⟩, (fun _ h => absurd h List.not_mem_nil)⟩)⟩) (fun _ h => absurd h List.not_mem_nil) c0
def eX7 : zEnv := ([(9, 7, 0, 0), (13, 7, 1, 0), (16, 7, 2, 0), (19, 7, 3, 0), (22, 7, 4, 0), (25, 7, 5, 0), (28, 7, 6, 0)], [(31, 1103515245)], [(49, 31)], [])
theorem eX7_ok (c0 : Cond) : zEok (c0 :: uU) RX7 eX7 := zEok_of (List.forall_mem_cons.mpr ⟨⟨RX7, TX7, 7, tyX7, rfl, by decide, u_lay_X7, u_5_13, tyX7_ok, nmX7, (fun h => absurd h (by decide)), (fun h => absurd h (by decide))⟩, (List.forall_mem_cons.mpr ⟨⟨RX7, TX7, 7, tyX7, rfl, by decide, u_lay_X7, u_5_14, tyX7_ok, nmX7, (fun h => absurd h (by decide)), (fun h => absurd h (by decide))⟩, (List.forall_mem_cons.mpr ⟨⟨RX7, TX7, 7, tyX7, rfl, by decide, u_lay_X7, u_5_15, tyX7_ok, nmX7, (fun h => absurd h (by decide)), (fun h => absurd h (by decide))⟩, (List.forall_mem_cons.mpr ⟨⟨RX7, TX7, 7, tyX7, rfl, by decide, u_lay_X7, u_5_16, tyX7_ok, nmX7, (fun h => absurd h (by decide)), (fun h => absurd h (by decide))⟩, (List.forall_mem_cons.mpr ⟨⟨RX7, TX7, 7, tyX7, rfl, by decide, u_lay_X7, u_5_17, tyX7_ok, nmX7, (fun h => absurd h (by decide)), (fun h => absurd h (by decide))⟩, (List.forall_mem_cons.mpr ⟨⟨RX7, TX7, 7, tyX7, rfl, by decide, u_lay_X7, u_5_18, tyX7_ok, nmX7, (fun h => absurd h (by decide)), (fun h => absurd h (by decide))⟩, (List.forall_mem_cons.mpr ⟨⟨RX7, TX7, 7, tyX7, rfl, by decide, u_lay_X7, u_5_19, tyX7_ok, nmX7, (fun h => absurd h (by decide)), (fun h => absurd h (by decide))⟩, (fun _ h => absurd h List.not_mem_nil)⟩)⟩)⟩)⟩)⟩)⟩)⟩) (List.forall_mem_cons.mpr ⟨⟨⟨by decide, by decide⟩, u_34_11⟩, (fun _ h => absurd h List.not_mem_nil)⟩) (List.forall_mem_cons.mpr ⟨⟨⟨by decide, by decide⟩, u_42_2⟩, (fun _ h => absurd h List.not_mem_nil)⟩) (fun _ h => absurd h List.not_mem_nil) c0
def eX8 : zEnv := ([(11, 8, 0, 0), (17, 8, 1, 0), (21, 8, 2, 0), (24, 8, 3, 0), (27, 8, 4, 0), (30, 8, 5, 0), (33, 8, 6, 0), (36, 8, 7, 0), (39, 8, 8, 0), (42, 8, 9, 0), (45, 8, 10, 0), (48, 8, 12, 2), (52, 8, 13, 2), (58, 4, 0, 1), (76, 8, 11, 1), (92, 8, 14, 2)], [(114, 1048576)], [], [(109, false), (146, true)])
theorem eX8_ok (c0 : Cond) : zEok (c0 :: uU) RX8 eX8 := zEok_of (List.forall_mem_cons.mpr ⟨⟨RX8, TX8, 15, tyX8, rfl, by decide, u_lay_X8, u_3_11, tyX8_ok, nmX8, (fun h => absurd h (by decide)), (fun h => absurd h (by decide))⟩, (List.forall_mem_cons.mpr ⟨⟨RX8, TX8, 15, tyX8, rfl, by decide, u_lay_X8, u_3_12, tyX8_ok, nmX8, (fun h => absurd h (by decide)), (fun h => absurd h (by decide))⟩, (List.forall_mem_cons.mpr ⟨⟨RX8, TX8, 15, tyX8, rfl, by decide, u_lay_X8, u_3_13, tyX8_ok, nmX8, (fun h => absurd h (by decide)), (fun h => absurd h (by decide))⟩, (List.forall_mem_cons.mpr ⟨⟨RX8, TX8, 15, tyX8, rfl, by decide, u_lay_X8, u_3_14, tyX8_ok, nmX8, (fun h => absurd h (by decide)), (fun h => absurd h (by decide))⟩, (List.forall_mem_cons.mpr ⟨⟨RX8, TX8, 15, tyX8, rfl, by decide, u_lay_X8, u_3_15, tyX8_ok, nmX8, (fun h => absurd h (by decide)), (fun h => absurd h (by decide))⟩, (List.forall_mem_cons.mpr ⟨⟨RX8, TX8, 15, tyX8, rfl, by decide, u_lay_X8, u_3_16, tyX8_ok, nmX8, (fun h => absurd h (by decide)), (fun h => absurd h (by decide))⟩, (List.forall_mem_cons.mpr ⟨⟨RX8, TX8, 15, tyX8, rfl, by decide, u_lay_X8, u_3_17, tyX8_ok, nmX8, (fun h => absurd h (by decide)), (fun h => absurd h (by decide))⟩, (List.forall_mem_cons.mpr ⟨⟨RX8, TX8, 15, tyX8, rfl, by decide, u_lay_X8, u_3_18, tyX8_ok, nmX8, (fun h => absurd h (by decide)), (fun h => absurd h (by decide))⟩, (List.forall_mem_cons.mpr ⟨⟨RX8, TX8, 15, tyX8, rfl, by decide, u_lay_X8, u_3_19, tyX8_ok, nmX8, (fun h => absurd h (by decide)), (fun h => absurd h (by decide))⟩, (List.forall_mem_cons.mpr ⟨⟨RX8, TX8, 15, tyX8, rfl, by decide, u_lay_X8, u_3_20, tyX8_ok, nmX8, (fun h => absurd h (by decide)), (fun h => absurd h (by decide))⟩, (List.forall_mem_cons.mpr ⟨⟨RX8, TX8, 15, tyX8, rfl, by decide, u_lay_X8, u_3_21, tyX8_ok, nmX8, (fun h => absurd h (by decide)), (fun h => absurd h (by decide))⟩, (List.forall_mem_cons.mpr ⟨⟨RX8, TX8, 15, tyX8, rfl, by decide, u_lay_X8, u_8_23, tyX8_ok, nmX8, (fun h => absurd h (by decide)), (fun _ => ⟨rfl, by decide +kernel⟩)⟩, (List.forall_mem_cons.mpr ⟨⟨RX8, TX8, 15, tyX8, rfl, by decide, u_lay_X8, u_9_0, tyX8_ok, nmX8, (fun h => absurd h (by decide)), (fun _ => ⟨rfl, by decide +kernel⟩)⟩, (List.forall_mem_cons.mpr ⟨⟨RX4, TX4, 7, tyX4, rfl, by decide, u_lay_X4, u_14_11, tyX4_ok, nmX4, (fun _ => ⟨rfl, by decide +kernel⟩), (fun h => absurd h (by decide))⟩, (List.forall_mem_cons.mpr ⟨⟨RX8, TX8, 15, tyX8, rfl, by decide, u_lay_X8, u_14_12, tyX8_ok, nmX8, (fun _ => ⟨rfl, by decide +kernel⟩), (fun h => absurd h (by decide))⟩, (List.forall_mem_cons.mpr ⟨⟨RX8, TX8, 15, tyX8, rfl, by decide, u_lay_X8, u_18_10, tyX8_ok, nmX8, (fun h => absurd h (by decide)), (fun _ => ⟨rfl, by decide +kernel⟩)⟩, (fun _ h => absurd h List.not_mem_nil)⟩)⟩)⟩)⟩)⟩)⟩)⟩)⟩)⟩)⟩)⟩)⟩)⟩)⟩)⟩)⟩) (List.forall_mem_cons.mpr ⟨⟨⟨by decide, by decide⟩, u_15_2⟩, (fun _ h => absurd h List.not_mem_nil)⟩) (fun _ h => absurd h List.not_mem_nil) (List.forall_mem_cons.mpr ⟨⟨u_14_20, (fun h => absurd h (by decide)), (fun _ => ⟨u_14_18, u_14_19, u_14_21⟩)⟩, (List.forall_mem_cons.mpr ⟨⟨u_14_20, (fun _ => ⟨u_18_23, u_19_0, u_19_1⟩), (fun h => absurd h (by decide))⟩, (fun _ h => absurd h List.not_mem_nil)⟩)⟩) c0
def eX8n : zEnv := (eX8.1, eX8.2.1, eX8.2.2.1, [])
theorem eX8n_ok (c0 : Cond) : zEok (c0 :: uU) RX8 eX8n := zEok_of (List.forall_mem_cons.mpr ⟨⟨RX8, TX8, 15, tyX8, rfl, by decide, u_lay_X8, u_3_11, tyX8_ok, nmX8, (fun h => absurd h (by decide)), (fun h => absurd h (by decide))⟩, (List.forall_mem_cons.mpr ⟨⟨RX8, TX8, 15, tyX8, rfl, by decide, u_lay_X8, u_3_12, tyX8_ok, nmX8, (fun h => absurd h (by decide)), (fun h => absurd h (by decide))⟩, (List.forall_mem_cons.mpr ⟨⟨RX8, TX8, 15, tyX8, rfl, by decide, u_lay_X8, u_3_13, tyX8_ok, nmX8, (fun h => absurd h (by decide)), (fun h => absurd h (by decide))⟩, (List.forall_mem_cons.mpr ⟨⟨RX8, TX8, 15, tyX8, rfl, by decide, u_lay_X8, u_3_14, tyX8_ok, nmX8, (fun h => absurd h (by decide)), (fun h => absurd h (by decide))⟩, (List.forall_mem_cons.mpr ⟨⟨RX8, TX8, 15, tyX8, rfl, by decide, u_lay_X8, u_3_15, tyX8_ok, nmX8, (fun h => absurd h (by decide)), (fun h => absurd h (by decide))⟩, (List.forall_mem_cons.mpr ⟨⟨RX8, TX8, 15, tyX8, rfl, by decide, u_lay_X8, u_3_16, tyX8_ok, nmX8, (fun h => absurd h (by decide)), (fun h => absurd h (by decide))⟩, (List.forall_mem_cons.mpr ⟨⟨RX8, TX8, 15, tyX8, rfl, by decide, u_lay_X8, u_3_17, tyX8_ok, nmX8, (fun h => absurd h (by decide)), (fun h => absurd h (by decide))⟩, (List.forall_mem_cons.mpr ⟨⟨RX8, TX8, 15, tyX8, rfl, by decide, u_lay_X8, u_3_18, tyX8_ok, nmX8, (fun h => absurd h (by decide)), (fun h => absurd h (by decide))⟩, (List.forall_mem_cons.mpr ⟨⟨RX8, TX8, 15, tyX8, rfl, by decide, u_lay_X8, u_3_19, tyX8_ok, nmX8, (fun h => absurd h (by decide)), (fun h => absurd h (by decide))⟩, (List.forall_mem_cons.mpr ⟨⟨RX8, TX8, 15, tyX8, rfl, by decide, u_lay_X8, u_3_20, tyX8_ok, nmX8, (fun h => absurd h (by decide)), (fun h => absurd h (by decide))⟩, (List.forall_mem_cons.mpr ⟨⟨RX8, TX8, 15, tyX8, rfl, by decide, u_lay_X8, u_3_21, tyX8_ok, nmX8, (fun h => absurd h (by decide)), (fun h => absurd h (by decide))⟩, (List.forall_mem_cons.mpr ⟨⟨RX8, TX8, 15, tyX8, rfl, by decide, u_lay_X8, u_8_23, tyX8_ok, nmX8, (fun h => absurd h (by decide)), (fun _ => ⟨rfl, by decide +kernel⟩)⟩, (List.forall_mem_cons.mpr ⟨⟨RX8, TX8, 15, tyX8, rfl, by decide, u_lay_X8, u_9_0, tyX8_ok, nmX8, (fun h => absurd h (by decide)), (fun _ => ⟨rfl, by decide +kernel⟩)⟩, (List.forall_mem_cons.mpr ⟨⟨RX4, TX4, 7, tyX4, rfl, by decide, u_lay_X4, u_14_11, tyX4_ok, nmX4, (fun _ => ⟨rfl, by decide +kernel⟩), (fun h => absurd h (by decide))⟩, (List.forall_mem_cons.mpr ⟨⟨RX8, TX8, 15, tyX8, rfl, by decide, u_lay_X8, u_14_12, tyX8_ok, nmX8, (fun _ => ⟨rfl, by decide +kernel⟩), (fun h => absurd h (by decide))⟩, (List.forall_mem_cons.mpr ⟨⟨RX8, TX8, 15, tyX8, rfl, by decide, u_lay_X8, u_18_10, tyX8_ok, nmX8, (fun h => absurd h (by decide)), (fun _ => ⟨rfl, by decide +kernel⟩)⟩, (fun _ h => absurd h List.not_mem_nil)⟩)⟩)⟩)⟩)⟩)⟩)⟩)⟩)⟩)⟩)⟩)⟩)⟩)⟩)⟩)⟩) (List.forall_mem_cons.mpr ⟨⟨⟨by decide, by decide⟩, u_15_2⟩, (fun _ h => absurd h List.not_mem_nil)⟩) (fun _ h => absurd h List.not_mem_nil) (fun _ h => absurd h List.not_mem_nil) c0
def eX9 : zEnv := ([(10, 9, 0, 0), (21, 9, 1, 0), (28, 9, 2, 0), (35, 9, 3, 0), (42, 9, 4, 0), (49, 9, 5, 0), (56, 9, 6, 0), (63, 9, 7, 0), (71, 4, 0, 1), (124, 5, 0, 1), (192, 1, 0, 1), (201, 1, 2, 1), (204, 1, 3, 1), (207, 1, 1, 1), (212, 2, 0, 0), (216, 6, 0, 1), (221, 2, 1, 0)], [], [(165, (-1)), (167, 10000000000), (210, 2), (230, 457), (232, 31)], [])
theorem eX9_ok (c0 : Cond) : zEok (c0 :: uU) RX9 eX9 := zEok_of (List.forall_mem_cons.mpr ⟨⟨RX9, TX9, 8, tyX9, rfl, by decide, u_lay_X9, u_1_16, tyX9_ok, nmX9, (fun h => absurd h (by decide)), (fun h => absurd h (by decide))⟩, (List.forall_mem_cons.mpr ⟨⟨RX9, TX9, 8, tyX9, rfl, by decide, u_lay_X9, u_1_20, tyX9_ok, nmX9, (fun h => absurd h (by decide)), (fun h => absurd h (by decide))⟩, (List.forall_mem_cons.mpr ⟨⟨RX9, TX9, 8, tyX9, rfl, by decide, u_lay_X9, u_2_0, tyX9_ok, nmX9, (fun h => absurd h (by decide)), (fun h => absurd h (by decide))⟩, (List.forall_mem_cons.mpr ⟨⟨RX9, TX9, 8, tyX9, rfl, by decide, u_lay_X9, u_2_4, tyX9_ok, nmX9, (fun h => absurd h (by decide)), (fun h => absurd h (by decide))⟩, (List.forall_mem_cons.mpr ⟨⟨RX9, TX9, 8, tyX9, rfl, by decide, u_lay_X9, u_2_8, tyX9_ok, nmX9, (fun h => absurd h (by decide)), (fun h => absurd h (by decide))⟩, (List.forall_mem_cons.mpr ⟨⟨RX9, TX9, 8, tyX9, rfl, by decide, u_lay_X9, u_2_12, tyX9_ok, nmX9, (fun h => absurd h (by decide)), (fun h => absurd h (by decide))⟩, (List.forall_mem_cons.mpr ⟨⟨RX9, TX9, 8, tyX9, rfl, by decide, u_lay_X9, u_2_16, tyX9_ok, nmX9, (fun h => absurd h (by decide)), (fun h => absurd h (by decide))⟩, (List.forall_mem_cons.mpr ⟨⟨RX9, TX9, 8, tyX9, rfl, by decide, u_lay_X9, u_2_20, tyX9_ok, nmX9, (fun h => absurd h (by decide)), (fun h => absurd h (by decide))⟩, (List.forall_mem_cons.mpr ⟨⟨RX4, TX4, 7, tyX4, rfl, by decide, u_lay_X4, u_8_15, tyX4_ok, nmX4, (fun _ => ⟨rfl, by decide +kernel⟩), (fun h => absurd h (by decide))⟩, (List.forall_mem_cons.mpr ⟨⟨RX5, TX5, 8, tyX5, rfl, by decide, u_lay_X5, u_21_2, tyX5_ok, nmX5, (fun _ => ⟨rfl, by decide +kernel⟩), (fun h => absurd h (by decide))⟩, (List.forall_mem_cons.mpr ⟨⟨RX1, TX1, 6, tyX1, rfl, by decide, u_lay_X1, u_37_9, tyX1_ok, nmX1, (fun _ => ⟨rfl, by decide +kernel⟩), (fun h => absurd h (by decide))⟩, (List.forall_mem_cons.mpr ⟨⟨RX1, TX1, 6, tyX1, rfl, by decide, u_lay_X1, u_38_12, tyX1_ok, nmX1, (fun _ => ⟨rfl, by decide +kernel⟩), (fun h => absurd h (by decide))⟩, (List.forall_mem_cons.mpr ⟨⟨RX1, TX1, 6, tyX1, rfl, by decide, u_lay_X1, u_38_13, tyX1_ok, nmX1, (fun _ => ⟨rfl, by decide +kernel⟩), (fun h => absurd h (by decide))⟩, (List.forall_mem_cons.mpr ⟨⟨RX1, TX1, 6, tyX1, rfl, by decide, u_lay_X1, u_38_14, tyX1_ok, nmX1, (fun _ => ⟨rfl, by decide +kernel⟩), (fun h => absurd h (by decide))⟩, (List.forall_mem_cons.mpr ⟨⟨RX2, TX2, 2, tyX2, rfl, by decide, u_lay_X2, u_39_8, tyX2_ok, nmX2, (fun h => absurd h (by decide)), (fun h => absurd h (by decide))⟩, (List.forall_mem_cons.mpr ⟨⟨RX6, TX6, 2, tyX6, rfl, by decide, u_lay_X6, u_39_9, tyX6_ok, nmX6, (fun _ => ⟨rfl, by decide +kernel⟩), (fun h => absurd h (by decide))⟩, (List.forall_mem_cons.mpr ⟨⟨RX2, TX2, 2, tyX2, rfl, by decide, u_lay_X2, u_39_10, tyX2_ok, nmX2, (fun h => absurd h (by decide)), (fun h => absurd h (by decide))⟩, (fun _ h => absurd h List.not_mem_nil)⟩)⟩)⟩)⟩)⟩)⟩)⟩)⟩)⟩)⟩)⟩)⟩)⟩)⟩)⟩)⟩)⟩) (fun _ h => absurd h List.not_mem_nil) (List.forall_mem_cons.mpr ⟨⟨⟨by decide, by decide⟩, u_32_1⟩, (List.forall_mem_cons.mpr ⟨⟨⟨by decide, by decide⟩, u_32_14⟩, (List.forall_mem_cons.mpr ⟨⟨⟨by decide, by decide⟩, u_38_15⟩, (List.forall_mem_cons.mpr ⟨⟨⟨by decide, by decide⟩, u_40_23⟩, (List.forall_mem_cons.mpr ⟨⟨⟨by decide, by decide⟩, u_41_0⟩, (fun _ h => absurd h List.not_mem_nil)⟩)⟩)⟩)⟩)⟩) (fun _ h => absurd h List.not_mem_nil) c0
def eX10 : zEnv := ([(7, 10, 0, 0), (13, 10, 1, 0), (16, 10, 3, 0), (19, 10, 4, 0), (22, 10, 5, 0), (25, 10, 6, 0), (28, 10, 7, 0), (31, 10, 8, 0), (34, 10, 9, 0), (37, 10, 10, 0), (40, 10, 11, 0), (43, 10, 13, 0), (46, 10, 14, 0), (49, 10, 15, 0), (52, 10, 16, 0), (55, 10, 17, 0), (58, 10, 18, 0), (61, 10, 19, 0), (64, 10, 20, 0), (67, 10, 21, 0), (70, 10, 22, 0), (73, 10, 23, 0), (76, 10, 24, 0), (79, 10, 25, 0), (82, 10, 26, 0), (85, 10, 27, 0), (127, 10, 2, 1), (190, 10, 12, 1), (253, 10, 28, 1)], [(102, 1073741823), (174, 1000000), (241, 1103515245)], [(92, 1073741823), (131, 99), (136, 7), (138, (-1)), (140, 9), (142, 4), (144, 8), (146, 20), (148, 531), (188, 6), (205, 100), (217, 3), (228, 18), (234, 10000000000), (239, 1023), (248, 10), (256, 2), (261, 31), (263, 457)], [])
theorem eX10_ok (c0 : Cond) : zEok (c0 :: uU) RX10 eX10 := zEok_of (List.forall_mem_cons.mpr ⟨⟨RX10, TX10, 29, tyX10, rfl, by decide, u_lay_X10, u_7_0, tyX10_ok, nmX10, (fun h => absurd h (by decide)), (fun h => absurd h (by decide))⟩, (List.forall_mem_cons.mpr ⟨⟨RX10, TX10, 29, tyX10, rfl, by decide, u_lay_X10, u_7_1, tyX10_ok, nmX10, (fun h => absurd h (by decide)), (fun h => absurd h (by decide))⟩, (List.forall_mem_cons.mpr ⟨⟨RX10, TX10, 29, tyX10, rfl, by decide, u_lay_X10, u_7_2, tyX10_ok, nmX10, (fun h => absurd h (by decide)), (fun h => absurd h (by decide))⟩, (List.forall_mem_cons.mpr ⟨⟨RX10, TX10, 29, tyX10, rfl, by decide, u_lay_X10, u_7_3, tyX10_ok, nmX10, (fun h => absurd h (by decide)), (fun h => absurd h (by decide))⟩, (List.forall_mem_cons.mpr ⟨⟨RX10, TX10, 29, tyX10, rfl, by decide, u_lay_X10, u_7_4, tyX10_ok, nmX10, (fun h => absurd h (by decide)), (fun h => absurd h (by decide))⟩, (List.forall_mem_cons.mpr ⟨⟨RX10, TX10, 29, tyX10, rfl, by decide, u_lay_X10, u_7_5, tyX10_ok, nmX10, (fun h => absurd h (by decide)), (fun h => absurd h (by decide))⟩, (List.forall_mem_cons.mpr ⟨⟨RX10, TX10, 29, tyX10, rfl, by decide, u_lay_X10, u_7_6, tyX10_ok, nmX10, (fun h => absurd h (by decide)), (fun h => absurd h (by decide))⟩, (List.forall_mem_cons.mpr ⟨⟨RX10, TX10, 29, tyX10, rfl, by decide, u_lay_X10, u_7_7, tyX10_ok, nmX10, (fun h => absurd h (by decide)), (fun h => absurd h (by decide))⟩, (List.forall_mem_cons.mpr ⟨⟨RX10, TX10, 29, tyX10, rfl, by decide, u_lay_X10, u_7_8, tyX10_ok, nmX10, (fun h => absurd h (by decide)), (fun h => absurd h (by decide))⟩, (List.forall_mem_cons.mpr ⟨⟨RX10, TX10, 29, tyX10, rfl, by decide, u_lay_X10, u_7_9, tyX10_ok, nmX10, (fun h => absurd h (by decide)), (fun h => absurd h (by decide))⟩, (List.forall_mem_cons.mpr ⟨⟨RX10, TX10, 29, tyX10, rfl, by decide, u_lay_X10, u_7_10, tyX10_ok, nmX10, (fun h => absurd h (by decide)), (fun h => absurd h (by decide))⟩, (List.forall_mem_cons.mpr ⟨⟨RX10, TX10, 29, tyX10, rfl, by decide, u_lay_X10, u_7_11, tyX10_ok, nmX10, (fun h => absurd h (by decide)), (fun h => absurd h (by decide))⟩, (List.forall_mem_cons.mpr ⟨⟨RX10, TX10, 29, tyX10, rfl, by decide, u_lay_X10, u_7_12, tyX10_ok, nmX10, (fun h => absurd h (by decide)), (fun h => absurd h (by decide))⟩, (List.forall_mem_cons.mpr ⟨⟨RX10, TX10, 29, tyX10, rfl, by decide, u_lay_X10, u_7_13, tyX10_ok, nmX10, (fun h => absurd h (by decide)), (fun h => absurd h (by decide))⟩, (List.forall_mem_cons.mpr ⟨⟨RX10, TX10, 29, tyX10, rfl, by decide, u_lay_X10, u_7_14, tyX10_ok, nmX10, (fun h => absurd h (by decide)), (fun h => absurd h (by decide))⟩, (List.forall_mem_cons.mpr ⟨⟨RX10, TX10, 29, tyX10, rfl, by decide, u_lay_X10, u_7_15, tyX10_ok, nmX10, (fun h => absurd h (by decide)), (fun h => absurd h (by decide))⟩, (List.forall_mem_cons.mpr ⟨⟨RX10, TX10, 29, tyX10, rfl, by decide, u_lay_X10, u_7_16, tyX10_ok, nmX10, (fun h => absurd h (by decide)), (fun h => absurd h (by decide))⟩, (List.forall_mem_cons.mpr ⟨⟨RX10, TX10, 29, tyX10, rfl, by decide, u_lay_X10, u_7_17, tyX10_ok, nmX10, (fun h => absurd h (by decide)), (fun h => absurd h (by decide))⟩, (List.forall_mem_cons.mpr ⟨⟨RX10, TX10, 29, tyX10, rfl, by decide, u_lay_X10, u_7_18, tyX10_ok, nmX10, (fun h => absurd h (by decide)), (fun h => absurd h (by decide))⟩, (List.forall_mem_cons.mpr ⟨⟨RX10, TX10, 29, tyX10, rfl, by decide, u_lay_X10, u_7_19, tyX10_ok, nmX10, (fun h => absurd h (by decide)), (fun h => absurd h (by decide))⟩, (List.forall_mem_cons.mpr ⟨⟨RX10, TX10, 29, tyX10, rfl, by decide, u_lay_X10, u_7_20, tyX10_ok, nmX10, (fun h => absurd h (by decide)), (fun h => absurd h (by decide))⟩, (List.forall_mem_cons.mpr ⟨⟨RX10, TX10, 29, tyX10, rfl, by decide, u_lay_X10, u_7_21, tyX10_ok, nmX10, (fun h => absurd h (by decide)), (fun h => absurd h (by decide))⟩, (List.forall_mem_cons.mpr ⟨⟨RX10, TX10, 29, tyX10, rfl, by decide, u_lay_X10, u_7_22, tyX10_ok, nmX10, (fun h => absurd h (by decide)), (fun h => absurd h (by decide))⟩, (List.forall_mem_cons.mpr ⟨⟨RX10, TX10, 29, tyX10, rfl, by decide, u_lay_X10, u_7_23, tyX10_ok, nmX10, (fun h => absurd h (by decide)), (fun h => absurd h (by decide))⟩, (List.forall_mem_cons.mpr ⟨⟨RX10, TX10, 29, tyX10, rfl, by decide, u_lay_X10, u_8_0, tyX10_ok, nmX10, (fun h => absurd h (by decide)), (fun h => absurd h (by decide))⟩, (List.forall_mem_cons.mpr ⟨⟨RX10, TX10, 29, tyX10, rfl, by decide, u_lay_X10, u_8_1, tyX10_ok, nmX10, (fun h => absurd h (by decide)), (fun h => absurd h (by decide))⟩, (List.forall_mem_cons.mpr ⟨⟨RX10, TX10, 29, tyX10, rfl, by decide, u_lay_X10, u_9_12, tyX10_ok, nmX10, (fun _ => ⟨rfl, by decide +kernel⟩), (fun h => absurd h (by decide))⟩, (List.forall_mem_cons.mpr ⟨⟨RX10, TX10, 29, tyX10, rfl, by decide, u_lay_X10, u_21_21, tyX10_ok, nmX10, (fun _ => ⟨rfl, by decide +kernel⟩), (fun h => absurd h (by decide))⟩, (List.forall_mem_cons.mpr ⟨⟨RX10, TX10, 29, tyX10, rfl, by decide, u_lay_X10, u_37_19, tyX10_ok, nmX10, (fun _ => ⟨rfl, by decide +kernel⟩), (fun h => absurd h (by decide))⟩, (fun _ h => absurd h List.not_mem_nil)⟩)⟩)⟩)⟩)⟩)⟩)⟩)⟩)⟩)⟩)⟩)⟩)⟩)⟩)⟩)⟩)⟩)⟩)⟩)⟩)⟩)⟩)⟩)⟩)⟩)⟩)⟩)⟩)⟩) (List.forall_mem_cons.mpr ⟨⟨⟨by decide, by decide⟩, u_27_17⟩, (List.forall_mem_cons.mpr ⟨⟨⟨by decide, by decide⟩, u_16_14⟩, (List.forall_mem_cons.mpr ⟨⟨⟨by decide, by decide⟩, u_35_4⟩, (fun _ h => absurd h List.not_mem_nil)⟩)⟩)⟩) (List.forall_mem_cons.mpr ⟨⟨⟨by decide, by decide⟩, u_8_6⟩, (List.forall_mem_cons.mpr ⟨⟨⟨by decide, by decide⟩, u_9_11⟩, (List.forall_mem_cons.mpr ⟨⟨⟨by decide, by decide⟩, u_10_8⟩, (List.forall_mem_cons.mpr ⟨⟨⟨by decide, by decide⟩, u_10_9⟩, (List.forall_mem_cons.mpr ⟨⟨⟨by decide, by decide⟩, u_10_10⟩, (List.forall_mem_cons.mpr ⟨⟨⟨by decide, by decide⟩, u_11_3⟩, (List.forall_mem_cons.mpr ⟨⟨⟨by decide, by decide⟩, u_13_5⟩, (List.forall_mem_cons.mpr ⟨⟨⟨by decide, by decide⟩, u_13_6⟩, (List.forall_mem_cons.mpr ⟨⟨⟨by decide, by decide⟩, u_13_7⟩, (List.forall_mem_cons.mpr ⟨⟨⟨by decide, by decide⟩, u_21_20⟩, (List.forall_mem_cons.mpr ⟨⟨⟨by decide, by decide⟩, u_24_21⟩, (List.forall_mem_cons.mpr ⟨⟨⟨by decide, by decide⟩, u_30_0⟩, (List.forall_mem_cons.mpr ⟨⟨⟨by decide, by decide⟩, u_32_6⟩, (List.forall_mem_cons.mpr ⟨⟨⟨by decide, by decide⟩, u_32_19⟩, (List.forall_mem_cons.mpr ⟨⟨⟨by decide, by decide⟩, u_33_11⟩, (List.forall_mem_cons.mpr ⟨⟨⟨by decide, by decide⟩, u_37_1⟩, (List.forall_mem_cons.mpr ⟨⟨⟨by decide, by decide⟩, u_39_3⟩, (List.forall_mem_cons.mpr ⟨⟨⟨by decide, by decide⟩, u_42_20⟩, (List.forall_mem_cons.mpr ⟨⟨⟨by decide, by decide⟩, u_42_19⟩, (fun _ h => absurd h List.not_mem_nil)⟩)⟩)⟩)⟩)⟩)⟩)⟩)⟩)⟩)⟩)⟩)⟩)⟩)⟩)⟩)⟩)⟩)⟩)⟩) (fun _ h => absurd h List.not_mem_nil) c0
def eJ6 : zEnv := ([], [(265, 1431655765), (266, 858993459), (267, 252645135)], [], [])
theorem eJ6_ok (c0 : Cond) : zEok (c0 :: uU) RJ6 eJ6 := zEok_of (fun _ h => absurd h List.not_mem_nil) (List.forall_mem_cons.mpr ⟨⟨⟨by decide, by decide⟩, u_36_18⟩, (List.forall_mem_cons.mpr ⟨⟨⟨by decide, by decide⟩, u_36_19⟩, (List.forall_mem_cons.mpr ⟨⟨⟨by decide, by decide⟩, u_36_20⟩, (fun _ h => absurd h List.not_mem_nil)⟩)⟩)⟩) (fun _ h => absurd h List.not_mem_nil) (fun _ h => absurd h List.not_mem_nil) c0
end
