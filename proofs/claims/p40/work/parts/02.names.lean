def RX0 : String := "GlideWhistles$1"
def TX0 : u_T := fun k => match k with
  | _ => ("", "", "", false)
def tyX0 : Nat → FieldType := fun k => match k with
  | _ => .int
abbrev wsX00 : List Cond := u_ws RX0 TX0 0
theorem nmX0 : ∀ a, a < 0 → ∀ b, b < 0 → a ≠ b → (TX0 a).2.1 ≠ (TX0 b).2.1 := by decide +kernel
theorem tyX0_ok : ∀ k, k < 0 → parseFieldDescriptor (TX0 k).2.2.1 = some (tyX0 k) := by decide +kernel
def RX1 : String := "GlideWhistles$Course"
def TX1 : u_T := fun k => match k with
  | 0 => ("GlideWhistles$Course", "heard", "LGlideWhistles$Row;", true)
  | 1 => ("GlideWhistles$Course", "warp", "LGlideWhistles$Warp;", true)
  | 2 => ("GlideWhistles$Course", "stack", "[I", true)
  | _ => ("GlideWhistles$Course", "top", "I", false)
def tyX1 : Nat → FieldType := fun k => match k with
  | 0 => .object "GlideWhistles$Row"
  | 1 => .object "GlideWhistles$Warp"
  | 2 => .array .int
  | _ => .int
abbrev wsX10 : List Cond := u_ws RX1 TX1 4
theorem nmX1 : ∀ a, a < 4 → ∀ b, b < 4 → a ≠ b → (TX1 a).2.1 ≠ (TX1 b).2.1 := by decide +kernel
theorem tyX1_ok : ∀ k, k < 4 → parseFieldDescriptor (TX1 k).2.2.1 = some (tyX1 k) := by decide +kernel
abbrev cX1_init : ByteArray := prog_3_method_1_code
def yX1_init : MethodName := ⟨RX1, "<init>", "(LGlideWhistles$Row;LGlideWhistles$Warp;)V"⟩
abbrev cX1_meantOf : ByteArray := prog_3_method_2_code
def yX1_meantOf : MethodName := ⟨RX1, "meantOf", "(LGlideWhistles$Vocabulary;)I"⟩
abbrev cX1_measureAll : ByteArray := prog_3_method_3_code
def yX1_measureAll : MethodName := ⟨RX1, "measureAll", "(LGlideWhistles$RuleBook;LGlideWhistles$Vocabulary;)V"⟩
abbrev cX1_measure : ByteArray := prog_3_method_4_code
def yX1_measure : MethodName := ⟨RX1, "measure", "(LGlideWhistles$RuleBook;LGlideWhistles$Word;)V"⟩
abbrev cX1_passOne : ByteArray := prog_3_method_5_code
def yX1_passOne : MethodName := ⟨RX1, "passOne", "(LGlideWhistles$RuleBook;LGlideWhistles$Vocabulary;)I"⟩
abbrev cX1_holds : ByteArray := prog_3_method_6_code
def yX1_holds : MethodName := ⟨RX1, "holds", "(LGlideWhistles$RuleBook;LGlideWhistles$Vocabulary;LGlideWhistles$Rule;)Z"⟩
abbrev cX1_changes : ByteArray := prog_3_method_7_code
def yX1_changes : MethodName := ⟨RX1, "changes", "(LGlideWhistles$RuleBook;LGlideWhistles$Vocabulary;LGlideWhistles$Rule;)Z"⟩
abbrev cX1_reckon : ByteArray := prog_3_method_8_code
def yX1_reckon : MethodName := ⟨RX1, "reckon", "(LGlideWhistles$RuleBook;LGlideWhistles$Vocabulary;II)I"⟩
abbrev cX1_push : ByteArray := prog_3_method_9_code
def yX1_push : MethodName := ⟨RX1, "push", "(I)V"⟩
abbrev cX1_pop : ByteArray := prog_3_method_10_code
def yX1_pop : MethodName := ⟨RX1, "pop", "()I"⟩
abbrev cX1_found : ByteArray := prog_3_method_11_code
def yX1_found : MethodName := ⟨RX1, "found", "(LGlideWhistles$Vocabulary;LGlideWhistles$Sign;I)I"⟩
abbrev cX1_isJoin : ByteArray := prog_3_method_12_code
def yX1_isJoin : MethodName := ⟨RX1, "isJoin", "(LGlideWhistles$Sign;)Z"⟩
abbrev cX1_join : ByteArray := prog_3_method_13_code
def yX1_join : MethodName := ⟨RX1, "join", "(LGlideWhistles$Sign;II)I"⟩
abbrev cX1_compares : ByteArray := prog_3_method_14_code
def yX1_compares : MethodName := ⟨RX1, "compares", "(LGlideWhistles$Sign;II)Z"⟩
def RX2 : String := "GlideWhistles$Parser"
def TX2 : u_T := fun k => match k with
  | 0 => ("GlideWhistles$Parser", "tokens", "LGlideWhistles$Tokens;", true)
  | 1 => ("GlideWhistles$Parser", "book", "LGlideWhistles$RuleBook;", true)
  | 2 => ("GlideWhistles$Parser", "vocabulary", "LGlideWhistles$Vocabulary;", true)
  | 3 => ("GlideWhistles$Parser", "names", "[I", true)
  | 4 => ("GlideWhistles$Parser", "at", "I", false)
  | 5 => ("GlideWhistles$Parser", "sign", "LGlideWhistles$Sign;", false)
  | 6 => ("GlideWhistles$Parser", "place", "I", false)
  | 7 => ("GlideWhistles$Parser", "value", "I", false)
  | 8 => ("GlideWhistles$Parser", "error", "I", false)
  | _ => ("GlideWhistles$Parser", "errorPlace", "I", false)
def tyX2 : Nat → FieldType := fun k => match k with
  | 0 => .object "GlideWhistles$Tokens"
  | 1 => .object "GlideWhistles$RuleBook"
  | 2 => .object "GlideWhistles$Vocabulary"
  | 3 => .array .int
  | 4 => .int
  | 5 => .object "GlideWhistles$Sign"
  | 6 => .int
  | 7 => .int
  | 8 => .int
  | _ => .int
abbrev wsX20 : List Cond := u_ws RX2 TX2 10
theorem nmX2 : ∀ a, a < 10 → ∀ b, b < 10 → a ≠ b → (TX2 a).2.1 ≠ (TX2 b).2.1 := by decide +kernel
theorem tyX2_ok : ∀ k, k < 10 → parseFieldDescriptor (TX2 k).2.2.1 = some (tyX2 k) := by decide +kernel
abbrev cX2_init : ByteArray := prog_4_method_1_code
def yX2_init : MethodName := ⟨RX2, "<init>", "(LGlideWhistles$Tokens;LGlideWhistles$RuleBook;LGlideWhistles$Vocabulary;)V"⟩
abbrev cX2_readLanguage : ByteArray := prog_4_method_2_code
def yX2_readLanguage : MethodName := ⟨RX2, "readLanguage", "()V"⟩
abbrev cX2_step : ByteArray := prog_4_method_3_code
def yX2_step : MethodName := ⟨RX2, "step", "()V"⟩
abbrev cX2_expect : ByteArray := prog_4_method_4_code
def yX2_expect : MethodName := ⟨RX2, "expect", "(LGlideWhistles$Sign;)V"⟩
abbrev cX2_refuse : ByteArray := prog_4_method_5_code
def yX2_refuse : MethodName := ⟨RX2, "refuse", "()V"⟩
abbrev cX2_blame : ByteArray := prog_4_method_6_code
def yX2_blame : MethodName := ⟨RX2, "blame", "(I)V"⟩
abbrev cX2_readWord : ByteArray := prog_4_method_7_code
def yX2_readWord : MethodName := ⟨RX2, "readWord", "()V"⟩
abbrev cX2_readNewName : ByteArray := prog_4_method_8_code
def yX2_readNewName : MethodName := ⟨RX2, "readNewName", "()V"⟩
abbrev cX2_readKnownName : ByteArray := prog_4_method_9_code
def yX2_readKnownName : MethodName := ⟨RX2, "readKnownName", "()I"⟩
abbrev cX2_wordCalled : ByteArray := prog_4_method_10_code
def yX2_wordCalled : MethodName := ⟨RX2, "wordCalled", "(I)I"⟩
abbrev cX2_readPart : ByteArray := prog_4_method_11_code
def yX2_readPart : MethodName := ⟨RX2, "readPart", "()V"⟩
abbrev cX2_readNumber : ByteArray := prog_4_method_12_code
def yX2_readNumber : MethodName := ⟨RX2, "readNumber", "(II)I"⟩
abbrev cX2_readRule : ByteArray := prog_4_method_13_code
def yX2_readRule : MethodName := ⟨RX2, "readRule", "()V"⟩
abbrev cX2_requireDepth : ByteArray := prog_4_method_14_code
def yX2_requireDepth : MethodName := ⟨RX2, "requireDepth", "(I)V"⟩
abbrev cX2_readTest : ByteArray := prog_4_method_15_code
def yX2_readTest : MethodName := ⟨RX2, "readTest", "(I)V"⟩
abbrev cX2_readBoth : ByteArray := prog_4_method_16_code
def yX2_readBoth : MethodName := ⟨RX2, "readBoth", "(I)V"⟩
abbrev cX2_readSingle : ByteArray := prog_4_method_17_code
def yX2_readSingle : MethodName := ⟨RX2, "readSingle", "(I)V"⟩
abbrev cX2_isComparison : ByteArray := prog_4_method_18_code
def yX2_isComparison : MethodName := ⟨RX2, "isComparison", "()Z"⟩
abbrev cX2_readSum : ByteArray := prog_4_method_19_code
def yX2_readSum : MethodName := ⟨RX2, "readSum", "(I)V"⟩
abbrev cX2_readProduct : ByteArray := prog_4_method_20_code
def yX2_readProduct : MethodName := ⟨RX2, "readProduct", "(I)V"⟩
abbrev cX2_readValue : ByteArray := prog_4_method_21_code
def yX2_readValue : MethodName := ⟨RX2, "readValue", "(I)V"⟩
abbrev cX2_readChoice : ByteArray := prog_4_method_22_code
def yX2_readChoice : MethodName := ⟨RX2, "readChoice", "(I)V"⟩
def RX3 : String := "GlideWhistles$Row"
def TX3 : u_T := fun k => match k with
  | 0 => ("GlideWhistles$Row", "pitches", "[I", true)
  | _ => ("GlideWhistles$Row", "length", "I", false)
def tyX3 : Nat → FieldType := fun k => match k with
  | 0 => .array .int
  | _ => .int
abbrev wsX30 : List Cond := u_ws RX3 TX3 2
theorem nmX3 : ∀ a, a < 2 → ∀ b, b < 2 → a ≠ b → (TX3 a).2.1 ≠ (TX3 b).2.1 := by decide +kernel
theorem tyX3_ok : ∀ k, k < 2 → parseFieldDescriptor (TX3 k).2.2.1 = some (tyX3 k) := by decide +kernel
abbrev cX3_init : ByteArray := prog_5_method_1_code
def yX3_init : MethodName := ⟨RX3, "<init>", "()V"⟩
abbrev cX3_pitch : ByteArray := prog_5_method_2_code
def yX3_pitch : MethodName := ⟨RX3, "pitch", "(I)I"⟩
abbrev cX3_contour : ByteArray := prog_5_method_3_code
def yX3_contour : MethodName := ⟨RX3, "contour", "(I)I"⟩
abbrev cX3_countSilent : ByteArray := prog_5_method_4_code
def yX3_countSilent : MethodName := ⟨RX3, "countSilent", "()I"⟩
abbrev cX3_add : ByteArray := prog_5_method_5_code
def yX3_add : MethodName := ⟨RX3, "add", "(I)V"⟩
abbrev cX3_addGlide : ByteArray := prog_5_method_6_code
def yX3_addGlide : MethodName := ⟨RX3, "addGlide", "(III)V"⟩
abbrev cX3_copyFrom : ByteArray := prog_5_method_7_code
def yX3_copyFrom : MethodName := ⟨RX3, "copyFrom", "(LGlideWhistles$Row;)V"⟩
abbrev cX3_traceContour : ByteArray := prog_5_method_8_code
def yX3_traceContour : MethodName := ⟨RX3, "traceContour", "(LGlideWhistles$Row;)V"⟩
abbrev cX3_shift : ByteArray := prog_5_method_9_code
def yX3_shift : MethodName := ⟨RX3, "shift", "(I)Z"⟩
def RX4 : String := "GlideWhistles$Rule"
def TX4 : u_T := fun k => match k with
  | 0 => ("GlideWhistles$Rule", "kind", "LGlideWhistles$Sign;", false)
  | 1 => ("GlideWhistles$Rule", "word", "I", false)
  | 2 => ("GlideWhistles$Rule", "sumStart", "I", false)
  | 3 => ("GlideWhistles$Rule", "testStart", "I", false)
  | _ => ("GlideWhistles$Rule", "testEnd", "I", false)
def tyX4 : Nat → FieldType := fun k => match k with
  | 0 => .object "GlideWhistles$Sign"
  | 1 => .int
  | 2 => .int
  | 3 => .int
  | _ => .int
abbrev wsX40 : List Cond := u_ws RX4 TX4 5
theorem nmX4 : ∀ a, a < 5 → ∀ b, b < 5 → a ≠ b → (TX4 a).2.1 ≠ (TX4 b).2.1 := by decide +kernel
theorem tyX4_ok : ∀ k, k < 5 → parseFieldDescriptor (TX4 k).2.2.1 = some (tyX4 k) := by decide +kernel
abbrev cX4_init : ByteArray := prog_6_method_1_code
def yX4_init : MethodName := ⟨RX4, "<init>", "()V"⟩
def RX5 : String := "GlideWhistles$RuleBook"
def TX5 : u_T := fun k => match k with
  | 0 => ("GlideWhistles$RuleBook", "all", "[LGlideWhistles$Rule;", true)
  | 1 => ("GlideWhistles$RuleBook", "none", "LGlideWhistles$Rule;", true)
  | 2 => ("GlideWhistles$RuleBook", "signs", "[LGlideWhistles$Sign;", true)
  | 3 => ("GlideWhistles$RuleBook", "values", "[I", true)
  | 4 => ("GlideWhistles$RuleBook", "count", "I", false)
  | 5 => ("GlideWhistles$RuleBook", "size", "I", false)
  | 6 => ("GlideWhistles$RuleBook", "band", "I", false)
  | _ => ("GlideWhistles$RuleBook", "nearness", "I", false)
def tyX5 : Nat → FieldType := fun k => match k with
  | 0 => .array (.object "GlideWhistles$Rule")
  | 1 => .object "GlideWhistles$Rule"
  | 2 => .array (.object "GlideWhistles$Sign")
  | 3 => .array .int
  | 4 => .int
  | 5 => .int
  | 6 => .int
  | _ => .int
abbrev wsX50 : List Cond := u_ws RX5 TX5 8
theorem nmX5 : ∀ a, a < 8 → ∀ b, b < 8 → a ≠ b → (TX5 a).2.1 ≠ (TX5 b).2.1 := by decide +kernel
theorem tyX5_ok : ∀ k, k < 8 → parseFieldDescriptor (TX5 k).2.2.1 = some (tyX5 k) := by decide +kernel
abbrev cX5_init : ByteArray := prog_7_method_1_code
def yX5_init : MethodName := ⟨RX5, "<init>", "()V"⟩
abbrev cX5_rule : ByteArray := prog_7_method_2_code
def yX5_rule : MethodName := ⟨RX5, "rule", "(I)LGlideWhistles$Rule;"⟩
abbrev cX5_sign : ByteArray := prog_7_method_3_code
def yX5_sign : MethodName := ⟨RX5, "sign", "(I)LGlideWhistles$Sign;"⟩
abbrev cX5_value : ByteArray := prog_7_method_4_code
def yX5_value : MethodName := ⟨RX5, "value", "(I)I"⟩
abbrev cX5_clear : ByteArray := prog_7_method_5_code
def yX5_clear : MethodName := ⟨RX5, "clear", "()V"⟩
abbrev cX5_addSign : ByteArray := prog_7_method_6_code
def yX5_addSign : MethodName := ⟨RX5, "addSign", "(LGlideWhistles$Sign;I)V"⟩
abbrev cX5_addRule : ByteArray := prog_7_method_7_code
def yX5_addRule : MethodName := ⟨RX5, "addRule", "(LGlideWhistles$Sign;III)V"⟩
def RX6 : String := "GlideWhistles$Sign"
def TX6 : u_T := fun k => match k with
  | _ => ("", "", "", false)
def tyX6 : Nat → FieldType := fun k => match k with
  | _ => .int
abbrev wsX60 : List Cond := u_ws RX6 TX6 0
theorem nmX6 : ∀ a, a < 0 → ∀ b, b < 0 → a ≠ b → (TX6 a).2.1 ≠ (TX6 b).2.1 := by decide +kernel
theorem tyX6_ok : ∀ k, k < 0 → parseFieldDescriptor (TX6 k).2.2.1 = some (tyX6 k) := by decide +kernel
def RX7 : String := "GlideWhistles$Tape"
def TX7 : u_T := fun k => match k with
  | 0 => ("GlideWhistles$Tape", "bytes", "[C", true)
  | _ => ("GlideWhistles$Tape", "length", "I", false)
def tyX7 : Nat → FieldType := fun k => match k with
  | 0 => .array .char
  | _ => .int
abbrev wsX70 : List Cond := u_ws RX7 TX7 2
theorem nmX7 : ∀ a, a < 2 → ∀ b, b < 2 → a ≠ b → (TX7 a).2.1 ≠ (TX7 b).2.1 := by decide +kernel
theorem tyX7_ok : ∀ k, k < 2 → parseFieldDescriptor (TX7 k).2.2.1 = some (tyX7 k) := by decide +kernel
abbrev cX7_init : ByteArray := prog_9_method_1_code
def yX7_init : MethodName := ⟨RX7, "<init>", "()V"⟩
abbrev cX7_append : ByteArray := prog_9_method_2_code
def yX7_append : MethodName := ⟨RX7, "append", "(I)V"⟩
abbrev cX7_byteAt : ByteArray := prog_9_method_3_code
def yX7_byteAt : MethodName := ⟨RX7, "byteAt", "(I)I"⟩
abbrev cX7_isLetter : ByteArray := prog_9_method_4_code
def yX7_isLetter : MethodName := ⟨RX7, "isLetter", "(I)Z"⟩
abbrev cX7_isDigit : ByteArray := prog_9_method_5_code
def yX7_isDigit : MethodName := ⟨RX7, "isDigit", "(I)Z"⟩
abbrev cX7_behindBlanks : ByteArray := prog_9_method_6_code
def yX7_behindBlanks : MethodName := ⟨RX7, "behindBlanks", "(I)I"⟩
abbrev cX7_spells : ByteArray := prog_9_method_7_code
def yX7_spells : MethodName := ⟨RX7, "spells", "(ILjava/lang/String;)Z"⟩
abbrev cX7_alike : ByteArray := prog_9_method_8_code
def yX7_alike : MethodName := ⟨RX7, "alike", "(III)Z"⟩
def RX8 : String := "GlideWhistles$Tokens"
def TX8 : u_T := fun k => match k with
  | 0 => ("GlideWhistles$Tokens", "tape", "LGlideWhistles$Tape;", true)
  | 1 => ("GlideWhistles$Tokens", "signs", "[LGlideWhistles$Sign;", true)
  | 2 => ("GlideWhistles$Tokens", "places", "[I", true)
  | 3 => ("GlideWhistles$Tokens", "sizes", "[I", true)
  | 4 => ("GlideWhistles$Tokens", "values", "[I", true)
  | _ => ("GlideWhistles$Tokens", "count", "I", false)
def tyX8 : Nat → FieldType := fun k => match k with
  | 0 => .object "GlideWhistles$Tape"
  | 1 => .array (.object "GlideWhistles$Sign")
  | 2 => .array .int
  | 3 => .array .int
  | 4 => .array .int
  | _ => .int
abbrev wsX80 : List Cond := u_ws RX8 TX8 6
theorem nmX8 : ∀ a, a < 6 → ∀ b, b < 6 → a ≠ b → (TX8 a).2.1 ≠ (TX8 b).2.1 := by decide +kernel
theorem tyX8_ok : ∀ k, k < 6 → parseFieldDescriptor (TX8 k).2.2.1 = some (tyX8 k) := by decide +kernel
abbrev cX8_init : ByteArray := prog_10_method_1_code
def yX8_init : MethodName := ⟨RX8, "<init>", "(LGlideWhistles$Tape;)V"⟩
abbrev cX8_sign : ByteArray := prog_10_method_2_code
def yX8_sign : MethodName := ⟨RX8, "sign", "(I)LGlideWhistles$Sign;"⟩
abbrev cX8_place : ByteArray := prog_10_method_3_code
def yX8_place : MethodName := ⟨RX8, "place", "(I)I"⟩
abbrev cX8_size : ByteArray := prog_10_method_4_code
def yX8_size : MethodName := ⟨RX8, "size", "(I)I"⟩
abbrev cX8_value : ByteArray := prog_10_method_5_code
def yX8_value : MethodName := ⟨RX8, "value", "(I)I"⟩
abbrev cX8_readTape : ByteArray := prog_10_method_6_code
def yX8_readTape : MethodName := ⟨RX8, "readTape", "()V"⟩
abbrev cX8_readToken : ByteArray := prog_10_method_7_code
def yX8_readToken : MethodName := ⟨RX8, "readToken", "(I)V"⟩
abbrev cX8_add : ByteArray := prog_10_method_8_code
def yX8_add : MethodName := ⟨RX8, "add", "(LGlideWhistles$Sign;III)V"⟩
abbrev cX8_readWord : ByteArray := prog_10_method_9_code
def yX8_readWord : MethodName := ⟨RX8, "readWord", "(I)V"⟩
abbrev cX8_readNumber : ByteArray := prog_10_method_10_code
def yX8_readNumber : MethodName := ⟨RX8, "readNumber", "(I)V"⟩
abbrev cX8_readSymbol : ByteArray := prog_10_method_11_code
def yX8_readSymbol : MethodName := ⟨RX8, "readSymbol", "(I)V"⟩
abbrev cX8_longestSpelled : ByteArray := prog_10_method_12_code
def yX8_longestSpelled : MethodName := ⟨RX8, "longestSpelled", "(I)LGlideWhistles$Sign;"⟩
abbrev cX8_firstAlike : ByteArray := prog_10_method_13_code
def yX8_firstAlike : MethodName := ⟨RX8, "firstAlike", "(II)I"⟩
def RX9 : String := "GlideWhistles$Vocabulary"
def TX9 : u_T := fun k => match k with
  | 0 => ("GlideWhistles$Vocabulary", "all", "[LGlideWhistles$Word;", true)
  | 1 => ("GlideWhistles$Vocabulary", "nobody", "LGlideWhistles$Word;", true)
  | 2 => ("GlideWhistles$Vocabulary", "count", "I", false)
  | 3 => ("GlideWhistles$Vocabulary", "lessonsPassed", "I", false)
  | _ => ("GlideWhistles$Vocabulary", "carriedOut", "I", false)
def tyX9 : Nat → FieldType := fun k => match k with
  | 0 => .array (.object "GlideWhistles$Word")
  | 1 => .object "GlideWhistles$Word"
  | 2 => .int
  | 3 => .int
  | _ => .int
abbrev wsX90 : List Cond := u_ws RX9 TX9 5
theorem nmX9 : ∀ a, a < 5 → ∀ b, b < 5 → a ≠ b → (TX9 a).2.1 ≠ (TX9 b).2.1 := by decide +kernel
theorem tyX9_ok : ∀ k, k < 5 → parseFieldDescriptor (TX9 k).2.2.1 = some (tyX9 k) := by decide +kernel
abbrev cX9_init : ByteArray := prog_11_method_1_code
def yX9_init : MethodName := ⟨RX9, "<init>", "()V"⟩
abbrev cX9_word : ByteArray := prog_11_method_2_code
def yX9_word : MethodName := ⟨RX9, "word", "(I)LGlideWhistles$Word;"⟩
abbrev cX9_clear : ByteArray := prog_11_method_3_code
def yX9_clear : MethodName := ⟨RX9, "clear", "()V"⟩
abbrev cX9_addWord : ByteArray := prog_11_method_4_code
def yX9_addWord : MethodName := ⟨RX9, "addWord", "()V"⟩
abbrev cX9_copyFrom : ByteArray := prog_11_method_5_code
def yX9_copyFrom : MethodName := ⟨RX9, "copyFrom", "(LGlideWhistles$Vocabulary;)V"⟩
abbrev cX9_countKept : ByteArray := prog_11_method_6_code
def yX9_countKept : MethodName := ⟨RX9, "countKept", "()I"⟩
abbrev cX9_closestKept : ByteArray := prog_11_method_7_code
def yX9_closestKept : MethodName := ⟨RX9, "closestKept", "(I)I"⟩
def RX10 : String := "GlideWhistles$Warp"
def TX10 : u_T := fun k => match k with
  | 0 => ("GlideWhistles$Warp", "lane", "[I", true)
  | 1 => ("GlideWhistles$Warp", "firstContour", "LGlideWhistles$Row;", true)
  | _ => ("GlideWhistles$Warp", "secondContour", "LGlideWhistles$Row;", true)
def tyX10 : Nat → FieldType := fun k => match k with
  | 0 => .array .int
  | 1 => .object "GlideWhistles$Row"
  | _ => .object "GlideWhistles$Row"
abbrev wsX100 : List Cond := u_ws RX10 TX10 3
theorem nmX10 : ∀ a, a < 3 → ∀ b, b < 3 → a ≠ b → (TX10 a).2.1 ≠ (TX10 b).2.1 := by decide +kernel
theorem tyX10_ok : ∀ k, k < 3 → parseFieldDescriptor (TX10 k).2.2.1 = some (tyX10 k) := by decide +kernel
abbrev cX10_init : ByteArray := prog_12_method_1_code
def yX10_init : MethodName := ⟨RX10, "<init>", "()V"⟩
abbrev cX10_distance : ByteArray := prog_12_method_2_code
def yX10_distance : MethodName := ⟨RX10, "distance", "(LGlideWhistles$Row;LGlideWhistles$Row;I)I"⟩
abbrev cX10_fewestSteps : ByteArray := prog_12_method_3_code
def yX10_fewestSteps : MethodName := ⟨RX10, "fewestSteps", "(LGlideWhistles$Row;LGlideWhistles$Row;I)I"⟩
abbrev cX10_contourDistance : ByteArray := prog_12_method_4_code
def yX10_contourDistance : MethodName := ⟨RX10, "contourDistance", "(LGlideWhistles$Row;LGlideWhistles$Row;I)I"⟩
abbrev cX10_lightest : ByteArray := prog_12_method_5_code
def yX10_lightest : MethodName := ⟨RX10, "lightest", "(LGlideWhistles$Row;LGlideWhistles$Row;IZ)I"⟩
abbrev cX10_weight : ByteArray := prog_12_method_6_code
def yX10_weight : MethodName := ⟨RX10, "weight", "(IIZ)I"⟩
def RX11 : String := "GlideWhistles$Word"
def TX11 : u_T := fun k => match k with
  | 0 => ("GlideWhistles$Word", "row", "LGlideWhistles$Row;", true)
  | 1 => ("GlideWhistles$Word", "pruned", "Z", false)
  | _ => ("GlideWhistles$Word", "distance", "I", false)
def tyX11 : Nat → FieldType := fun k => match k with
  | 0 => .object "GlideWhistles$Row"
  | 1 => .boolean
  | _ => .int
abbrev wsX110 : List Cond := u_ws RX11 TX11 3
theorem nmX11 : ∀ a, a < 3 → ∀ b, b < 3 → a ≠ b → (TX11 a).2.1 ≠ (TX11 b).2.1 := by decide +kernel
theorem tyX11_ok : ∀ k, k < 3 → parseFieldDescriptor (TX11 k).2.2.1 = some (tyX11 k) := by decide +kernel
abbrev cX11_init : ByteArray := prog_13_method_1_code
def yX11_init : MethodName := ⟨RX11, "<init>", "()V"⟩
def RX12 : String := "GlideWhistles"
def TX12 : u_T := fun k => match k with
  | 0 => ("GlideWhistles", "tape", "LGlideWhistles$Tape;", true)
  | 1 => ("GlideWhistles", "tokens", "LGlideWhistles$Tokens;", true)
  | 2 => ("GlideWhistles", "warp", "LGlideWhistles$Warp;", true)
  | 3 => ("GlideWhistles", "heard", "LGlideWhistles$Row;", true)
  | 4 => ("GlideWhistles", "trial", "LGlideWhistles$Row;", true)
  | 5 => ("GlideWhistles", "course", "LGlideWhistles$Course;", true)
  | 6 => ("GlideWhistles", "book", "LGlideWhistles$RuleBook;", false)
  | 7 => ("GlideWhistles", "vocabulary", "LGlideWhistles$Vocabulary;", false)
  | 8 => ("GlideWhistles", "spareBook", "LGlideWhistles$RuleBook;", false)
  | 9 => ("GlideWhistles", "spareVocabulary", "LGlideWhistles$Vocabulary;", false)
  | _ => ("GlideWhistles", "placeOfError", "I", false)
def tyX12 : Nat → FieldType := fun k => match k with
  | 0 => .object "GlideWhistles$Tape"
  | 1 => .object "GlideWhistles$Tokens"
  | 2 => .object "GlideWhistles$Warp"
  | 3 => .object "GlideWhistles$Row"
  | 4 => .object "GlideWhistles$Row"
  | 5 => .object "GlideWhistles$Course"
  | 6 => .object "GlideWhistles$RuleBook"
  | 7 => .object "GlideWhistles$Vocabulary"
  | 8 => .object "GlideWhistles$RuleBook"
  | 9 => .object "GlideWhistles$Vocabulary"
  | _ => .int
abbrev wsX120 : List Cond := u_ws RX12 TX12 11
theorem nmX12 : ∀ a, a < 11 → ∀ b, b < 11 → a ≠ b → (TX12 a).2.1 ≠ (TX12 b).2.1 := by decide +kernel
theorem tyX12_ok : ∀ k, k < 11 → parseFieldDescriptor (TX12 k).2.2.1 = some (tyX12 k) := by decide +kernel
abbrev cX12_init : ByteArray := prog_1_method_1_code
def yX12_init : MethodName := ⟨RX12, "<init>", "()V"⟩
abbrev cX12_feed : ByteArray := prog_1_method_2_code
def yX12_feed : MethodName := ⟨RX12, "feed", "(IIIII)I"⟩
abbrev cX12_trim : ByteArray := prog_1_method_3_code
def yX12_trim : MethodName := ⟨RX12, "trim", "(I)I"⟩
abbrev cX12_teach : ByteArray := prog_1_method_4_code
def yX12_teach : MethodName := ⟨RX12, "teach", "()I"⟩
abbrev cX12_words : ByteArray := prog_1_method_6_code
def yX12_words : MethodName := ⟨RX12, "words", "()I"⟩
abbrev cX12_keptWords : ByteArray := prog_1_method_7_code
def yX12_keptWords : MethodName := ⟨RX12, "keptWords", "()I"⟩
abbrev cX12_rules : ByteArray := prog_1_method_8_code
def yX12_rules : MethodName := ⟨RX12, "rules", "()I"⟩
abbrev cX12_lessons : ByteArray := prog_1_method_9_code
def yX12_lessons : MethodName := ⟨RX12, "lessons", "()I"⟩
abbrev cX12_rulesCarriedOut : ByteArray := prog_1_method_10_code
def yX12_rulesCarriedOut : MethodName := ⟨RX12, "rulesCarriedOut", "()I"⟩
abbrev cX12_heardBeats : ByteArray := prog_1_method_11_code
def yX12_heardBeats : MethodName := ⟨RX12, "heardBeats", "()I"⟩
abbrev cX12_lengthOf : ByteArray := prog_1_method_12_code
def yX12_lengthOf : MethodName := ⟨RX12, "lengthOf", "(I)I"⟩
abbrev cX12_pitchAt : ByteArray := prog_1_method_13_code
def yX12_pitchAt : MethodName := ⟨RX12, "pitchAt", "(II)I"⟩
abbrev cX12_contourAt : ByteArray := prog_1_method_14_code
def yX12_contourAt : MethodName := ⟨RX12, "contourAt", "(II)I"⟩
abbrev cX12_isPruned : ByteArray := prog_1_method_15_code
def yX12_isPruned : MethodName := ⟨RX12, "isPruned", "(I)Z"⟩
abbrev cX12_silentBeats : ByteArray := prog_1_method_16_code
def yX12_silentBeats : MethodName := ⟨RX12, "silentBeats", "(I)I"⟩
abbrev cX12_distanceBetween : ByteArray := prog_1_method_17_code
def yX12_distanceBetween : MethodName := ⟨RX12, "distanceBetween", "(II)I"⟩
abbrev cX12_contourBetween : ByteArray := prog_1_method_18_code
def yX12_contourBetween : MethodName := ⟨RX12, "contourBetween", "(II)I"⟩
abbrev cX12_areNear : ByteArray := prog_1_method_19_code
def yX12_areNear : MethodName := ⟨RX12, "areNear", "(II)Z"⟩
abbrev cX12_nearestTo : ByteArray := prog_1_method_20_code
def yX12_nearestTo : MethodName := ⟨RX12, "nearestTo", "(I)I"⟩
abbrev cX12_isNeedless : ByteArray := prog_1_method_21_code
def yX12_isNeedless : MethodName := ⟨RX12, "isNeedless", "(I)Z"⟩
abbrev cX12_heardPitch : ByteArray := prog_1_method_22_code
def yX12_heardPitch : MethodName := ⟨RX12, "heardPitch", "(I)I"⟩
abbrev cX12_distanceTo : ByteArray := prog_1_method_23_code
def yX12_distanceTo : MethodName := ⟨RX12, "distanceTo", "(I)I"⟩
abbrev cX12_contourTo : ByteArray := prog_1_method_24_code
def yX12_contourTo : MethodName := ⟨RX12, "contourTo", "(I)I"⟩
abbrev cX12_stepsTo : ByteArray := prog_1_method_25_code
def yX12_stepsTo : MethodName := ⟨RX12, "stepsTo", "(I)I"⟩
abbrev cX12_meantWord : ByteArray := prog_1_method_26_code
def yX12_meantWord : MethodName := ⟨RX12, "meantWord", "()I"⟩
abbrev cX12_surety : ByteArray := prog_1_method_27_code
def yX12_surety : MethodName := ⟨RX12, "surety", "()I"⟩
abbrev cX12_hear : ByteArray := prog_1_method_28_code
def yX12_hear : MethodName := ⟨RX12, "hear", "(I)I"⟩
abbrev cX12_hearWord : ByteArray := prog_1_method_29_code
def yX12_hearWord : MethodName := ⟨RX12, "hearWord", "(II)I"⟩
abbrev cX12_forget : ByteArray := prog_1_method_30_code
def yX12_forget : MethodName := ⟨RX12, "forget", "()I"⟩
abbrev cX12_turnPruned : ByteArray := prog_1_method_31_code
def yX12_turnPruned : MethodName := ⟨RX12, "turnPruned", "(I)Z"⟩
abbrev cX12_pruneNeedless : ByteArray := prog_1_method_32_code
def yX12_pruneNeedless : MethodName := ⟨RX12, "pruneNeedless", "()I"⟩
abbrev cX12_passLessons : ByteArray := prog_1_method_33_code
def yX12_passLessons : MethodName := ⟨RX12, "passLessons", "(I)I"⟩
abbrev cX12_keptAfter : ByteArray := prog_1_method_34_code
def yX12_keptAfter : MethodName := ⟨RX12, "keptAfter", "(I)I"⟩
abbrev cX12_lessonsUntilMeant : ByteArray := prog_1_method_35_code
def yX12_lessonsUntilMeant : MethodName := ⟨RX12, "lessonsUntilMeant", "(I)I"⟩
abbrev cX12_bestShift : ByteArray := prog_1_method_36_code
def yX12_bestShift : MethodName := ⟨RX12, "bestShift", "(I)I"⟩
abbrev cX12_meanLength : ByteArray := prog_1_method_37_code
def yX12_meanLength : MethodName := ⟨RX12, "meanLength", "()D"⟩
abbrev cX12_digest : ByteArray := prog_1_method_38_code
def yX12_digest : MethodName := ⟨RX12, "digest", "()J"⟩
abbrev cX12_requireWord : ByteArray := prog_1_method_39_code
def yX12_requireWord : MethodName := ⟨RX12, "requireWord", "(I)V"⟩
abbrev cX12_requireBeat : ByteArray := prog_1_method_40_code
def yX12_requireBeat : MethodName := ⟨RX12, "requireBeat", "(LGlideWhistles$Row;I)V"⟩
abbrev cX12_requireSomeHeard : ByteArray := prog_1_method_41_code
def yX12_requireSomeHeard : MethodName := ⟨RX12, "requireSomeHeard", "()V"⟩
abbrev cX12_requireMeant : ByteArray := prog_1_method_42_code
def yX12_requireMeant : MethodName := ⟨RX12, "requireMeant", "(I)V"⟩
abbrev cX12_requireLessons : ByteArray := prog_1_method_43_code
def yX12_requireLessons : MethodName := ⟨RX12, "requireLessons", "(I)V"⟩
abbrev cX12_beginAnew : ByteArray := prog_1_method_44_code
def yX12_beginAnew : MethodName := ⟨RX12, "beginAnew", "()V"⟩
abbrev cX12_rowOf : ByteArray := prog_1_method_45_code
def yX12_rowOf : MethodName := ⟨RX12, "rowOf", "(I)LGlideWhistles$Row;"⟩
abbrev cX12_wordsApart : ByteArray := prog_1_method_46_code
def yX12_wordsApart : MethodName := ⟨RX12, "wordsApart", "(II)I"⟩
abbrev cX12_nearEachOther : ByteArray := prog_1_method_47_code
def yX12_nearEachOther : MethodName := ⟨RX12, "nearEachOther", "(II)Z"⟩
abbrev cX12_needless : ByteArray := prog_1_method_48_code
def yX12_needless : MethodName := ⟨RX12, "needless", "(I)Z"⟩
abbrev cX12_distanceIfShifted : ByteArray := prog_1_method_49_code
def yX12_distanceIfShifted : MethodName := ⟨RX12, "distanceIfShifted", "(II)I"⟩
abbrev cX12_digestOfWord : ByteArray := prog_1_method_50_code
def yX12_digestOfWord : MethodName := ⟨RX12, "digestOfWord", "(JI)J"⟩
abbrev cX12_digestOfRow : ByteArray := prog_1_method_51_code
def yX12_digestOfRow : MethodName := ⟨RX12, "digestOfRow", "(JLGlideWhistles$Row;)J"⟩
abbrev cX12_quotient : ByteArray := prog_1_method_52_code
def yX12_quotient : MethodName := ⟨RX12, "quotient", "(II)I"⟩
def RX13 : String := "GlideWhistlesLaw$Dice"
def TX13 : u_T := fun k => match k with
  | _ => ("GlideWhistlesLaw$Dice", "state", "I", false)
def tyX13 : Nat → FieldType := fun k => match k with
  | _ => .int
abbrev wsX130 : List Cond := u_ws RX13 TX13 1
theorem nmX13 : ∀ a, a < 1 → ∀ b, b < 1 → a ≠ b → (TX13 a).2.1 ≠ (TX13 b).2.1 := by decide +kernel
theorem tyX13_ok : ∀ k, k < 1 → parseFieldDescriptor (TX13 k).2.2.1 = some (tyX13 k) := by decide +kernel
abbrev cX13_init : ByteArray := prog_15_method_1_code
def yX13_init : MethodName := ⟨RX13, "<init>", "(I)V"⟩
abbrev cX13_next : ByteArray := prog_15_method_2_code
def yX13_next : MethodName := ⟨RX13, "next", "(I)I"⟩
def RX14 : String := "GlideWhistlesLaw$Node"
def TX14 : u_T := fun k => match k with
  | 0 => ("GlideWhistlesLaw$Node", "sort", "I", true)
  | 1 => ("GlideWhistlesLaw$Node", "n", "I", true)
  | 2 => ("GlideWhistlesLaw$Node", "a", "LGlideWhistlesLaw$Node;", true)
  | _ => ("GlideWhistlesLaw$Node", "b", "LGlideWhistlesLaw$Node;", true)
def tyX14 : Nat → FieldType := fun k => match k with
  | 0 => .int
  | 1 => .int
  | 2 => .object "GlideWhistlesLaw$Node"
  | _ => .object "GlideWhistlesLaw$Node"
abbrev wsX140 : List Cond := u_ws RX14 TX14 4
theorem nmX14 : ∀ a, a < 4 → ∀ b, b < 4 → a ≠ b → (TX14 a).2.1 ≠ (TX14 b).2.1 := by decide +kernel
theorem tyX14_ok : ∀ k, k < 4 → parseFieldDescriptor (TX14 k).2.2.1 = some (tyX14 k) := by decide +kernel
abbrev cX14_init : ByteArray := prog_16_method_1_code
def yX14_init : MethodName := ⟨RX14, "<init>", "(IILGlideWhistlesLaw$Node;LGlideWhistlesLaw$Node;)V"⟩
abbrev cX14_sum : ByteArray := prog_16_method_2_code
def yX14_sum : MethodName := ⟨RX14, "sum", "(LGlideWhistlesLaw$Dice;II)LGlideWhistlesLaw$Node;"⟩
abbrev cX14_test : ByteArray := prog_16_method_3_code
def yX14_test : MethodName := ⟨RX14, "test", "(LGlideWhistlesLaw$Dice;II)LGlideWhistlesLaw$Node;"⟩
abbrev cX14_text : ByteArray := prog_16_method_4_code
def yX14_text : MethodName := ⟨RX14, "text", "()Ljava/lang/String;"⟩
abbrev cX14_value : ByteArray := prog_16_method_5_code
def yX14_value : MethodName := ⟨RX14, "value", "(LGlideWhistlesLaw$Talk;)I"⟩
abbrev cX14_both : ByteArray := prog_16_method_6_code
def yX14_both : MethodName := ⟨RX14, "both", "(III)I"⟩
def RX15 : String := "GlideWhistlesLaw$Rule"
def TX15 : u_T := fun k => match k with
  | 0 => ("GlideWhistlesLaw$Rule", "does", "I", true)
  | 1 => ("GlideWhistlesLaw$Rule", "word", "I", true)
  | 2 => ("GlideWhistlesLaw$Rule", "sum", "LGlideWhistlesLaw$Node;", true)
  | _ => ("GlideWhistlesLaw$Rule", "test", "LGlideWhistlesLaw$Node;", true)
def tyX15 : Nat → FieldType := fun k => match k with
  | 0 => .int
  | 1 => .int
  | 2 => .object "GlideWhistlesLaw$Node"
  | _ => .object "GlideWhistlesLaw$Node"
abbrev wsX150 : List Cond := u_ws RX15 TX15 4
theorem nmX15 : ∀ a, a < 4 → ∀ b, b < 4 → a ≠ b → (TX15 a).2.1 ≠ (TX15 b).2.1 := by decide +kernel
theorem tyX15_ok : ∀ k, k < 4 → parseFieldDescriptor (TX15 k).2.2.1 = some (tyX15 k) := by decide +kernel
abbrev cX15_init : ByteArray := prog_17_method_1_code
def yX15_init : MethodName := ⟨RX15, "<init>", "(LGlideWhistlesLaw$Dice;I)V"⟩
abbrev cX15_text : ByteArray := prog_17_method_2_code
def yX15_text : MethodName := ⟨RX15, "text", "()Ljava/lang/String;"⟩
abbrev cX15_isDone : ByteArray := prog_17_method_3_code
def yX15_isDone : MethodName := ⟨RX15, "isDone", "(LGlideWhistlesLaw$Talk;)Z"⟩
def RX16 : String := "GlideWhistlesLaw$Talk"
def TX16 : u_T := fun k => match k with
  | 0 => ("GlideWhistlesLaw$Talk", "band", "I", false)
  | 1 => ("GlideWhistlesLaw$Talk", "nearness", "I", false)
  | 2 => ("GlideWhistlesLaw$Talk", "words", "[[I", false)
  | 3 => ("GlideWhistlesLaw$Talk", "pruned", "[Z", false)
  | 4 => ("GlideWhistlesLaw$Talk", "heard", "[I", false)
  | 5 => ("GlideWhistlesLaw$Talk", "lessons", "I", false)
  | 6 => ("GlideWhistlesLaw$Talk", "carried", "I", false)
  | 7 => ("GlideWhistlesLaw$Talk", "rules", "[LGlideWhistlesLaw$Rule;", false)
  | 8 => ("GlideWhistlesLaw$Talk", "cost", "[I", true)
  | _ => ("GlideWhistlesLaw$Talk", "steps", "[I", true)
def tyX16 : Nat → FieldType := fun k => match k with
  | 0 => .int
  | 1 => .int
  | 2 => .array (.array .int)
  | 3 => .array .boolean
  | 4 => .array .int
  | 5 => .int
  | 6 => .int
  | 7 => .array (.object "GlideWhistlesLaw$Rule")
  | 8 => .array .int
  | _ => .array .int
abbrev wsX160 : List Cond := u_ws RX16 TX16 10
theorem nmX16 : ∀ a, a < 10 → ∀ b, b < 10 → a ≠ b → (TX16 a).2.1 ≠ (TX16 b).2.1 := by decide +kernel
theorem tyX16_ok : ∀ k, k < 10 → parseFieldDescriptor (TX16 k).2.2.1 = some (tyX16 k) := by decide +kernel
abbrev cX16_init : ByteArray := prog_18_method_1_code
def yX16_init : MethodName := ⟨RX16, "<init>", "([I[I)V"⟩
abbrev cX16_contour : ByteArray := prog_18_method_3_code
def yX16_contour : MethodName := ⟨RX16, "contour", "([II)I"⟩
abbrev cX16_apart : ByteArray := prog_18_method_4_code
def yX16_apart : MethodName := ⟨RX16, "apart", "(II)I"⟩
abbrev cX16_way : ByteArray := prog_18_method_5_code
def yX16_way : MethodName := ⟨RX16, "way", "([I[IZ)I"⟩
abbrev cX16_far : ByteArray := prog_18_method_6_code
def yX16_far : MethodName := ⟨RX16, "far", "([I[I)I"⟩
abbrev cX16_meant : ByteArray := prog_18_method_7_code
def yX16_meant : MethodName := ⟨RX16, "meant", "(I)I"⟩
abbrev cX16_kept : ByteArray := prog_18_method_8_code
def yX16_kept : MethodName := ⟨RX16, "kept", "()I"⟩
abbrev cX16_near : ByteArray := prog_18_method_9_code
def yX16_near : MethodName := ⟨RX16, "near", "(II)Z"⟩
abbrev cX16_needless : ByteArray := prog_18_method_10_code
def yX16_needless : MethodName := ⟨RX16, "needless", "(I)Z"⟩
abbrev cX16_shifted : ByteArray := prog_18_method_11_code
def yX16_shifted : MethodName := ⟨RX16, "shifted", "([IJ)[I"⟩
abbrev cX16_pass : ByteArray := prog_18_method_12_code
def yX16_pass : MethodName := ⟨RX16, "pass", "()I"⟩
abbrev cX16_pass_ : ByteArray := prog_18_method_13_code
def yX16_pass_ : MethodName := ⟨RX16, "pass", "(I)I"⟩
abbrev cX16_isSame : ByteArray := prog_18_method_14_code
def yX16_isSame : MethodName := ⟨RX16, "isSame", "(LGlideWhistles;)Z"⟩
def RX17 : String := "GlideWhistlesModel$State"
def TX17 : u_T := fun k => match k with
  | _ => ("", "", "", false)
def tyX17 : Nat → FieldType := fun k => match k with
  | _ => .int
abbrev wsX170 : List Cond := u_ws RX17 TX17 0
theorem nmX17 : ∀ a, a < 0 → ∀ b, b < 0 → a ≠ b → (TX17 a).2.1 ≠ (TX17 b).2.1 := by decide +kernel
theorem tyX17_ok : ∀ k, k < 0 → parseFieldDescriptor (TX17 k).2.2.1 = some (tyX17 k) := by decide +kernel
def RX18 : String := "GlideWhistlesModel$Told"
def TX18 : u_T := fun k => match k with
  | _ => ("", "", "", false)
def tyX18 : Nat → FieldType := fun k => match k with
  | _ => .int
abbrev wsX180 : List Cond := u_ws RX18 TX18 0
theorem nmX18 : ∀ a, a < 0 → ∀ b, b < 0 → a ≠ b → (TX18 a).2.1 ≠ (TX18 b).2.1 := by decide +kernel
theorem tyX18_ok : ∀ k, k < 0 → parseFieldDescriptor (TX18 k).2.2.1 = some (tyX18 k) := by decide +kernel
def RX19 : String := "GlideWhistlesModel"
def TX19 : u_T := fun k => match k with
  | _ => ("", "", "", false)
def tyX19 : Nat → FieldType := fun k => match k with
  | _ => .int
abbrev wsX190 : List Cond := u_ws RX19 TX19 0
theorem nmX19 : ∀ a, a < 0 → ∀ b, b < 0 → a ≠ b → (TX19 a).2.1 ≠ (TX19 b).2.1 := by decide +kernel
theorem tyX19_ok : ∀ k, k < 0 → parseFieldDescriptor (TX19 k).2.2.1 = some (tyX19 k) := by decide +kernel
def RJx145de : String := "java/io/Serializable"
def TJx145de : u_T := fun k => match k with
  | _ => ("", "", "", false)
def tyJx145de : Nat → FieldType := fun k => match k with
  | _ => .int
abbrev wsJx145de0 : List Cond := u_ws RJx145de TJx145de 0
theorem nmJx145de : ∀ a, a < 0 → ∀ b, b < 0 → a ≠ b → (TJx145de a).2.1 ≠ (TJx145de b).2.1 := by decide +kernel
theorem tyJx145de_ok : ∀ k, k < 0 → parseFieldDescriptor (TJx145de k).2.2.1 = some (tyJx145de k) := by decide +kernel
def RJ5 : String := "java/lang/AbstractStringBuilder"
def TJ5 : u_T := fun k => match k with
  | _ => ("", "", "", false)
def tyJ5 : Nat → FieldType := fun k => match k with
  | _ => .int
abbrev wsJ50 : List Cond := u_ws RJ5 TJ5 0
theorem nmJ5 : ∀ a, a < 0 → ∀ b, b < 0 → a ≠ b → (TJ5 a).2.1 ≠ (TJ5 b).2.1 := by decide +kernel
theorem tyJ5_ok : ∀ k, k < 0 → parseFieldDescriptor (TJ5 k).2.2.1 = some (tyJ5 k) := by decide +kernel
abbrev cJ5_init_d00df : ByteArray := prog_22_method_2_code
def yJ5_init_d00df : MethodName := ⟨RJ5, "<init>", "(I)V"⟩
abbrev cJ5_length_8abf5 : ByteArray := prog_22_method_6_code
def yJ5_length_8abf5 : MethodName := ⟨RJ5, "length", "()I"⟩
abbrev cJ5_ensureCapacityInternal_d00df : ByteArray := prog_22_method_9_code
def yJ5_ensureCapacityInternal_d00df : MethodName := ⟨RJ5, "ensureCapacityInternal", "(I)V"⟩
abbrev cJ5_newCapacity_0f7a4 : ByteArray := prog_22_method_10_code
def yJ5_newCapacity_0f7a4 : MethodName := ⟨RJ5, "newCapacity", "(I)I"⟩
abbrev cJ5_inflate_da8c8 : ByteArray := prog_22_method_11_code
def yJ5_inflate_da8c8 : MethodName := ⟨RJ5, "inflate", "()V"⟩
abbrev cJ5_append_cf1ce : ByteArray := prog_22_method_22_code
def yJ5_append_cf1ce : MethodName := ⟨RJ5, "append", "(Ljava/lang/String;)Ljava/lang/AbstractStringBuilder;"⟩
abbrev cJ5_appendNull_278bc : ByteArray := prog_22_method_26_code
def yJ5_appendNull_278bc : MethodName := ⟨RJ5, "appendNull", "()Ljava/lang/AbstractStringBuilder;"⟩
abbrev cJ5_append_c97b9 : ByteArray := prog_22_method_32_code
def yJ5_append_c97b9 : MethodName := ⟨RJ5, "append", "(I)Ljava/lang/AbstractStringBuilder;"⟩
abbrev cJ5_getValue_6d5f1 : ByteArray := prog_22_method_64_code
def yJ5_getValue_6d5f1 : MethodName := ⟨RJ5, "getValue", "()[B"⟩
abbrev cJ5_isLatin1_aae02 : ByteArray := prog_22_method_68_code
def yJ5_isLatin1_aae02 : MethodName := ⟨RJ5, "isLatin1", "()Z"⟩
abbrev cJ5_inflateIfNeededFor_a7421 : ByteArray := prog_22_method_71_code
def yJ5_inflateIfNeededFor_a7421 : MethodName := ⟨RJ5, "inflateIfNeededFor", "(Ljava/lang/String;)V"⟩
abbrev cJ5_putStringAt_47b60 : ByteArray := prog_22_method_73_code
def yJ5_putStringAt_47b60 : MethodName := ⟨RJ5, "putStringAt", "(ILjava/lang/String;)V"⟩
def RJx2cfe8 : String := "java/lang/Appendable"
def TJx2cfe8 : u_T := fun k => match k with
  | _ => ("", "", "", false)
def tyJx2cfe8 : Nat → FieldType := fun k => match k with
  | _ => .int
abbrev wsJx2cfe80 : List Cond := u_ws RJx2cfe8 TJx2cfe8 0
theorem nmJx2cfe8 : ∀ a, a < 0 → ∀ b, b < 0 → a ≠ b → (TJx2cfe8 a).2.1 ≠ (TJx2cfe8 b).2.1 := by decide +kernel
theorem tyJx2cfe8_ok : ∀ k, k < 0 → parseFieldDescriptor (TJx2cfe8 k).2.2.1 = some (tyJx2cfe8 k) := by decide +kernel
def RJx9f9b0 : String := "java/lang/CharSequence"
def TJx9f9b0 : u_T := fun k => match k with
  | _ => ("", "", "", false)
def tyJx9f9b0 : Nat → FieldType := fun k => match k with
  | _ => .int
abbrev wsJx9f9b00 : List Cond := u_ws RJx9f9b0 TJx9f9b0 0
theorem nmJx9f9b0 : ∀ a, a < 0 → ∀ b, b < 0 → a ≠ b → (TJx9f9b0 a).2.1 ≠ (TJx9f9b0 b).2.1 := by decide +kernel
theorem tyJx9f9b0_ok : ∀ k, k < 0 → parseFieldDescriptor (TJx9f9b0 k).2.2.1 = some (tyJx9f9b0 k) := by decide +kernel
def RJx8e188 : String := "java/lang/Cloneable"
def TJx8e188 : u_T := fun k => match k with
  | _ => ("", "", "", false)
def tyJx8e188 : Nat → FieldType := fun k => match k with
  | _ => .int
abbrev wsJx8e1880 : List Cond := u_ws RJx8e188 TJx8e188 0
theorem nmJx8e188 : ∀ a, a < 0 → ∀ b, b < 0 → a ≠ b → (TJx8e188 a).2.1 ≠ (TJx8e188 b).2.1 := by decide +kernel
theorem tyJx8e188_ok : ∀ k, k < 0 → parseFieldDescriptor (TJx8e188 k).2.2.1 = some (tyJx8e188 k) := by decide +kernel
def RJxb160c : String := "java/lang/Comparable"
def TJxb160c : u_T := fun k => match k with
  | _ => ("", "", "", false)
def tyJxb160c : Nat → FieldType := fun k => match k with
  | _ => .int
abbrev wsJxb160c0 : List Cond := u_ws RJxb160c TJxb160c 0
theorem nmJxb160c : ∀ a, a < 0 → ∀ b, b < 0 → a ≠ b → (TJxb160c a).2.1 ≠ (TJxb160c b).2.1 := by decide +kernel
theorem tyJxb160c_ok : ∀ k, k < 0 → parseFieldDescriptor (TJxb160c k).2.2.1 = some (tyJxb160c k) := by decide +kernel
def RJx29ce0 : String := "java/lang/Enum"
def TJx29ce0 : u_T := fun k => match k with
  | _ => ("", "", "", false)
def tyJx29ce0 : Nat → FieldType := fun k => match k with
  | _ => .int
abbrev wsJx29ce00 : List Cond := u_ws RJx29ce0 TJx29ce0 0
theorem nmJx29ce0 : ∀ a, a < 0 → ∀ b, b < 0 → a ≠ b → (TJx29ce0 a).2.1 ≠ (TJx29ce0 b).2.1 := by decide +kernel
theorem tyJx29ce0_ok : ∀ k, k < 0 → parseFieldDescriptor (TJx29ce0 k).2.2.1 = some (tyJx29ce0 k) := by decide +kernel
abbrev cJx29ce0_ordinal_8abf5 : ByteArray := prog_24_method_2_code
def yJx29ce0_ordinal_8abf5 : MethodName := ⟨RJx29ce0, "ordinal", "()I"⟩
def RJ6 : String := "java/lang/Integer"
def TJ6 : u_T := fun k => match k with
  | _ => ("", "", "", false)
def tyJ6 : Nat → FieldType := fun k => match k with
  | _ => .int
abbrev wsJ60 : List Cond := u_ws RJ6 TJ6 0
theorem nmJ6 : ∀ a, a < 0 → ∀ b, b < 0 → a ≠ b → (TJ6 a).2.1 ≠ (TJ6 b).2.1 := by decide +kernel
theorem tyJ6_ok : ∀ k, k < 0 → parseFieldDescriptor (TJ6 k).2.2.1 = some (tyJ6 k) := by decide +kernel
abbrev cJ6_getChars_ba4f3 : ByteArray := prog_29_method_12_code
def yJ6_getChars_ba4f3 : MethodName := ⟨RJ6, "getChars", "(II[B)I"⟩
abbrev cJ6_stringSize_0f7a4 : ByteArray := prog_29_method_13_code
def yJ6_stringSize_0f7a4 : MethodName := ⟨RJ6, "stringSize", "(I)I"⟩
abbrev cJ6_compare_7cf53 : ByteArray := prog_29_method_40_code
def yJ6_compare_7cf53 : MethodName := ⟨RJ6, "compare", "(II)I"⟩
def RJ9 : String := "java/lang/Math"
def TJ9 : u_T := fun k => match k with
  | _ => ("", "", "", false)
def tyJ9 : Nat → FieldType := fun k => match k with
  | _ => .int
abbrev wsJ90 : List Cond := u_ws RJ9 TJ9 0
theorem nmJ9 : ∀ a, a < 0 → ∀ b, b < 0 → a ≠ b → (TJ9 a).2.1 ≠ (TJ9 b).2.1 := by decide +kernel
theorem tyJ9_ok : ∀ k, k < 0 → parseFieldDescriptor (TJ9 k).2.2.1 = some (tyJ9 k) := by decide +kernel
abbrev cJ9_abs_0f7a4 : ByteArray := prog_30_method_59_code
def yJ9_abs_0f7a4 : MethodName := ⟨RJ9, "abs", "(I)I"⟩
abbrev cJ9_max_7cf53 : ByteArray := prog_30_method_65_code
def yJ9_max_7cf53 : MethodName := ⟨RJ9, "max", "(II)I"⟩
abbrev cJ9_min_7cf53 : ByteArray := prog_30_method_69_code
def yJ9_min_7cf53 : MethodName := ⟨RJ9, "min", "(II)I"⟩
def RJxd2413 : String := "java/lang/Number"
def TJxd2413 : u_T := fun k => match k with
  | _ => ("", "", "", false)
def tyJxd2413 : Nat → FieldType := fun k => match k with
  | _ => .int
abbrev wsJxd24130 : List Cond := u_ws RJxd2413 TJxd2413 0
theorem nmJxd2413 : ∀ a, a < 0 → ∀ b, b < 0 → a ≠ b → (TJxd2413 a).2.1 ≠ (TJxd2413 b).2.1 := by decide +kernel
theorem tyJxd2413_ok : ∀ k, k < 0 → parseFieldDescriptor (TJxd2413 k).2.2.1 = some (tyJxd2413 k) := by decide +kernel
def RJ0 : String := "java/lang/String"
def TJ0 : u_T := fun k => match k with
  | 0 => ("java/lang/String", "value", "[B", true)
  | 1 => ("java/lang/String", "coder", "B", true)
  | 2 => ("java/lang/String", "hash", "I", false)
  | _ => ("java/lang/String", "hashIsZero", "Z", false)
def tyJ0 : Nat → FieldType := fun k => match k with
  | 0 => .array .byte
  | 1 => .byte
  | 2 => .int
  | _ => .boolean
abbrev wsJ00 : List Cond := u_ws RJ0 TJ0 4
theorem nmJ0 : ∀ a, a < 4 → ∀ b, b < 4 → a ≠ b → (TJ0 a).2.1 ≠ (TJ0 b).2.1 := by decide +kernel
theorem tyJ0_ok : ∀ k, k < 4 → parseFieldDescriptor (TJ0 k).2.2.1 = some (tyJ0 k) := by decide +kernel
abbrev cJ0_init_81219 : ByteArray := prog_33_method_53_code
def yJ0_init_81219 : MethodName := ⟨RJ0, "<init>", "(Ljava/lang/StringBuilder;)V"⟩
abbrev cJ0_length_8abf5 : ByteArray := prog_33_method_54_code
def yJ0_length_8abf5 : MethodName := ⟨RJ0, "length", "()I"⟩
abbrev cJ0_charAt_5068e : ByteArray := prog_33_method_56_code
def yJ0_charAt_5068e : MethodName := ⟨RJ0, "charAt", "(I)C"⟩
abbrev cJ0_getBytes_840e7 : ByteArray := prog_33_method_147_code
def yJ0_getBytes_840e7 : MethodName := ⟨RJ0, "getBytes", "([BIB)V"⟩
abbrev cJ0_init_db425 : ByteArray := prog_33_method_150_code
def yJ0_init_db425 : MethodName := ⟨RJ0, "<init>", "(Ljava/lang/AbstractStringBuilder;Ljava/lang/Void;)V"⟩
abbrev cJ0_coder_7d493 : ByteArray := prog_33_method_152_code
def yJ0_coder_7d493 : MethodName := ⟨RJ0, "coder", "()B"⟩
abbrev cJ0_isLatin1_aae02 : ByteArray := prog_33_method_154_code
def yJ0_isLatin1_aae02 : MethodName := ⟨RJ0, "isLatin1", "()Z"⟩
abbrev cJ0_checkIndex_df160 : ByteArray := prog_33_method_155_code
def yJ0_checkIndex_df160 : MethodName := ⟨RJ0, "checkIndex", "(II)V"⟩
abbrev cJ0_checkBoundsOffCount_cabcc : ByteArray := prog_33_method_157_code
def yJ0_checkBoundsOffCount_cabcc : MethodName := ⟨RJ0, "checkBoundsOffCount", "(III)I"⟩
abbrev cJ0_checkBoundsBeginEnd_23922 : ByteArray := prog_33_method_158_code
def yJ0_checkBoundsBeginEnd_23922 : MethodName := ⟨RJ0, "checkBoundsBeginEnd", "(III)V"⟩
def RJ4 : String := "java/lang/StringBuilder"
def TJ4 : u_T := fun k => match k with
  | 0 => ("java/lang/AbstractStringBuilder", "value", "[B", false)
  | 1 => ("java/lang/AbstractStringBuilder", "coder", "B", false)
  | 2 => ("java/lang/AbstractStringBuilder", "maybeLatin1", "Z", false)
  | _ => ("java/lang/AbstractStringBuilder", "count", "I", false)
def tyJ4 : Nat → FieldType := fun k => match k with
  | 0 => .array .byte
  | 1 => .byte
  | 2 => .boolean
  | _ => .int
abbrev wsJ40 : List Cond := u_ws RJ4 TJ4 4
theorem nmJ4 : ∀ a, a < 4 → ∀ b, b < 4 → a ≠ b → (TJ4 a).2.1 ≠ (TJ4 b).2.1 := by decide +kernel
theorem tyJ4_ok : ∀ k, k < 4 → parseFieldDescriptor (TJ4 k).2.2.1 = some (tyJ4 k) := by decide +kernel
abbrev cJ4_init_da8c8 : ByteArray := prog_34_method_1_code
def yJ4_init_da8c8 : MethodName := ⟨RJ4, "<init>", "()V"⟩
abbrev cJ4_append_15ec4 : ByteArray := prog_34_method_7_code
def yJ4_append_15ec4 : MethodName := ⟨RJ4, "append", "(Ljava/lang/String;)Ljava/lang/StringBuilder;"⟩
abbrev cJ4_append_bf812 : ByteArray := prog_34_method_15_code
def yJ4_append_bf812 : MethodName := ⟨RJ4, "append", "(I)Ljava/lang/StringBuilder;"⟩
abbrev cJ4_toString_0e30d : ByteArray := prog_34_method_42_code
def yJ4_toString_0e30d : MethodName := ⟨RJ4, "toString", "()Ljava/lang/String;"⟩
abbrev cJ4_length_8abf5 : ByteArray := prog_34_method_93_code
def yJ4_length_8abf5 : MethodName := ⟨RJ4, "length", "()I"⟩
def RJ1 : String := "java/lang/StringLatin1"
def TJ1 : u_T := fun k => match k with
  | _ => ("", "", "", false)
def tyJ1 : Nat → FieldType := fun k => match k with
  | _ => .int
abbrev wsJ10 : List Cond := u_ws RJ1 TJ1 0
theorem nmJ1 : ∀ a, a < 0 → ∀ b, b < 0 → a ≠ b → (TJ1 a).2.1 ≠ (TJ1 b).2.1 := by decide +kernel
theorem tyJ1_ok : ∀ k, k < 0 → parseFieldDescriptor (TJ1 k).2.2.1 = some (tyJ1 k) := by decide +kernel
abbrev cJ1_charAt_3b067 : ByteArray := prog_35_method_2_code
def yJ1_charAt_3b067 : MethodName := ⟨RJ1, "charAt", "([BI)C"⟩
abbrev cJ1_inflate_0e8fd : ByteArray := prog_35_method_50_code
def yJ1_inflate_0e8fd : MethodName := ⟨RJ1, "inflate", "([BI[BII)V"⟩
def RJ2 : String := "java/lang/StringUTF16"
def TJ2 : u_T := fun k => match k with
  | _ => ("", "", "", false)
def tyJ2 : Nat → FieldType := fun k => match k with
  | _ => .int
abbrev wsJ20 : List Cond := u_ws RJ2 TJ2 0
theorem nmJ2 : ∀ a, a < 0 → ∀ b, b < 0 → a ≠ b → (TJ2 a).2.1 ≠ (TJ2 b).2.1 := by decide +kernel
theorem tyJ2_ok : ∀ k, k < 0 → parseFieldDescriptor (TJ2 k).2.2.1 = some (tyJ2 k) := by decide +kernel
abbrev cJ2_newBytesFor_77867 : ByteArray := prog_36_method_2_code
def yJ2_newBytesFor_77867 : MethodName := ⟨RJ2, "newBytesFor", "(I)[B"⟩
abbrev cJ2_newBytesLength_0f7a4 : ByteArray := prog_36_method_3_code
def yJ2_newBytesLength_0f7a4 : MethodName := ⟨RJ2, "newBytesLength", "(I)I"⟩
abbrev cJ2_putChar_b72d1 : ByteArray := prog_36_method_4_code
def yJ2_putChar_b72d1 : MethodName := ⟨RJ2, "putChar", "([BII)V"⟩
abbrev cJ2_getChar_3b067 : ByteArray := prog_36_method_5_code
def yJ2_getChar_3b067 : MethodName := ⟨RJ2, "getChar", "([BI)C"⟩
abbrev cJ2_length_9d52b : ByteArray := prog_36_method_6_code
def yJ2_length_9d52b : MethodName := ⟨RJ2, "length", "([B)I"⟩
abbrev cJ2_coderFromArrayLen_85cad : ByteArray := prog_36_method_15_code
def yJ2_coderFromArrayLen_85cad : MethodName := ⟨RJ2, "coderFromArrayLen", "([BI)B"⟩
abbrev cJ2_compress_39247 : ByteArray := prog_36_method_17_code
def yJ2_compress_39247 : MethodName := ⟨RJ2, "compress", "([BII)[B"⟩
abbrev cJ2_compress_5af95 : ByteArray := prog_36_method_22_code
def yJ2_compress_5af95 : MethodName := ⟨RJ2, "compress", "([BI[BII)I"⟩
abbrev cJ2_getChars_46870 : ByteArray := prog_36_method_77_code
def yJ2_getChars_46870 : MethodName := ⟨RJ2, "getChars", "(III[B)I"⟩
abbrev cJ2_putCharsAt_cd4e5 : ByteArray := prog_36_method_81_code
def yJ2_putCharsAt_cd4e5 : MethodName := ⟨RJ2, "putCharsAt", "([BICCCC)I"⟩
abbrev cJ2_charAt_3b067 : ByteArray := prog_36_method_83_code
def yJ2_charAt_3b067 : MethodName := ⟨RJ2, "charAt", "([BI)C"⟩
abbrev cJ2_inflate_0e8fd : ByteArray := prog_36_method_86_code
def yJ2_inflate_0e8fd : MethodName := ⟨RJ2, "inflate", "([BI[BII)V"⟩
abbrev cJ2_getChars_ba4f3 : ByteArray := prog_36_method_89_code
def yJ2_getChars_ba4f3 : MethodName := ⟨RJ2, "getChars", "(II[B)I"⟩
abbrev cJ2_checkIndex_2214a : ByteArray := prog_36_method_91_code
def yJ2_checkIndex_2214a : MethodName := ⟨RJ2, "checkIndex", "(I[B)V"⟩
abbrev cJ2_checkBoundsBeginEnd_d044e : ByteArray := prog_36_method_93_code
def yJ2_checkBoundsBeginEnd_d044e : MethodName := ⟨RJ2, "checkBoundsBeginEnd", "(II[B)V"⟩
abbrev cJ2_checkBoundsOffCount_d044e : ByteArray := prog_36_method_94_code
def yJ2_checkBoundsOffCount_d044e : MethodName := ⟨RJ2, "checkBoundsOffCount", "(II[B)V"⟩
def RJ10 : String := "java/lang/System"
def TJ10 : u_T := fun k => match k with
  | _ => ("", "", "", false)
def tyJ10 : Nat → FieldType := fun k => match k with
  | _ => .int
abbrev wsJ100 : List Cond := u_ws RJ10 TJ10 0
theorem nmJ10 : ∀ a, a < 0 → ∀ b, b < 0 → a ≠ b → (TJ10 a).2.1 ≠ (TJ10 b).2.1 := by decide +kernel
theorem tyJ10_ok : ∀ k, k < 0 → parseFieldDescriptor (TJ10 k).2.2.1 = some (tyJ10 k) := by decide +kernel
def RJxfd54e : String := "java/lang/constant/Constable"
def TJxfd54e : u_T := fun k => match k with
  | _ => ("", "", "", false)
def tyJxfd54e : Nat → FieldType := fun k => match k with
  | _ => .int
abbrev wsJxfd54e0 : List Cond := u_ws RJxfd54e TJxfd54e 0
theorem nmJxfd54e : ∀ a, a < 0 → ∀ b, b < 0 → a ≠ b → (TJxfd54e a).2.1 ≠ (TJxfd54e b).2.1 := by decide +kernel
theorem tyJxfd54e_ok : ∀ k, k < 0 → parseFieldDescriptor (TJxfd54e k).2.2.1 = some (tyJxfd54e k) := by decide +kernel
def RJx3cf43 : String := "java/lang/constant/ConstantDesc"
def TJx3cf43 : u_T := fun k => match k with
  | _ => ("", "", "", false)
def tyJx3cf43 : Nat → FieldType := fun k => match k with
  | _ => .int
abbrev wsJx3cf430 : List Cond := u_ws RJx3cf43 TJx3cf43 0
theorem nmJx3cf43 : ∀ a, a < 0 → ∀ b, b < 0 → a ≠ b → (TJx3cf43 a).2.1 ≠ (TJx3cf43 b).2.1 := by decide +kernel
theorem tyJx3cf43_ok : ∀ k, k < 0 → parseFieldDescriptor (TJx3cf43 k).2.2.1 = some (tyJx3cf43 k) := by decide +kernel
def RJ7 : String := "java/util/Arrays"
def TJ7 : u_T := fun k => match k with
  | _ => ("", "", "", false)
def tyJ7 : Nat → FieldType := fun k => match k with
  | _ => .int
abbrev wsJ70 : List Cond := u_ws RJ7 TJ7 0
theorem nmJ7 : ∀ a, a < 0 → ∀ b, b < 0 → a ≠ b → (TJ7 a).2.1 ≠ (TJ7 b).2.1 := by decide +kernel
theorem tyJ7_ok : ∀ k, k < 0 → parseFieldDescriptor (TJ7 k).2.2.1 = some (tyJ7 k) := by decide +kernel
abbrev cJ7_fill_53178 : ByteArray := prog_39_method_103_code
def yJ7_fill_53178 : MethodName := ⟨RJ7, "fill", "([II)V"⟩
abbrev cJ7_copyOf_9075b : ByteArray := prog_39_method_121_code
def yJ7_copyOf_9075b : MethodName := ⟨RJ7, "copyOf", "([BI)[B"⟩
abbrev cJ7_checkLength_df160 : ByteArray := prog_39_method_131_code
def yJ7_checkLength_df160 : MethodName := ⟨RJ7, "checkLength", "(II)V"⟩
abbrev cJ7_copyOfRange_39247 : ByteArray := prog_39_method_132_code
def yJ7_copyOfRange_39247 : MethodName := ⟨RJ7, "copyOfRange", "([BII)[B"⟩
abbrev cJ7_copyOfRangeByte_39247 : ByteArray := prog_39_method_133_code
def yJ7_copyOfRangeByte_39247 : MethodName := ⟨RJ7, "copyOfRangeByte", "([BII)[B"⟩
def RJ8 : String := "jdk/internal/util/ArraysSupport"
def TJ8 : u_T := fun k => match k with
  | _ => ("", "", "", false)
def tyJ8 : Nat → FieldType := fun k => match k with
  | _ => .int
abbrev wsJ80 : List Cond := u_ws RJ8 TJ8 0
theorem nmJ8 : ∀ a, a < 0 → ∀ b, b < 0 → a ≠ b → (TJ8 a).2.1 ≠ (TJ8 b).2.1 := by decide +kernel
theorem tyJ8_ok : ∀ k, k < 0 → parseFieldDescriptor (TJ8 k).2.2.1 = some (tyJ8 k) := by decide +kernel
abbrev cJ8_newLength_cabcc : ByteArray := prog_40_method_27_code
def yJ8_newLength_cabcc : MethodName := ⟨RJ8, "newLength", "(III)I"⟩
abbrev cJ8_hugeLength_7cf53 : ByteArray := prog_40_method_28_code
def yJ8_hugeLength_7cf53 : MethodName := ⟨RJ8, "hugeLength", "(II)I"⟩
def RJ3 : String := "jdk/internal/util/Preconditions"
def TJ3 : u_T := fun k => match k with
  | _ => ("", "", "", false)
def tyJ3 : Nat → FieldType := fun k => match k with
  | _ => .int
abbrev wsJ30 : List Cond := u_ws RJ3 TJ3 0
theorem nmJ3 : ∀ a, a < 0 → ∀ b, b < 0 → a ≠ b → (TJ3 a).2.1 ≠ (TJ3 b).2.1 := by decide +kernel
theorem tyJ3_ok : ∀ k, k < 0 → parseFieldDescriptor (TJ3 k).2.2.1 = some (tyJ3 k) := by decide +kernel
abbrev cJ3_checkIndex_8e157 : ByteArray := prog_41_method_11_code
def yJ3_checkIndex_8e157 : MethodName := ⟨RJ3, "checkIndex", "(IILjava/util/function/BiFunction;)I"⟩
abbrev cJ3_checkFromToIndex_8c36e : ByteArray := prog_41_method_12_code
def yJ3_checkFromToIndex_8c36e : MethodName := ⟨RJ3, "checkFromToIndex", "(IIILjava/util/function/BiFunction;)I"⟩
abbrev cJ3_checkFromIndexSize_8c36e : ByteArray := prog_41_method_13_code
def yJ3_checkFromIndexSize_8c36e : MethodName := ⟨RJ3, "checkFromIndexSize", "(IIILjava/util/function/BiFunction;)I"⟩
def RL : String := "GlideWhistlesLaw"
abbrev cL_below : ByteArray := method_2_code
def yL_below : MethodName := ⟨RL, "below", "(II)I"⟩
abbrev cL_cell : ByteArray := method_3_code
def yL_cell : MethodName := ⟨RL, "cell", "([II)I"⟩
abbrev cL_taught : ByteArray := method_4_code
def yL_taught : MethodName := ⟨RL, "taught", "(LGlideWhistles;Ljava/lang/String;)I"⟩
abbrev cL_drawn : ByteArray := method_5_code
def yL_drawn : MethodName := ⟨RL, "drawn", "(LGlideWhistlesLaw$Dice;Ljava/lang/StringBuilder;II)LGlideWhistlesLaw$Talk;"⟩
abbrev cL_act : ByteArray := method_6_code
def yL_act : MethodName := ⟨RL, "act", "(LGlideWhistles;LGlideWhistlesLaw$Talk;LGlideWhistlesLaw$Dice;)Z"⟩
abbrev cL_meant : ByteArray := method_7_code
def yL_meant : MethodName := ⟨RL, "meant", "(LGlideWhistles;)I"⟩
abbrev cL_surety : ByteArray := method_8_code
def yL_surety : MethodName := ⟨RL, "surety", "(LGlideWhistles;)I"⟩
abbrev cL_law : ByteArray := code
def yL_law : MethodName := ⟨RL, "law", "([I)Z"⟩
abbrev vwCl : List vw_C := [(RJ0, TJ0, 4), (RJ4, TJ4, 4), (RX1, TX1, 4), (RX2, TX2, 10), (RX3, TX3, 2), (RX4, TX4, 5), (RX5, TX5, 8), (RX7, TX7, 2), (RX8, TX8, 6), (RX9, TX9, 5), (RX10, TX10, 3), (RX11, TX11, 3), (RX12, TX12, 11), (RX13, TX13, 1), (RX14, TX14, 4), (RX15, TX15, 4), (RX16, TX16, 10)]
