def RX0 : String := "RebusSigns$History"
def TX0 : u_T := fun k => match k with
  | 0 => ("RebusSigns$History", "kinds", "[I", true)
  | 1 => ("RebusSigns$History", "values", "[I", true)
  | _ => ("RebusSigns$History", "size", "I", false)
def tyX0 : Nat → FieldType := fun k => match k with
  | 0 => .array .int
  | 1 => .array .int
  | _ => .int
abbrev wsX00 : List Cond := u_ws RX0 TX0 3
theorem nmX0 : ∀ a, a < 3 → ∀ b, b < 3 → a ≠ b → (TX0 a).2.1 ≠ (TX0 b).2.1 := by decide +kernel
theorem tyX0_ok : ∀ k, k < 3 → parseFieldDescriptor (TX0 k).2.2.1 = some (tyX0 k) := by decide +kernel
abbrev cX0_init : ByteArray := prog_2_method_1_code
def yX0_init : MethodName := ⟨RX0, "<init>", "()V"⟩
abbrev cX0_size : ByteArray := prog_2_method_2_code
def yX0_size : MethodName := ⟨RX0, "size", "()I"⟩
abbrev cX0_clear : ByteArray := prog_2_method_3_code
def yX0_clear : MethodName := ⟨RX0, "clear", "()V"⟩
abbrev cX0_push : ByteArray := prog_2_method_4_code
def yX0_push : MethodName := ⟨RX0, "push", "(II)V"⟩
abbrev cX0_lastKind : ByteArray := prog_2_method_5_code
def yX0_lastKind : MethodName := ⟨RX0, "lastKind", "()I"⟩
abbrev cX0_lastValue : ByteArray := prog_2_method_6_code
def yX0_lastValue : MethodName := ⟨RX0, "lastValue", "()I"⟩
abbrev cX0_drop : ByteArray := prog_2_method_7_code
def yX0_drop : MethodName := ⟨RX0, "drop", "()V"⟩
abbrev cX0_forgetOldest : ByteArray := prog_2_method_8_code
def yX0_forgetOldest : MethodName := ⟨RX0, "forgetOldest", "()V"⟩
def RX1 : String := "RebusSigns$Letters"
def TX1 : u_T := fun k => match k with
  | 0 => ("RebusSigns$Letters", "row", "[C", true)
  | _ => ("RebusSigns$Letters", "size", "I", false)
def tyX1 : Nat → FieldType := fun k => match k with
  | 0 => .array .char
  | _ => .int
abbrev wsX10 : List Cond := u_ws RX1 TX1 2
theorem nmX1 : ∀ a, a < 2 → ∀ b, b < 2 → a ≠ b → (TX1 a).2.1 ≠ (TX1 b).2.1 := by decide +kernel
theorem tyX1_ok : ∀ k, k < 2 → parseFieldDescriptor (TX1 k).2.2.1 = some (tyX1 k) := by decide +kernel
abbrev cX1_init : ByteArray := prog_3_method_1_code
def yX1_init : MethodName := ⟨RX1, "<init>", "(I)V"⟩
abbrev cX1_size : ByteArray := prog_3_method_2_code
def yX1_size : MethodName := ⟨RX1, "size", "()I"⟩
abbrev cX1_isFull : ByteArray := prog_3_method_3_code
def yX1_isFull : MethodName := ⟨RX1, "isFull", "()Z"⟩
abbrev cX1_clear : ByteArray := prog_3_method_4_code
def yX1_clear : MethodName := ⟨RX1, "clear", "()V"⟩
abbrev cX1_put : ByteArray := prog_3_method_5_code
def yX1_put : MethodName := ⟨RX1, "put", "(C)V"⟩
abbrev cX1_at : ByteArray := prog_3_method_6_code
def yX1_at : MethodName := ⟨RX1, "at", "(I)I"⟩
abbrev cX1_find : ByteArray := prog_3_method_7_code
def yX1_find : MethodName := ⟨RX1, "find", "(CI)I"⟩
abbrev cX1_become : ByteArray := prog_3_method_8_code
def yX1_become : MethodName := ⟨RX1, "become", "(LRebusSigns$Letters;II)Z"⟩
abbrev cX1_isVowelAt : ByteArray := prog_3_method_9_code
def yX1_isVowelAt : MethodName := ⟨RX1, "isVowelAt", "(I)Z"⟩
abbrev cX1_vowels : ByteArray := prog_3_method_10_code
def yX1_vowels : MethodName := ⟨RX1, "vowels", "()I"⟩
abbrev cX1_hasAt : ByteArray := prog_3_method_11_code
def yX1_hasAt : MethodName := ⟨RX1, "hasAt", "(ILRebusSigns$Letters;)Z"⟩
def RX2 : String := "RebusSigns$Lexicon"
def TX2 : u_T := fun k => match k with
  | 0 => ("RebusSigns$Lexicon", "signs", "[LRebusSigns$Sign;", true)
  | 1 => ("RebusSigns$Lexicon", "words", "[LRebusSigns$Word;", true)
  | 2 => ("RebusSigns$Lexicon", "signCount", "I", false)
  | 3 => ("RebusSigns$Lexicon", "wordCount", "I", false)
  | _ => ("RebusSigns$Lexicon", "loose", "Z", false)
def tyX2 : Nat → FieldType := fun k => match k with
  | 0 => .array (.object "RebusSigns$Sign")
  | 1 => .array (.object "RebusSigns$Word")
  | 2 => .int
  | 3 => .int
  | _ => .boolean
abbrev wsX20 : List Cond := u_ws RX2 TX2 5
theorem nmX2 : ∀ a, a < 5 → ∀ b, b < 5 → a ≠ b → (TX2 a).2.1 ≠ (TX2 b).2.1 := by decide +kernel
theorem tyX2_ok : ∀ k, k < 5 → parseFieldDescriptor (TX2 k).2.2.1 = some (tyX2 k) := by decide +kernel
abbrev cX2_init : ByteArray := prog_4_method_1_code
def yX2_init : MethodName := ⟨RX2, "<init>", "()V"⟩
abbrev cX2_clear : ByteArray := prog_4_method_2_code
def yX2_clear : MethodName := ⟨RX2, "clear", "()V"⟩
abbrev cX2_signAt : ByteArray := prog_4_method_3_code
def yX2_signAt : MethodName := ⟨RX2, "signAt", "(I)LRebusSigns$Sign;"⟩
abbrev cX2_wordAt : ByteArray := prog_4_method_4_code
def yX2_wordAt : MethodName := ⟨RX2, "wordAt", "(I)LRebusSigns$Word;"⟩
abbrev cX2_nextSign : ByteArray := prog_4_method_5_code
def yX2_nextSign : MethodName := ⟨RX2, "nextSign", "()LRebusSigns$Sign;"⟩
abbrev cX2_nextWord : ByteArray := prog_4_method_6_code
def yX2_nextWord : MethodName := ⟨RX2, "nextWord", "()LRebusSigns$Word;"⟩
abbrev cX2_wordOf : ByteArray := prog_4_method_7_code
def yX2_wordOf : MethodName := ⟨RX2, "wordOf", "(ILRebusSigns$Letters;)I"⟩
abbrev cX2_struckSigns : ByteArray := prog_4_method_8_code
def yX2_struckSigns : MethodName := ⟨RX2, "struckSigns", "()I"⟩
abbrev cX2_lowestMark : ByteArray := prog_4_method_9_code
def yX2_lowestMark : MethodName := ⟨RX2, "lowestMark", "(I)I"⟩
abbrev cX2_marksOf : ByteArray := prog_4_method_10_code
def yX2_marksOf : MethodName := ⟨RX2, "marksOf", "(I)I"⟩
abbrev cX2_marks : ByteArray := prog_4_method_11_code
def yX2_marks : MethodName := ⟨RX2, "marks", "(LRebusSigns$Sign;I)Z"⟩
abbrev cX2_lettersOf : ByteArray := prog_4_method_12_code
def yX2_lettersOf : MethodName := ⟨RX2, "lettersOf", "(LRebusSigns$Row;)I"⟩
abbrev cX2_placeBehind : ByteArray := prog_4_method_13_code
def yX2_placeBehind : MethodName := ⟨RX2, "placeBehind", "(LRebusSigns$Word;ILRebusSigns$Sign;)I"⟩
abbrev cX2_mayEndAt : ByteArray := prog_4_method_14_code
def yX2_mayEndAt : MethodName := ⟨RX2, "mayEndAt", "(LRebusSigns$Word;I)Z"⟩
def RX3 : String := "RebusSigns$Parser"
def TX3 : u_T := fun k => match k with
  | _ => ("", "", "", false)
def tyX3 : Nat → FieldType := fun k => match k with
  | _ => .int
abbrev wsX30 : List Cond := u_ws RX3 TX3 0
theorem nmX3 : ∀ a, a < 0 → ∀ b, b < 0 → a ≠ b → (TX3 a).2.1 ≠ (TX3 b).2.1 := by decide +kernel
theorem tyX3_ok : ∀ k, k < 0 → parseFieldDescriptor (TX3 k).2.2.1 = some (tyX3 k) := by decide +kernel
abbrev cX3_firstFault : ByteArray := prog_5_method_2_code
def yX3_firstFault : MethodName := ⟨RX3, "firstFault", "(LRebusSigns$Letters;LRebusSigns$Lexicon;)I"⟩
abbrev cX3_takesItem : ByteArray := prog_5_method_3_code
def yX3_takesItem : MethodName := ⟨RX3, "takesItem", "(LRebusSigns$Letters;IILRebusSigns$Lexicon;)Z"⟩
abbrev cX3_takesPicture : ByteArray := prog_5_method_4_code
def yX3_takesPicture : MethodName := ⟨RX3, "takesPicture", "(LRebusSigns$Letters;IILRebusSigns$Lexicon;)Z"⟩
abbrev cX3_takesSound : ByteArray := prog_5_method_5_code
def yX3_takesSound : MethodName := ⟨RX3, "takesSound", "(LRebusSigns$Letters;IILRebusSigns$Lexicon;)Z"⟩
abbrev cX3_takesMark : ByteArray := prog_5_method_6_code
def yX3_takesMark : MethodName := ⟨RX3, "takesMark", "(LRebusSigns$Letters;IILRebusSigns$Lexicon;)Z"⟩
abbrev cX3_takesWord : ByteArray := prog_5_method_7_code
def yX3_takesWord : MethodName := ⟨RX3, "takesWord", "(LRebusSigns$Letters;IILRebusSigns$Lexicon;)Z"⟩
abbrev cX3_takesLaw : ByteArray := prog_5_method_8_code
def yX3_takesLaw : MethodName := ⟨RX3, "takesLaw", "(LRebusSigns$Letters;IILRebusSigns$Lexicon;)Z"⟩
abbrev cX3_keep : ByteArray := prog_5_method_9_code
def yX3_keep : MethodName := ⟨RX3, "keep", "(LRebusSigns$Sign;IILRebusSigns$Lexicon;)V"⟩
abbrev cX3_digitAt : ByteArray := prog_5_method_10_code
def yX3_digitAt : MethodName := ⟨RX3, "digitAt", "(LRebusSigns$Letters;II)I"⟩
def RX4 : String := "RebusSigns$Reader"
def TX4 : u_T := fun k => match k with
  | 0 => ("RebusSigns$Reader", "seen", "[I", true)
  | 1 => ("RebusSigns$Reader", "ways", "[J", true)
  | 2 => ("RebusSigns$Reader", "fewest", "[I", true)
  | 3 => ("RebusSigns$Reader", "cuts", "[I", true)
  | _ => ("RebusSigns$Reader", "words", "[I", true)
def tyX4 : Nat → FieldType := fun k => match k with
  | 0 => .array .int
  | 1 => .array .long
  | 2 => .array .int
  | 3 => .array .int
  | _ => .array .int
abbrev wsX40 : List Cond := u_ws RX4 TX4 5
theorem nmX4 : ∀ a, a < 5 → ∀ b, b < 5 → a ≠ b → (TX4 a).2.1 ≠ (TX4 b).2.1 := by decide +kernel
theorem tyX4_ok : ∀ k, k < 5 → parseFieldDescriptor (TX4 k).2.2.1 = some (tyX4 k) := by decide +kernel
abbrev cX4_init : ByteArray := prog_6_method_1_code
def yX4_init : MethodName := ⟨RX4, "<init>", "()V"⟩
abbrev cX4_look : ByteArray := prog_6_method_2_code
def yX4_look : MethodName := ⟨RX4, "look", "(LRebusSigns$Lexicon;LRebusSigns$Row;I)V"⟩
abbrev cX4_wordsBy : ByteArray := prog_6_method_3_code
def yX4_wordsBy : MethodName := ⟨RX4, "wordsBy", "(I)I"⟩
abbrev cX4_follow : ByteArray := prog_6_method_4_code
def yX4_follow : MethodName := ⟨RX4, "follow", "(LRebusSigns$Lexicon;ILRebusSigns$Row;I)V"⟩
abbrev cX4_plan : ByteArray := prog_6_method_5_code
def yX4_plan : MethodName := ⟨RX4, "plan", "(LRebusSigns$Lexicon;LRebusSigns$Row;)V"⟩
abbrev cX4_join : ByteArray := prog_6_method_6_code
def yX4_join : MethodName := ⟨RX4, "join", "(II)V"⟩
abbrev cX4_lowestBit : ByteArray := prog_6_method_7_code
def yX4_lowestBit : MethodName := ⟨RX4, "lowestBit", "(I)I"⟩
abbrev cX4_waysInAll : ByteArray := prog_6_method_8_code
def yX4_waysInAll : MethodName := ⟨RX4, "waysInAll", "()J"⟩
abbrev cX4_fewestWords : ByteArray := prog_6_method_9_code
def yX4_fewestWords : MethodName := ⟨RX4, "fewestWords", "()I"⟩
abbrev cX4_plannedWord : ByteArray := prog_6_method_10_code
def yX4_plannedWord : MethodName := ⟨RX4, "plannedWord", "(I)I"⟩
abbrev cX4_plannedCut : ByteArray := prog_6_method_11_code
def yX4_plannedCut : MethodName := ⟨RX4, "plannedCut", "(I)I"⟩
abbrev cX4_startOf : ByteArray := prog_6_method_12_code
def yX4_startOf : MethodName := ⟨RX4, "startOf", "(I)I"⟩
def RX5 : String := "RebusSigns$Row"
def TX5 : u_T := fun k => match k with
  | 0 => ("RebusSigns$Row", "signs", "[I", true)
  | _ => ("RebusSigns$Row", "size", "I", false)
def tyX5 : Nat → FieldType := fun k => match k with
  | 0 => .array .int
  | _ => .int
abbrev wsX50 : List Cond := u_ws RX5 TX5 2
theorem nmX5 : ∀ a, a < 2 → ∀ b, b < 2 → a ≠ b → (TX5 a).2.1 ≠ (TX5 b).2.1 := by decide +kernel
theorem tyX5_ok : ∀ k, k < 2 → parseFieldDescriptor (TX5 k).2.2.1 = some (tyX5 k) := by decide +kernel
abbrev cX5_init : ByteArray := prog_7_method_1_code
def yX5_init : MethodName := ⟨RX5, "<init>", "(I)V"⟩
abbrev cX5_size : ByteArray := prog_7_method_2_code
def yX5_size : MethodName := ⟨RX5, "size", "()I"⟩
abbrev cX5_isFull : ByteArray := prog_7_method_3_code
def yX5_isFull : MethodName := ⟨RX5, "isFull", "()Z"⟩
abbrev cX5_clear : ByteArray := prog_7_method_4_code
def yX5_clear : MethodName := ⟨RX5, "clear", "()V"⟩
abbrev cX5_put : ByteArray := prog_7_method_5_code
def yX5_put : MethodName := ⟨RX5, "put", "(I)V"⟩
abbrev cX5_drop : ByteArray := prog_7_method_6_code
def yX5_drop : MethodName := ⟨RX5, "drop", "()I"⟩
abbrev cX5_at : ByteArray := prog_7_method_7_code
def yX5_at : MethodName := ⟨RX5, "at", "(I)I"⟩
abbrev cX5_has : ByteArray := prog_7_method_8_code
def yX5_has : MethodName := ⟨RX5, "has", "(I)Z"⟩
abbrev cX5_copy : ByteArray := prog_7_method_9_code
def yX5_copy : MethodName := ⟨RX5, "copy", "(LRebusSigns$Row;)V"⟩
abbrev cX5_isSameAs : ByteArray := prog_7_method_10_code
def yX5_isSameAs : MethodName := ⟨RX5, "isSameAs", "(LRebusSigns$Row;)Z"⟩
def RX6 : String := "RebusSigns$Scribe"
def TX6 : u_T := fun k => match k with
  | 0 => ("RebusSigns$Scribe", "rows", "[LRebusSigns$Row;", true)
  | 1 => ("RebusSigns$Scribe", "fewest", "[I", true)
  | 2 => ("RebusSigns$Scribe", "told", "[I", true)
  | 3 => ("RebusSigns$Scribe", "first", "[I", true)
  | 4 => ("RebusSigns$Scribe", "ways", "[J", true)
  | _ => ("RebusSigns$Scribe", "settled", "Z", false)
def tyX6 : Nat → FieldType := fun k => match k with
  | 0 => .array (.object "RebusSigns$Row")
  | 1 => .array .int
  | 2 => .array .int
  | 3 => .array .int
  | 4 => .array .long
  | _ => .boolean
abbrev wsX60 : List Cond := u_ws RX6 TX6 6
theorem nmX6 : ∀ a, a < 6 → ∀ b, b < 6 → a ≠ b → (TX6 a).2.1 ≠ (TX6 b).2.1 := by decide +kernel
theorem tyX6_ok : ∀ k, k < 6 → parseFieldDescriptor (TX6 k).2.2.1 = some (tyX6 k) := by decide +kernel
abbrev cX6_init : ByteArray := prog_8_method_1_code
def yX6_init : MethodName := ⟨RX6, "<init>", "()V"⟩
abbrev cX6_forget : ByteArray := prog_8_method_2_code
def yX6_forget : MethodName := ⟨RX6, "forget", "()V"⟩
abbrev cX6_settle : ByteArray := prog_8_method_3_code
def yX6_settle : MethodName := ⟨RX6, "settle", "(LRebusSigns$Lexicon;)V"⟩
abbrev cX6_rowOf : ByteArray := prog_8_method_4_code
def yX6_rowOf : MethodName := ⟨RX6, "rowOf", "(I)LRebusSigns$Row;"⟩
abbrev cX6_findLeast : ByteArray := prog_8_method_5_code
def yX6_findLeast : MethodName := ⟨RX6, "findLeast", "(LRebusSigns$Lexicon;LRebusSigns$Word;LRebusSigns$Row;)V"⟩
abbrev cX6_weigh : ByteArray := prog_8_method_6_code
def yX6_weigh : MethodName := ⟨RX6, "weigh", "(LRebusSigns$Lexicon;LRebusSigns$Word;I)V"⟩
abbrev cX6_rowsOfSounds : ByteArray := prog_8_method_7_code
def yX6_rowsOfSounds : MethodName := ⟨RX6, "rowsOfSounds", "(LRebusSigns$Lexicon;LRebusSigns$Word;)J"⟩
def RX7 : String := "RebusSigns$Sign"
def TX7 : u_T := fun k => match k with
  | 0 => ("RebusSigns$Sign", "sound", "LRebusSigns$Letters;", true)
  | 1 => ("RebusSigns$Sign", "kind", "I", false)
  | 2 => ("RebusSigns$Sign", "group", "I", false)
  | _ => ("RebusSigns$Sign", "struck", "Z", false)
def tyX7 : Nat → FieldType := fun k => match k with
  | 0 => .object "RebusSigns$Letters"
  | 1 => .int
  | 2 => .int
  | _ => .boolean
abbrev wsX70 : List Cond := u_ws RX7 TX7 4
theorem nmX7 : ∀ a, a < 4 → ∀ b, b < 4 → a ≠ b → (TX7 a).2.1 ≠ (TX7 b).2.1 := by decide +kernel
theorem tyX7_ok : ∀ k, k < 4 → parseFieldDescriptor (TX7 k).2.2.1 = some (tyX7 k) := by decide +kernel
abbrev cX7_init : ByteArray := prog_9_method_1_code
def yX7_init : MethodName := ⟨RX7, "<init>", "()V"⟩
def RX8 : String := "RebusSigns$Word"
def TX8 : u_T := fun k => match k with
  | 0 => ("RebusSigns$Word", "letters", "LRebusSigns$Letters;", true)
  | _ => ("RebusSigns$Word", "group", "I", false)
def tyX8 : Nat → FieldType := fun k => match k with
  | 0 => .object "RebusSigns$Letters"
  | _ => .int
abbrev wsX80 : List Cond := u_ws RX8 TX8 2
theorem nmX8 : ∀ a, a < 2 → ∀ b, b < 2 → a ≠ b → (TX8 a).2.1 ≠ (TX8 b).2.1 := by decide +kernel
theorem tyX8_ok : ∀ k, k < 2 → parseFieldDescriptor (TX8 k).2.2.1 = some (tyX8 k) := by decide +kernel
abbrev cX8_init : ByteArray := prog_10_method_1_code
def yX8_init : MethodName := ⟨RX8, "<init>", "()V"⟩
def RX9 : String := "RebusSigns"
def TX9 : u_T := fun k => match k with
  | 0 => ("RebusSigns", "text", "LRebusSigns$Letters;", true)
  | 1 => ("RebusSigns", "inscription", "LRebusSigns$Row;", true)
  | 2 => ("RebusSigns", "marked", "LRebusSigns$Row;", true)
  | 3 => ("RebusSigns", "history", "LRebusSigns$History;", true)
  | 4 => ("RebusSigns", "scribe", "LRebusSigns$Scribe;", true)
  | 5 => ("RebusSigns", "reader", "LRebusSigns$Reader;", true)
  | 6 => ("RebusSigns", "laid", "LRebusSigns$Lexicon;", false)
  | _ => ("RebusSigns", "draft", "LRebusSigns$Lexicon;", false)
def tyX9 : Nat → FieldType := fun k => match k with
  | 0 => .object "RebusSigns$Letters"
  | 1 => .object "RebusSigns$Row"
  | 2 => .object "RebusSigns$Row"
  | 3 => .object "RebusSigns$History"
  | 4 => .object "RebusSigns$Scribe"
  | 5 => .object "RebusSigns$Reader"
  | 6 => .object "RebusSigns$Lexicon"
  | _ => .object "RebusSigns$Lexicon"
abbrev wsX90 : List Cond := u_ws RX9 TX9 8
theorem nmX9 : ∀ a, a < 8 → ∀ b, b < 8 → a ≠ b → (TX9 a).2.1 ≠ (TX9 b).2.1 := by decide +kernel
theorem tyX9_ok : ∀ k, k < 8 → parseFieldDescriptor (TX9 k).2.2.1 = some (tyX9 k) := by decide +kernel
abbrev cX9_init : ByteArray := prog_1_method_1_code
def yX9_init : MethodName := ⟨RX9, "<init>", "()V"⟩
abbrev cX9_write : ByteArray := prog_1_method_2_code
def yX9_write : MethodName := ⟨RX9, "write", "(I)I"⟩
abbrev cX9_wipe : ByteArray := prog_1_method_3_code
def yX9_wipe : MethodName := ⟨RX9, "wipe", "()I"⟩
abbrev cX9_fault : ByteArray := prog_1_method_4_code
def yX9_fault : MethodName := ⟨RX9, "fault", "()I"⟩
abbrev cX9_lay : ByteArray := prog_1_method_5_code
def yX9_lay : MethodName := ⟨RX9, "lay", "()I"⟩
abbrev cX9_strike : ByteArray := prog_1_method_6_code
def yX9_strike : MethodName := ⟨RX9, "strike", "(II)I"⟩
abbrev cX9_law : ByteArray := prog_1_method_7_code
def yX9_law : MethodName := ⟨RX9, "law", "(I)I"⟩
abbrev cX9_carve : ByteArray := prog_1_method_8_code
def yX9_carve : MethodName := ⟨RX9, "carve", "(I)I"⟩
abbrev cX9_chip : ByteArray := prog_1_method_9_code
def yX9_chip : MethodName := ⟨RX9, "chip", "()I"⟩
abbrev cX9_undo : ByteArray := prog_1_method_10_code
def yX9_undo : MethodName := ⟨RX9, "undo", "()I"⟩
abbrev cX9_sign : ByteArray := prog_1_method_11_code
def yX9_sign : MethodName := ⟨RX9, "sign", "(II)I"⟩
abbrev cX9_word : ByteArray := prog_1_method_12_code
def yX9_word : MethodName := ⟨RX9, "word", "(II)I"⟩
abbrev cX9_least : ByteArray := prog_1_method_13_code
def yX9_least : MethodName := ⟨RX9, "least", "(II)I"⟩
abbrev cX9_mark : ByteArray := prog_1_method_14_code
def yX9_mark : MethodName := ⟨RX9, "mark", "(I)I"⟩
abbrev cX9_writings : ByteArray := prog_1_method_15_code
def yX9_writings : MethodName := ⟨RX9, "writings", "(I)J"⟩
abbrev cX9_carved : ByteArray := prog_1_method_16_code
def yX9_carved : MethodName := ⟨RX9, "carved", "(I)I"⟩
abbrev cX9_read : ByteArray := prog_1_method_17_code
def yX9_read : MethodName := ⟨RX9, "read", "(II)I"⟩
abbrev cX9_readings : ByteArray := prog_1_method_18_code
def yX9_readings : MethodName := ⟨RX9, "readings", "()J"⟩
abbrev cX9_reading : ByteArray := prog_1_method_19_code
def yX9_reading : MethodName := ⟨RX9, "reading", "(I)I"⟩
abbrev cX9_cut : ByteArray := prog_1_method_20_code
def yX9_cut : MethodName := ⟨RX9, "cut", "(I)I"⟩
abbrev cX9_count : ByteArray := prog_1_method_21_code
def yX9_count : MethodName := ⟨RX9, "count", "(I)I"⟩
abbrev cX9_firstLexicon : ByteArray := prog_1_method_22_code
def yX9_firstLexicon : MethodName := ⟨RX9, "firstLexicon", "()LRebusSigns$Lexicon;"⟩
abbrev cX9_turn : ByteArray := prog_1_method_23_code
def yX9_turn : MethodName := ⟨RX9, "turn", "(LRebusSigns$Sign;)V"⟩
abbrev cX9_turnLaw : ByteArray := prog_1_method_24_code
def yX9_turnLaw : MethodName := ⟨RX9, "turnLaw", "()V"⟩
abbrev cX9_lawNumber : ByteArray := prog_1_method_25_code
def yX9_lawNumber : MethodName := ⟨RX9, "lawNumber", "()I"⟩
abbrev cX9_leastWritingsWith : ByteArray := prog_1_method_26_code
def yX9_leastWritingsWith : MethodName := ⟨RX9, "leastWritingsWith", "(I)I"⟩
abbrev cX9_clearness : ByteArray := prog_1_method_27_code
def yX9_clearness : MethodName := ⟨RX9, "clearness", "(I)I"⟩
abbrev cX9_mixedWith : ByteArray := prog_1_method_28_code
def yX9_mixedWith : MethodName := ⟨RX9, "mixedWith", "(II)I"⟩
abbrev cX9_writtenWords : ByteArray := prog_1_method_29_code
def yX9_writtenWords : MethodName := ⟨RX9, "writtenWords", "()I"⟩
abbrev cX9_clearWords : ByteArray := prog_1_method_30_code
def yX9_clearWords : MethodName := ⟨RX9, "clearWords", "()I"⟩
abbrev cX9_mixedPairs : ByteArray := prog_1_method_31_code
def yX9_mixedPairs : MethodName := ⟨RX9, "mixedPairs", "()I"⟩
def RX10 : String := "RebusSignsModel"
def TX10 : u_T := fun k => match k with
  | 0 => ("RebusSignsModel", "length", "I", false)
  | 1 => ("RebusSignsModel", "text", "[I", true)
  | 2 => ("RebusSignsModel", "spot", "I", false)
  | 3 => ("RebusSignsModel", "told", "[I", true)
  | 4 => ("RebusSignsModel", "read", "[I", true)
  | 5 => ("RebusSignsModel", "s", "[I", true)
  | 6 => ("RebusSignsModel", "before", "[I", true)
  | 7 => ("RebusSignsModel", "undoMany", "I", false)
  | 8 => ("RebusSignsModel", "met", "[I", true)
  | 9 => ("RebusSignsModel", "numberOf", "[I", true)
  | 10 => ("RebusSignsModel", "next", "[I", true)
  | 11 => ("RebusSignsModel", "metMany", "I", false)
  | 12 => ("RebusSignsModel", "most", "[I", true)
  | 13 => ("RebusSignsModel", "leastRow", "[I", true)
  | 14 => ("RebusSignsModel", "leastOut", "I", false)
  | 15 => ("RebusSignsModel", "otherRow", "[I", true)
  | 16 => ("RebusSignsModel", "rows", "[J", true)
  | 17 => ("RebusSignsModel", "fewest", "[I", true)
  | 18 => ("RebusSignsModel", "ways", "[J", true)
  | _ => ("RebusSignsModel", "sets", "[I", true)
def tyX10 : Nat → FieldType := fun k => match k with
  | 0 => .int
  | 1 => .array .int
  | 2 => .int
  | 3 => .array .int
  | 4 => .array .int
  | 5 => .array .int
  | 6 => .array .int
  | 7 => .int
  | 8 => .array .int
  | 9 => .array .int
  | 10 => .array .int
  | 11 => .int
  | 12 => .array .int
  | 13 => .array .int
  | 14 => .int
  | 15 => .array .int
  | 16 => .array .long
  | 17 => .array .int
  | 18 => .array .long
  | _ => .array .int
abbrev wsX100 : List Cond := u_ws RX10 TX10 20
theorem nmX10 : ∀ a, a < 20 → ∀ b, b < 20 → a ≠ b → (TX10 a).2.1 ≠ (TX10 b).2.1 := by decide +kernel
theorem tyX10_ok : ∀ k, k < 20 → parseFieldDescriptor (TX10 k).2.2.1 = some (tyX10 k) := by decide +kernel
abbrev cX10_init : ByteArray := prog_12_method_1_code
def yX10_init : MethodName := ⟨RX10, "<init>", "()V"⟩
abbrev cX10_sign4 : ByteArray := prog_12_method_2_code
def yX10_sign4 : MethodName := ⟨RX10, "sign4", "(IIIIII)V"⟩
abbrev cX10_word6 : ByteArray := prog_12_method_3_code
def yX10_word6 : MethodName := ⟨RX10, "word6", "(IIIIIII)V"⟩
abbrev cX10_anew : ByteArray := prog_12_method_4_code
def yX10_anew : MethodName := ⟨RX10, "anew", "()V"⟩
abbrev cX10_in : ByteArray := prog_12_method_5_code
def yX10_in : MethodName := ⟨RX10, "in", "(JJJ)Z"⟩
abbrev cX10_write : ByteArray := prog_12_method_6_code
def yX10_write : MethodName := ⟨RX10, "write", "(I)I"⟩
abbrev cX10_wipe : ByteArray := prog_12_method_7_code
def yX10_wipe : MethodName := ⟨RX10, "wipe", "()I"⟩
abbrev cX10_byteAt : ByteArray := prog_12_method_8_code
def yX10_byteAt : MethodName := ⟨RX10, "byteAt", "(I)I"⟩
abbrev cX10_figure : ByteArray := prog_12_method_9_code
def yX10_figure : MethodName := ⟨RX10, "figure", "(II)Z"⟩
abbrev cX10_gone : ByteArray := prog_12_method_10_code
def yX10_gone : MethodName := ⟨RX10, "gone", "(I)Z"⟩
abbrev cX10_letters : ByteArray := prog_12_method_11_code
def yX10_letters : MethodName := ⟨RX10, "letters", "(II)Z"⟩
abbrev cX10_wordItem : ByteArray := prog_12_method_12_code
def yX10_wordItem : MethodName := ⟨RX10, "wordItem", "()Z"⟩
abbrev cX10_signItem : ByteArray := prog_12_method_13_code
def yX10_signItem : MethodName := ⟨RX10, "signItem", "(I)Z"⟩
abbrev cX10_item : ByteArray := prog_12_method_14_code
def yX10_item : MethodName := ⟨RX10, "item", "(I)Z"⟩
abbrev cX10_fault : ByteArray := prog_12_method_15_code
def yX10_fault : MethodName := ⟨RX10, "fault", "()I"⟩
abbrev cX10_lay : ByteArray := prog_12_method_16_code
def yX10_lay : MethodName := ⟨RX10, "lay", "()I"⟩
abbrev cX10_note : ByteArray := prog_12_method_17_code
def yX10_note : MethodName := ⟨RX10, "note", "()V"⟩
abbrev cX10_undo : ByteArray := prog_12_method_18_code
def yX10_undo : MethodName := ⟨RX10, "undo", "()I"⟩
abbrev cX10_isSign : ByteArray := prog_12_method_19_code
def yX10_isSign : MethodName := ⟨RX10, "isSign", "(I)Z"⟩
abbrev cX10_isWord : ByteArray := prog_12_method_20_code
def yX10_isWord : MethodName := ⟨RX10, "isWord", "(I)Z"⟩
abbrev cX10_isStruck : ByteArray := prog_12_method_21_code
def yX10_isStruck : MethodName := ⟨RX10, "isStruck", "(I)Z"⟩
abbrev cX10_bits : ByteArray := prog_12_method_22_code
def yX10_bits : MethodName := ⟨RX10, "bits", "(I)I"⟩
abbrev cX10_strike : ByteArray := prog_12_method_23_code
def yX10_strike : MethodName := ⟨RX10, "strike", "(II)I"⟩
abbrev cX10_law : ByteArray := prog_12_method_24_code
def yX10_law : MethodName := ⟨RX10, "law", "(I)I"⟩
abbrev cX10_carve : ByteArray := prog_12_method_25_code
def yX10_carve : MethodName := ⟨RX10, "carve", "(I)I"⟩
abbrev cX10_chip : ByteArray := prog_12_method_26_code
def yX10_chip : MethodName := ⟨RX10, "chip", "()I"⟩
abbrev cX10_letterOf : ByteArray := prog_12_method_27_code
def yX10_letterOf : MethodName := ⟨RX10, "letterOf", "(II)I"⟩
abbrev cX10_long1 : ByteArray := prog_12_method_28_code
def yX10_long1 : MethodName := ⟨RX10, "long1", "(I)I"⟩
abbrev cX10_isVowel : ByteArray := prog_12_method_29_code
def yX10_isVowel : MethodName := ⟨RX10, "isVowel", "(II)Z"⟩
abbrev cX10_soundLong : ByteArray := prog_12_method_30_code
def yX10_soundLong : MethodName := ⟨RX10, "soundLong", "(I)I"⟩
abbrev cX10_lies : ByteArray := prog_12_method_31_code
def yX10_lies : MethodName := ⟨RX10, "lies", "(III)Z"⟩
abbrev cX10_skips : ByteArray := prog_12_method_32_code
def yX10_skips : MethodName := ⟨RX10, "skips", "(II)I"⟩
abbrev cX10_steps : ByteArray := prog_12_method_33_code
def yX10_steps : MethodName := ⟨RX10, "steps", "(III)I"⟩
abbrev cX10_isWhole : ByteArray := prog_12_method_34_code
def yX10_isWhole : MethodName := ⟨RX10, "isWhole", "(II)Z"⟩
abbrev cX10_hasSound : ByteArray := prog_12_method_35_code
def yX10_hasSound : MethodName := ⟨RX10, "hasSound", "(I)Z"⟩
abbrev cX10_isWriting : ByteArray := prog_12_method_36_code
def yX10_isWriting : MethodName := ⟨RX10, "isWriting", "(I[III)Z"⟩
abbrev cX10_reads : ByteArray := prog_12_method_37_code
def yX10_reads : MethodName := ⟨RX10, "reads", "([III)I"⟩
abbrev cX10_meets : ByteArray := prog_12_method_38_code
def yX10_meets : MethodName := ⟨RX10, "meets", "(I)I"⟩
abbrev cX10_explores : ByteArray := prog_12_method_39_code
def yX10_explores : MethodName := ⟨RX10, "explores", "(I)V"⟩
abbrev cX10_mosts : ByteArray := prog_12_method_40_code
def yX10_mosts : MethodName := ⟨RX10, "mosts", "(I)V"⟩
abbrev cX10_leasts : ByteArray := prog_12_method_41_code
def yX10_leasts : MethodName := ⟨RX10, "leasts", "(I)I"⟩
abbrev cX10_markOf : ByteArray := prog_12_method_42_code
def yX10_markOf : MethodName := ⟨RX10, "markOf", "(I)I"⟩
abbrev cX10_clear : ByteArray := prog_12_method_43_code
def yX10_clear : MethodName := ⟨RX10, "clear", "(I)I"⟩
abbrev cX10_areMixed : ByteArray := prog_12_method_44_code
def yX10_areMixed : MethodName := ⟨RX10, "areMixed", "(II)Z"⟩
abbrev cX10_mixed : ByteArray := prog_12_method_45_code
def yX10_mixed : MethodName := ⟨RX10, "mixed", "(I)I"⟩
abbrev cX10_leastWith : ByteArray := prog_12_method_46_code
def yX10_leastWith : MethodName := ⟨RX10, "leastWith", "(I)I"⟩
abbrev cX10_sign : ByteArray := prog_12_method_47_code
def yX10_sign : MethodName := ⟨RX10, "sign", "(II)I"⟩
abbrev cX10_word : ByteArray := prog_12_method_48_code
def yX10_word : MethodName := ⟨RX10, "word", "(II)I"⟩
abbrev cX10_least : ByteArray := prog_12_method_49_code
def yX10_least : MethodName := ⟨RX10, "least", "(II)I"⟩
abbrev cX10_mark : ByteArray := prog_12_method_50_code
def yX10_mark : MethodName := ⟨RX10, "mark", "(I)I"⟩
abbrev cX10_writings : ByteArray := prog_12_method_51_code
def yX10_writings : MethodName := ⟨RX10, "writings", "(I)J"⟩
abbrev cX10_reckons : ByteArray := prog_12_method_52_code
def yX10_reckons : MethodName := ⟨RX10, "reckons", "()V"⟩
abbrev cX10_rowFrom : ByteArray := prog_12_method_53_code
def yX10_rowFrom : MethodName := ⟨RX10, "rowFrom", "(I)I"⟩
abbrev cX10_carved : ByteArray := prog_12_method_54_code
def yX10_carved : MethodName := ⟨RX10, "carved", "(I)I"⟩
abbrev cX10_read : ByteArray := prog_12_method_55_code
def yX10_read : MethodName := ⟨RX10, "read", "(II)I"⟩
abbrev cX10_readings : ByteArray := prog_12_method_56_code
def yX10_readings : MethodName := ⟨RX10, "readings", "()J"⟩
abbrev cX10_begins : ByteArray := prog_12_method_57_code
def yX10_begins : MethodName := ⟨RX10, "begins", "(I)I"⟩
abbrev cX10_reading : ByteArray := prog_12_method_58_code
def yX10_reading : MethodName := ⟨RX10, "reading", "(I)I"⟩
abbrev cX10_cut : ByteArray := prog_12_method_59_code
def yX10_cut : MethodName := ⟨RX10, "cut", "(I)I"⟩
abbrev cX10_count : ByteArray := prog_12_method_60_code
def yX10_count : MethodName := ⟨RX10, "count", "(I)I"⟩
def RJx145de : String := "java/io/Serializable"
def TJx145de : u_T := fun k => match k with
  | _ => ("", "", "", false)
def tyJx145de : Nat → FieldType := fun k => match k with
  | _ => .int
abbrev wsJx145de0 : List Cond := u_ws RJx145de TJx145de 0
theorem nmJx145de : ∀ a, a < 0 → ∀ b, b < 0 → a ≠ b → (TJx145de a).2.1 ≠ (TJx145de b).2.1 := by decide +kernel
theorem tyJx145de_ok : ∀ k, k < 0 → parseFieldDescriptor (TJx145de k).2.2.1 = some (tyJx145de k) := by decide +kernel
def RJx9f9b0 : String := "java/lang/CharSequence"
def TJx9f9b0 : u_T := fun k => match k with
  | _ => ("", "", "", false)
def tyJx9f9b0 : Nat → FieldType := fun k => match k with
  | _ => .int
abbrev wsJx9f9b00 : List Cond := u_ws RJx9f9b0 TJx9f9b0 0
theorem nmJx9f9b0 : ∀ a, a < 0 → ∀ b, b < 0 → a ≠ b → (TJx9f9b0 a).2.1 ≠ (TJx9f9b0 b).2.1 := by decide +kernel
theorem tyJx9f9b0_ok : ∀ k, k < 0 → parseFieldDescriptor (TJx9f9b0 k).2.2.1 = some (tyJx9f9b0 k) := by decide +kernel
def RJxb160c : String := "java/lang/Comparable"
def TJxb160c : u_T := fun k => match k with
  | _ => ("", "", "", false)
def tyJxb160c : Nat → FieldType := fun k => match k with
  | _ => .int
abbrev wsJxb160c0 : List Cond := u_ws RJxb160c TJxb160c 0
theorem nmJxb160c : ∀ a, a < 0 → ∀ b, b < 0 → a ≠ b → (TJxb160c a).2.1 ≠ (TJxb160c b).2.1 := by decide +kernel
theorem tyJxb160c_ok : ∀ k, k < 0 → parseFieldDescriptor (TJxb160c k).2.2.1 = some (tyJxb160c k) := by decide +kernel
def RJ6 : String := "java/lang/Integer"
def TJ6 : u_T := fun k => match k with
  | _ => ("", "", "", false)
def tyJ6 : Nat → FieldType := fun k => match k with
  | _ => .int
abbrev wsJ60 : List Cond := u_ws RJ6 TJ6 0
theorem nmJ6 : ∀ a, a < 0 → ∀ b, b < 0 → a ≠ b → (TJ6 a).2.1 ≠ (TJ6 b).2.1 := by decide +kernel
theorem tyJ6_ok : ∀ k, k < 0 → parseFieldDescriptor (TJ6 k).2.2.1 = some (tyJ6 k) := by decide +kernel
abbrev cJ6_bitCount_0f7a4 : ByteArray := prog_13_method_49_code
def yJ6_bitCount_0f7a4 : MethodName := ⟨RJ6, "bitCount", "(I)I"⟩
def RJ9 : String := "java/lang/Math"
def TJ9 : u_T := fun k => match k with
  | _ => ("", "", "", false)
def tyJ9 : Nat → FieldType := fun k => match k with
  | _ => .int
abbrev wsJ90 : List Cond := u_ws RJ9 TJ9 0
theorem nmJ9 : ∀ a, a < 0 → ∀ b, b < 0 → a ≠ b → (TJ9 a).2.1 ≠ (TJ9 b).2.1 := by decide +kernel
theorem tyJ9_ok : ∀ k, k < 0 → parseFieldDescriptor (TJ9 k).2.2.1 = some (tyJ9 k) := by decide +kernel
abbrev cJ9_max_7cf53 : ByteArray := prog_14_method_65_code
def yJ9_max_7cf53 : MethodName := ⟨RJ9, "max", "(II)I"⟩
abbrev cJ9_min_7cf53 : ByteArray := prog_14_method_69_code
def yJ9_min_7cf53 : MethodName := ⟨RJ9, "min", "(II)I"⟩
def RJ0 : String := "java/lang/String"
def TJ0 : u_T := fun k => match k with
  | _ => ("", "", "", false)
def tyJ0 : Nat → FieldType := fun k => match k with
  | _ => .int
abbrev wsJ00 : List Cond := u_ws RJ0 TJ0 0
theorem nmJ0 : ∀ a, a < 0 → ∀ b, b < 0 → a ≠ b → (TJ0 a).2.1 ≠ (TJ0 b).2.1 := by decide +kernel
theorem tyJ0_ok : ∀ k, k < 0 → parseFieldDescriptor (TJ0 k).2.2.1 = some (tyJ0 k) := by decide +kernel
abbrev cJ0_length_8abf5 : ByteArray := prog_15_method_54_code
def yJ0_length_8abf5 : MethodName := ⟨RJ0, "length", "()I"⟩
abbrev cJ0_charAt_5068e : ByteArray := prog_15_method_56_code
def yJ0_charAt_5068e : MethodName := ⟨RJ0, "charAt", "(I)C"⟩
abbrev cJ0_coder_7d493 : ByteArray := prog_15_method_152_code
def yJ0_coder_7d493 : MethodName := ⟨RJ0, "coder", "()B"⟩
abbrev cJ0_isLatin1_aae02 : ByteArray := prog_15_method_154_code
def yJ0_isLatin1_aae02 : MethodName := ⟨RJ0, "isLatin1", "()Z"⟩
abbrev cJ0_checkIndex_df160 : ByteArray := prog_15_method_155_code
def yJ0_checkIndex_df160 : MethodName := ⟨RJ0, "checkIndex", "(II)V"⟩
def RJ1 : String := "java/lang/StringLatin1"
def TJ1 : u_T := fun k => match k with
  | _ => ("", "", "", false)
def tyJ1 : Nat → FieldType := fun k => match k with
  | _ => .int
abbrev wsJ10 : List Cond := u_ws RJ1 TJ1 0
theorem nmJ1 : ∀ a, a < 0 → ∀ b, b < 0 → a ≠ b → (TJ1 a).2.1 ≠ (TJ1 b).2.1 := by decide +kernel
theorem tyJ1_ok : ∀ k, k < 0 → parseFieldDescriptor (TJ1 k).2.2.1 = some (tyJ1 k) := by decide +kernel
abbrev cJ1_charAt_3b067 : ByteArray := prog_16_method_2_code
def yJ1_charAt_3b067 : MethodName := ⟨RJ1, "charAt", "([BI)C"⟩
def RJ2 : String := "java/lang/StringUTF16"
def TJ2 : u_T := fun k => match k with
  | _ => ("", "", "", false)
def tyJ2 : Nat → FieldType := fun k => match k with
  | _ => .int
abbrev wsJ20 : List Cond := u_ws RJ2 TJ2 0
theorem nmJ2 : ∀ a, a < 0 → ∀ b, b < 0 → a ≠ b → (TJ2 a).2.1 ≠ (TJ2 b).2.1 := by decide +kernel
theorem tyJ2_ok : ∀ k, k < 0 → parseFieldDescriptor (TJ2 k).2.2.1 = some (tyJ2 k) := by decide +kernel
abbrev cJ2_getChar_3b067 : ByteArray := prog_17_method_5_code
def yJ2_getChar_3b067 : MethodName := ⟨RJ2, "getChar", "([BI)C"⟩
abbrev cJ2_length_9d52b : ByteArray := prog_17_method_6_code
def yJ2_length_9d52b : MethodName := ⟨RJ2, "length", "([B)I"⟩
abbrev cJ2_charAt_3b067 : ByteArray := prog_17_method_83_code
def yJ2_charAt_3b067 : MethodName := ⟨RJ2, "charAt", "([BI)C"⟩
abbrev cJ2_checkIndex_2214a : ByteArray := prog_17_method_91_code
def yJ2_checkIndex_2214a : MethodName := ⟨RJ2, "checkIndex", "(I[B)V"⟩
def RJxfd54e : String := "java/lang/constant/Constable"
def TJxfd54e : u_T := fun k => match k with
  | _ => ("", "", "", false)
def tyJxfd54e : Nat → FieldType := fun k => match k with
  | _ => .int
abbrev wsJxfd54e0 : List Cond := u_ws RJxfd54e TJxfd54e 0
theorem nmJxfd54e : ∀ a, a < 0 → ∀ b, b < 0 → a ≠ b → (TJxfd54e a).2.1 ≠ (TJxfd54e b).2.1 := by decide +kernel
theorem tyJxfd54e_ok : ∀ k, k < 0 → parseFieldDescriptor (TJxfd54e k).2.2.1 = some (tyJxfd54e k) := by decide +kernel
def RJx3cf43 : String := "java/lang/constant/ConstantDesc"
def TJx3cf43 : u_T := fun k => match k with
  | _ => ("", "", "", false)
def tyJx3cf43 : Nat → FieldType := fun k => match k with
  | _ => .int
abbrev wsJx3cf430 : List Cond := u_ws RJx3cf43 TJx3cf43 0
theorem nmJx3cf43 : ∀ a, a < 0 → ∀ b, b < 0 → a ≠ b → (TJx3cf43 a).2.1 ≠ (TJx3cf43 b).2.1 := by decide +kernel
theorem tyJx3cf43_ok : ∀ k, k < 0 → parseFieldDescriptor (TJx3cf43 k).2.2.1 = some (tyJx3cf43 k) := by decide +kernel
def RJ7 : String := "java/util/Arrays"
def TJ7 : u_T := fun k => match k with
  | _ => ("", "", "", false)
def tyJ7 : Nat → FieldType := fun k => match k with
  | _ => .int
abbrev wsJ70 : List Cond := u_ws RJ7 TJ7 0
theorem nmJ7 : ∀ a, a < 0 → ∀ b, b < 0 → a ≠ b → (TJ7 a).2.1 ≠ (TJ7 b).2.1 := by decide +kernel
theorem tyJ7_ok : ∀ k, k < 0 → parseFieldDescriptor (TJ7 k).2.2.1 = some (tyJ7 k) := by decide +kernel
abbrev cJ7_fill_d0a16 : ByteArray := prog_18_method_101_code
def yJ7_fill_d0a16 : MethodName := ⟨RJ7, "fill", "([JJ)V"⟩
abbrev cJ7_fill_53178 : ByteArray := prog_18_method_103_code
def yJ7_fill_53178 : MethodName := ⟨RJ7, "fill", "([II)V"⟩
def RJ3 : String := "jdk/internal/util/Preconditions"
def TJ3 : u_T := fun k => match k with
  | _ => ("", "", "", false)
def tyJ3 : Nat → FieldType := fun k => match k with
  | _ => .int
abbrev wsJ30 : List Cond := u_ws RJ3 TJ3 0
theorem nmJ3 : ∀ a, a < 0 → ∀ b, b < 0 → a ≠ b → (TJ3 a).2.1 ≠ (TJ3 b).2.1 := by decide +kernel
theorem tyJ3_ok : ∀ k, k < 0 → parseFieldDescriptor (TJ3 k).2.2.1 = some (tyJ3 k) := by decide +kernel
abbrev cJ3_checkIndex_8e157 : ByteArray := prog_19_method_11_code
def yJ3_checkIndex_8e157 : MethodName := ⟨RJ3, "checkIndex", "(IILjava/util/function/BiFunction;)I"⟩
def RL : String := "RebusSignsLaw"
abbrev cL_law : ByteArray := code
def yL_law : MethodName := ⟨RL, "law", "([I)Z"⟩
abbrev vwCl : List vw_C := [(RX0, TX0, 3), (RX1, TX1, 2), (RX2, TX2, 5), (RX4, TX4, 5), (RX5, TX5, 2), (RX6, TX6, 6), (RX7, TX7, 4), (RX8, TX8, 2), (RX9, TX9, 8), (RX10, TX10, 20)]
