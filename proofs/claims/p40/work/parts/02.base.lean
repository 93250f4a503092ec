def RX0 : String := "CobwebLibrary$Foresight"
def TX0 : u_T := fun k => match k with
  | 0 => ("CobwebLibrary$Foresight", "keepSize", "I", false)
  | 1 => ("CobwebLibrary$Foresight", "askedSize", "I", false)
  | 2 => ("CobwebLibrary$Foresight", "firstTurn", "I", false)
  | 3 => ("CobwebLibrary$Foresight", "keepRow", "[I", true)
  | 4 => ("CobwebLibrary$Foresight", "askedRow", "[I", true)
  | 5 => ("CobwebLibrary$Foresight", "choices", "[I", true)
  | 6 => ("CobwebLibrary$Foresight", "wantedBooks", "[I", true)
  | 7 => ("CobwebLibrary$Foresight", "wantedWebs", "[I", true)
  | 8 => ("CobwebLibrary$Foresight", "wanted", "I", false)
  | 9 => ("CobwebLibrary$Foresight", "webs", "[I", true)
  | 10 => ("CobwebLibrary$Foresight", "books", "I", false)
  | 11 => ("CobwebLibrary$Foresight", "rare", "I", false)
  | 12 => ("CobwebLibrary$Foresight", "law", "I", false)
  | 13 => ("CobwebLibrary$Foresight", "spin", "I", false)
  | 14 => ("CobwebLibrary$Foresight", "today", "I", false)
  | _ => ("CobwebLibrary$Foresight", "daysAhead", "I", false)
def tyX0 : Nat → FieldType := fun k => match k with
  | 0 => .int
  | 1 => .int
  | 2 => .int
  | 3 => .array .int
  | 4 => .array .int
  | 5 => .array .int
  | 6 => .array .int
  | 7 => .array .int
  | 8 => .int
  | 9 => .array .int
  | 10 => .int
  | 11 => .int
  | 12 => .int
  | 13 => .int
  | 14 => .int
  | _ => .int
abbrev wsX00 : List Cond := u_ws RX0 TX0 16
theorem nmX0 : ∀ a, a < 16 → ∀ b, b < 16 → a ≠ b → (TX0 a).2.1 ≠ (TX0 b).2.1 := by decide +kernel
theorem tyX0_ok : ∀ k, k < 16 → parseFieldDescriptor (TX0 k).2.2.1 = some (tyX0 k) := by decide +kernel
abbrev cX0_init : ByteArray := prog_2_method_1_code
def yX0_init : MethodName := ⟨RX0, "<init>", "()V"⟩
abbrev cX0_look : ByteArray := prog_2_method_2_code
def yX0_look : MethodName := ⟨RX0, "look", "(LCobwebLibrary$Plan;LCobwebLibrary$Shelves;I)V"⟩
abbrev cX0_isFree : ByteArray := prog_2_method_3_code
def yX0_isFree : MethodName := ⟨RX0, "isFree", "(II)Z"⟩
abbrev cX0_mayChoose : ByteArray := prog_2_method_4_code
def yX0_mayChoose : MethodName := ⟨RX0, "mayChoose", "(II)Z"⟩
abbrev cX0_bookChosen : ByteArray := prog_2_method_5_code
def yX0_bookChosen : MethodName := ⟨RX0, "bookChosen", "(I)I"⟩
abbrev cX0_passDay : ByteArray := prog_2_method_6_code
def yX0_passDay : MethodName := ⟨RX0, "passDay", "(I)V"⟩
abbrev cX0_fewestAskings : ByteArray := prog_2_method_7_code
def yX0_fewestAskings : MethodName := ⟨RX0, "fewestAskings", "()I"⟩
abbrev cX0_keepsFrom : ByteArray := prog_2_method_8_code
def yX0_keepsFrom : MethodName := ⟨RX0, "keepsFrom", "(II)Z"⟩
abbrev cX0_areRareInDoubt : ByteArray := prog_2_method_9_code
def yX0_areRareInDoubt : MethodName := ⟨RX0, "areRareInDoubt", "(I)Z"⟩
abbrev cX0_askingsNeeded : ByteArray := prog_2_method_10_code
def yX0_askingsNeeded : MethodName := ⟨RX0, "askingsNeeded", "(I)I"⟩
abbrev cX0_askingsAlone : ByteArray := prog_2_method_11_code
def yX0_askingsAlone : MethodName := ⟨RX0, "askingsAlone", "(II)I"⟩
abbrev cX0_takeWanted : ByteArray := prog_2_method_12_code
def yX0_takeWanted : MethodName := ⟨RX0, "takeWanted", "(LCobwebLibrary$Tape;I)Z"⟩
abbrev cX0_countRows : ByteArray := prog_2_method_13_code
def yX0_countRows : MethodName := ⟨RX0, "countRows", "()I"⟩
abbrev cX0_countRowsFrom : ByteArray := prog_2_method_14_code
def yX0_countRowsFrom : MethodName := ⟨RX0, "countRowsFrom", "(II)I"⟩
abbrev cX0_noteRow : ByteArray := prog_2_method_15_code
def yX0_noteRow : MethodName := ⟨RX0, "noteRow", "(I)I"⟩
abbrev cX0_areWebsAsWanted : ByteArray := prog_2_method_16_code
def yX0_areWebsAsWanted : MethodName := ⟨RX0, "areWebsAsWanted", "(I)Z"⟩
abbrev cX0_playTurns : ByteArray := prog_2_method_17_code
def yX0_playTurns : MethodName := ⟨RX0, "playTurns", "()I"⟩
abbrev cX0_lawsFrom : ByteArray := prog_2_method_18_code
def yX0_lawsFrom : MethodName := ⟨RX0, "lawsFrom", "(I)I"⟩
abbrev cX0_lawsBehind : ByteArray := prog_2_method_19_code
def yX0_lawsBehind : MethodName := ⟨RX0, "lawsBehind", "(I)I"⟩
abbrev cX0_spinsOf : ByteArray := prog_2_method_20_code
def yX0_spinsOf : MethodName := ⟨RX0, "spinsOf", "(LCobwebLibrary$Tape;I)I"⟩
def RX1 : String := "CobwebLibrary$Founding"
def TX1 : u_T := fun k => match k with
  | 0 => ("CobwebLibrary$Founding", "plan", "LCobwebLibrary$Plan;", true)
  | 1 => ("CobwebLibrary$Founding", "shelves", "LCobwebLibrary$Shelves;", true)
  | 2 => ("CobwebLibrary$Founding", "threadsTold", "[I", true)
  | 3 => ("CobwebLibrary$Founding", "websTold", "I", false)
  | 4 => ("CobwebLibrary$Founding", "wordsTold", "I", false)
  | 5 => ("CobwebLibrary$Founding", "first", "I", false)
  | _ => ("CobwebLibrary$Founding", "second", "I", false)
def tyX1 : Nat → FieldType := fun k => match k with
  | 0 => .object "CobwebLibrary$Plan"
  | 1 => .object "CobwebLibrary$Shelves"
  | 2 => .array .int
  | 3 => .int
  | 4 => .int
  | 5 => .int
  | _ => .int
abbrev wsX10 : List Cond := u_ws RX1 TX1 7
theorem nmX1 : ∀ a, a < 7 → ∀ b, b < 7 → a ≠ b → (TX1 a).2.1 ≠ (TX1 b).2.1 := by decide +kernel
theorem tyX1_ok : ∀ k, k < 7 → parseFieldDescriptor (TX1 k).2.2.1 = some (tyX1 k) := by decide +kernel
abbrev cX1_init : ByteArray := prog_3_method_1_code
def yX1_init : MethodName := ⟨RX1, "<init>", "()V"⟩
abbrev cX1_readFrom : ByteArray := prog_3_method_2_code
def yX1_readFrom : MethodName := ⟨RX1, "readFrom", "(LCobwebLibrary$Tape;)I"⟩
abbrev cX1_readLine : ByteArray := prog_3_method_3_code
def yX1_readLine : MethodName := ⟨RX1, "readLine", "(LCobwebLibrary$Tape;)Z"⟩
abbrev cX1_isToldFirst : ByteArray := prog_3_method_4_code
def yX1_isToldFirst : MethodName := ⟨RX1, "isToldFirst", "(LCobwebLibrary$Tape;)Z"⟩
abbrev cX1_readNumber : ByteArray := prog_3_method_5_code
def yX1_readNumber : MethodName := ⟨RX1, "readNumber", "(LCobwebLibrary$Tape;II)Z"⟩
abbrev cX1_readShelves : ByteArray := prog_3_method_6_code
def yX1_readShelves : MethodName := ⟨RX1, "readShelves", "(LCobwebLibrary$Tape;)Z"⟩
abbrev cX1_readBook : ByteArray := prog_3_method_7_code
def yX1_readBook : MethodName := ⟨RX1, "readBook", "(LCobwebLibrary$Tape;)Z"⟩
abbrev cX1_readCell : ByteArray := prog_3_method_8_code
def yX1_readCell : MethodName := ⟨RX1, "readCell", "(LCobwebLibrary$Tape;I)Z"⟩
abbrev cX1_readWeb : ByteArray := prog_3_method_9_code
def yX1_readWeb : MethodName := ⟨RX1, "readWeb", "(LCobwebLibrary$Tape;)Z"⟩
abbrev cX1_readThickness : ByteArray := prog_3_method_10_code
def yX1_readThickness : MethodName := ⟨RX1, "readThickness", "(LCobwebLibrary$Tape;)Z"⟩
abbrev cX1_readPair : ByteArray := prog_3_method_11_code
def yX1_readPair : MethodName := ⟨RX1, "readPair", "(LCobwebLibrary$Tape;[I)Z"⟩
def RX2 : String := "CobwebLibrary$Image"
def TX2 : u_T := fun k => match k with
  | 0 => ("CobwebLibrary$Image", "isKept", "Z", false)
  | 1 => ("CobwebLibrary$Image", "plan", "LCobwebLibrary$Plan;", true)
  | 2 => ("CobwebLibrary$Image", "shelves", "LCobwebLibrary$Shelves;", true)
  | _ => ("CobwebLibrary$Image", "spoken", "LCobwebLibrary$Sentence;", true)
def tyX2 : Nat → FieldType := fun k => match k with
  | 0 => .boolean
  | 1 => .object "CobwebLibrary$Plan"
  | 2 => .object "CobwebLibrary$Shelves"
  | _ => .object "CobwebLibrary$Sentence"
abbrev wsX20 : List Cond := u_ws RX2 TX2 4
theorem nmX2 : ∀ a, a < 4 → ∀ b, b < 4 → a ≠ b → (TX2 a).2.1 ≠ (TX2 b).2.1 := by decide +kernel
theorem tyX2_ok : ∀ k, k < 4 → parseFieldDescriptor (TX2 k).2.2.1 = some (tyX2 k) := by decide +kernel
abbrev cX2_init : ByteArray := prog_4_method_1_code
def yX2_init : MethodName := ⟨RX2, "<init>", "()V"⟩
abbrev cX2_keepAll : ByteArray := prog_4_method_2_code
def yX2_keepAll : MethodName := ⟨RX2, "keepAll", "(LCobwebLibrary$Plan;LCobwebLibrary$Shelves;LCobwebLibrary$Sentence;)V"⟩
abbrev cX2_giveAll : ByteArray := prog_4_method_3_code
def yX2_giveAll : MethodName := ⟨RX2, "giveAll", "(LCobwebLibrary$Plan;LCobwebLibrary$Shelves;LCobwebLibrary$Sentence;)V"⟩
def RX3 : String := "CobwebLibrary$Life"
def TX3 : u_T := fun k => match k with
  | 0 => ("CobwebLibrary$Life", "isTold", "Z", false)
  | 1 => ("CobwebLibrary$Life", "why", "I", false)
  | 2 => ("CobwebLibrary$Life", "right", "I", false)
  | 3 => ("CobwebLibrary$Life", "dayThen", "I", false)
  | 4 => ("CobwebLibrary$Life", "lawsThen", "I", false)
  | 5 => ("CobwebLibrary$Life", "size", "I", false)
  | 6 => ("CobwebLibrary$Life", "acts", "[I", true)
  | 7 => ("CobwebLibrary$Life", "targets", "[I", true)
  | 8 => ("CobwebLibrary$Life", "cellsX", "[I", true)
  | _ => ("CobwebLibrary$Life", "cellsY", "[I", true)
def tyX3 : Nat → FieldType := fun k => match k with
  | 0 => .boolean
  | 1 => .int
  | 2 => .int
  | 3 => .int
  | 4 => .int
  | 5 => .int
  | 6 => .array .int
  | 7 => .array .int
  | 8 => .array .int
  | _ => .array .int
abbrev wsX30 : List Cond := u_ws RX3 TX3 10
theorem nmX3 : ∀ a, a < 10 → ∀ b, b < 10 → a ≠ b → (TX3 a).2.1 ≠ (TX3 b).2.1 := by decide +kernel
theorem tyX3_ok : ∀ k, k < 10 → parseFieldDescriptor (TX3 k).2.2.1 = some (tyX3 k) := by decide +kernel
abbrev cX3_init : ByteArray := prog_5_method_1_code
def yX3_init : MethodName := ⟨RX3, "<init>", "()V"⟩
abbrev cX3_readFrom : ByteArray := prog_5_method_2_code
def yX3_readFrom : MethodName := ⟨RX3, "readFrom", "(LCobwebLibrary$Tape;LCobwebLibrary$Plan;)V"⟩
abbrev cX3_readLine : ByteArray := prog_5_method_3_code
def yX3_readLine : MethodName := ⟨RX3, "readLine", "(LCobwebLibrary$Tape;LCobwebLibrary$Plan;)Z"⟩
abbrev cX3_readTarget : ByteArray := prog_5_method_4_code
def yX3_readTarget : MethodName := ⟨RX3, "readTarget", "(LCobwebLibrary$Tape;LCobwebLibrary$Plan;I)Z"⟩
abbrev cX3_readCell : ByteArray := prog_5_method_5_code
def yX3_readCell : MethodName := ⟨RX3, "readCell", "(LCobwebLibrary$Tape;)Z"⟩
abbrev cX3_goThrough : ByteArray := prog_5_method_6_code
def yX3_goThrough : MethodName := ⟨RX3, "goThrough", "(LCobwebLibrary$Plan;LCobwebLibrary$Shelves;)V"⟩
abbrev cX3_goOne : ByteArray := prog_5_method_7_code
def yX3_goOne : MethodName := ⟨RX3, "goOne", "(LCobwebLibrary$Plan;LCobwebLibrary$Shelves;I)I"⟩
abbrev cX3_whyFrom : ByteArray := prog_5_method_8_code
def yX3_whyFrom : MethodName := ⟨RX3, "whyFrom", "(II)I"⟩
def RX4 : String := "CobwebLibrary$Past"
def TX4 : u_T := fun k => match k with
  | 0 => ("CobwebLibrary$Past", "size", "I", false)
  | 1 => ("CobwebLibrary$Past", "next", "I", false)
  | _ => ("CobwebLibrary$Past", "kept", "[LCobwebLibrary$Shelves;", true)
def tyX4 : Nat → FieldType := fun k => match k with
  | 0 => .int
  | 1 => .int
  | _ => .array (.object "CobwebLibrary$Shelves")
abbrev wsX40 : List Cond := u_ws RX4 TX4 3
theorem nmX4 : ∀ a, a < 3 → ∀ b, b < 3 → a ≠ b → (TX4 a).2.1 ≠ (TX4 b).2.1 := by decide +kernel
theorem tyX4_ok : ∀ k, k < 3 → parseFieldDescriptor (TX4 k).2.2.1 = some (tyX4 k) := by decide +kernel
abbrev cX4_init : ByteArray := prog_6_method_1_code
def yX4_init : MethodName := ⟨RX4, "<init>", "()V"⟩
abbrev cX4_forget : ByteArray := prog_6_method_2_code
def yX4_forget : MethodName := ⟨RX4, "forget", "()V"⟩
abbrev cX4_keepOne : ByteArray := prog_6_method_3_code
def yX4_keepOne : MethodName := ⟨RX4, "keepOne", "(LCobwebLibrary$Shelves;)V"⟩
abbrev cX4_giveBack : ByteArray := prog_6_method_4_code
def yX4_giveBack : MethodName := ⟨RX4, "giveBack", "(LCobwebLibrary$Shelves;)Z"⟩
def RX5 : String := "CobwebLibrary$Paths"
def TX5 : u_T := fun k => match k with
  | 0 => ("CobwebLibrary$Paths", "way", "[I", true)
  | 1 => ("CobwebLibrary$Paths", "waySize", "I", false)
  | 2 => ("CobwebLibrary$Paths", "tornSteps", "I", false)
  | 3 => ("CobwebLibrary$Paths", "rings", "[I", true)
  | 4 => ("CobwebLibrary$Paths", "hanging", "[I", true)
  | _ => ("CobwebLibrary$Paths", "costs", "[I", true)
def tyX5 : Nat → FieldType := fun k => match k with
  | 0 => .array .int
  | 1 => .int
  | 2 => .int
  | 3 => .array .int
  | 4 => .array .int
  | _ => .array .int
abbrev wsX50 : List Cond := u_ws RX5 TX5 6
theorem nmX5 : ∀ a, a < 6 → ∀ b, b < 6 → a ≠ b → (TX5 a).2.1 ≠ (TX5 b).2.1 := by decide +kernel
theorem tyX5_ok : ∀ k, k < 6 → parseFieldDescriptor (TX5 k).2.2.1 = some (tyX5 k) := by decide +kernel
abbrev cX5_init : ByteArray := prog_7_method_1_code
def yX5_init : MethodName := ⟨RX5, "<init>", "()V"⟩
abbrev cX5_findWay : ByteArray := prog_7_method_2_code
def yX5_findWay : MethodName := ⟨RX5, "findWay", "(LCobwebLibrary$Plan;LCobwebLibrary$Shelves;II)I"⟩
abbrev cX5_ringOf : ByteArray := prog_7_method_3_code
def yX5_ringOf : MethodName := ⟨RX5, "ringOf", "(LCobwebLibrary$Plan;LCobwebLibrary$Shelves;II)I"⟩
abbrev cX5_findTorn : ByteArray := prog_7_method_4_code
def yX5_findTorn : MethodName := ⟨RX5, "findTorn", "(LCobwebLibrary$Plan;LCobwebLibrary$Shelves;I)I"⟩
abbrev cX5_cellPlace : ByteArray := prog_7_method_5_code
def yX5_cellPlace : MethodName := ⟨RX5, "cellPlace", "(II)I"⟩
abbrev cX5_hangThreads : ByteArray := prog_7_method_6_code
def yX5_hangThreads : MethodName := ⟨RX5, "hangThreads", "(LCobwebLibrary$Plan;LCobwebLibrary$Shelves;)V"⟩
abbrev cX5_hangOne : ByteArray := prog_7_method_7_code
def yX5_hangOne : MethodName := ⟨RX5, "hangOne", "(LCobwebLibrary$Shelves;III)V"⟩
abbrev cX5_spreadCosts : ByteArray := prog_7_method_8_code
def yX5_spreadCosts : MethodName := ⟨RX5, "spreadCosts", "(LCobwebLibrary$Plan;)Z"⟩
abbrev cX5_costAt : ByteArray := prog_7_method_9_code
def yX5_costAt : MethodName := ⟨RX5, "costAt", "(LCobwebLibrary$Plan;II)I"⟩
def RX6 : String := "CobwebLibrary$Plan"
def TX6 : u_T := fun k => match k with
  | 0 => ("CobwebLibrary$Plan", "wide", "I", false)
  | 1 => ("CobwebLibrary$Plan", "high", "I", false)
  | 2 => ("CobwebLibrary$Plan", "law", "I", false)
  | 3 => ("CobwebLibrary$Plan", "spin", "I", false)
  | 4 => ("CobwebLibrary$Plan", "line", "I", false)
  | 5 => ("CobwebLibrary$Plan", "draught", "I", false)
  | 6 => ("CobwebLibrary$Plan", "books", "I", false)
  | 7 => ("CobwebLibrary$Plan", "rare", "I", false)
  | 8 => ("CobwebLibrary$Plan", "quarrels", "[I", true)
  | 9 => ("CobwebLibrary$Plan", "nameSizes", "[I", true)
  | _ => ("CobwebLibrary$Plan", "names", "[I", true)
def tyX6 : Nat → FieldType := fun k => match k with
  | 0 => .int
  | 1 => .int
  | 2 => .int
  | 3 => .int
  | 4 => .int
  | 5 => .int
  | 6 => .int
  | 7 => .int
  | 8 => .array .int
  | 9 => .array .int
  | _ => .array .int
abbrev wsX60 : List Cond := u_ws RX6 TX6 11
theorem nmX6 : ∀ a, a < 11 → ∀ b, b < 11 → a ≠ b → (TX6 a).2.1 ≠ (TX6 b).2.1 := by decide +kernel
theorem tyX6_ok : ∀ k, k < 11 → parseFieldDescriptor (TX6 k).2.2.1 = some (tyX6 k) := by decide +kernel
abbrev cX6_init : ByteArray := prog_8_method_1_code
def yX6_init : MethodName := ⟨RX6, "<init>", "()V"⟩
abbrev cX6_empty : ByteArray := prog_8_method_2_code
def yX6_empty : MethodName := ⟨RX6, "empty", "()V"⟩
abbrev cX6_copyFrom : ByteArray := prog_8_method_3_code
def yX6_copyFrom : MethodName := ⟨RX6, "copyFrom", "(LCobwebLibrary$Plan;)V"⟩
abbrev cX6_hasBook : ByteArray := prog_8_method_4_code
def yX6_hasBook : MethodName := ⟨RX6, "hasBook", "(I)Z"⟩
abbrev cX6_hasRow : ByteArray := prog_8_method_5_code
def yX6_hasRow : MethodName := ⟨RX6, "hasRow", "(I)Z"⟩
abbrev cX6_hasCell : ByteArray := prog_8_method_6_code
def yX6_hasCell : MethodName := ⟨RX6, "hasCell", "(II)Z"⟩
abbrev cX6_reading : ByteArray := prog_8_method_7_code
def yX6_reading : MethodName := ⟨RX6, "reading", "(I)I"⟩
abbrev cX6_setNumber : ByteArray := prog_8_method_8_code
def yX6_setNumber : MethodName := ⟨RX6, "setNumber", "(II)V"⟩
abbrev cX6_noteName : ByteArray := prog_8_method_9_code
def yX6_noteName : MethodName := ⟨RX6, "noteName", "(LCobwebLibrary$Tape;)V"⟩
abbrev cX6_bookNamed : ByteArray := prog_8_method_10_code
def yX6_bookNamed : MethodName := ⟨RX6, "bookNamed", "(LCobwebLibrary$Tape;)I"⟩
abbrev cX6_isNamed : ByteArray := prog_8_method_11_code
def yX6_isNamed : MethodName := ⟨RX6, "isNamed", "(LCobwebLibrary$Tape;I)Z"⟩
abbrev cX6_bookTold : ByteArray := prog_8_method_12_code
def yX6_bookTold : MethodName := ⟨RX6, "bookTold", "(LCobwebLibrary$Tape;)I"⟩
def RX7 : String := "CobwebLibrary$Sentence"
def TX7 : u_T := fun k => match k with
  | 0 => ("CobwebLibrary$Sentence", "isTold", "Z", false)
  | 1 => ("CobwebLibrary$Sentence", "ones", "I", false)
  | 2 => ("CobwebLibrary$Sentence", "size", "I", false)
  | 3 => ("CobwebLibrary$Sentence", "words", "[I", true)
  | 4 => ("CobwebLibrary$Sentence", "signs", "[I", true)
  | 5 => ("CobwebLibrary$Sentence", "values", "[I", true)
  | _ => ("CobwebLibrary$Sentence", "stack", "[I", true)
def tyX7 : Nat → FieldType := fun k => match k with
  | 0 => .boolean
  | 1 => .int
  | 2 => .int
  | 3 => .array .int
  | 4 => .array .int
  | 5 => .array .int
  | _ => .array .int
abbrev wsX70 : List Cond := u_ws RX7 TX7 7
theorem nmX7 : ∀ a, a < 7 → ∀ b, b < 7 → a ≠ b → (TX7 a).2.1 ≠ (TX7 b).2.1 := by decide +kernel
theorem tyX7_ok : ∀ k, k < 7 → parseFieldDescriptor (TX7 k).2.2.1 = some (tyX7 k) := by decide +kernel
abbrev cX7_init : ByteArray := prog_9_method_1_code
def yX7_init : MethodName := ⟨RX7, "<init>", "()V"⟩
abbrev cX7_forget : ByteArray := prog_9_method_2_code
def yX7_forget : MethodName := ⟨RX7, "forget", "()V"⟩
abbrev cX7_copyFrom : ByteArray := prog_9_method_3_code
def yX7_copyFrom : MethodName := ⟨RX7, "copyFrom", "(LCobwebLibrary$Sentence;)V"⟩
abbrev cX7_readFrom : ByteArray := prog_9_method_4_code
def yX7_readFrom : MethodName := ⟨RX7, "readFrom", "(LCobwebLibrary$Tape;LCobwebLibrary$Plan;)V"⟩
abbrev cX7_readCond : ByteArray := prog_9_method_5_code
def yX7_readCond : MethodName := ⟨RX7, "readCond", "(LCobwebLibrary$Tape;LCobwebLibrary$Plan;I)Z"⟩
abbrev cX7_readAll : ByteArray := prog_9_method_6_code
def yX7_readAll : MethodName := ⟨RX7, "readAll", "(LCobwebLibrary$Tape;LCobwebLibrary$Plan;I)Z"⟩
abbrev cX7_readOne : ByteArray := prog_9_method_7_code
def yX7_readOne : MethodName := ⟨RX7, "readOne", "(LCobwebLibrary$Tape;LCobwebLibrary$Plan;I)Z"⟩
abbrev cX7_beginsOne : ByteArray := prog_9_method_8_code
def yX7_beginsOne : MethodName := ⟨RX7, "beginsOne", "(I)Z"⟩
abbrev cX7_readTest : ByteArray := prog_9_method_9_code
def yX7_readTest : MethodName := ⟨RX7, "readTest", "(LCobwebLibrary$Tape;LCobwebLibrary$Plan;I)Z"⟩
abbrev cX7_put : ByteArray := prog_9_method_10_code
def yX7_put : MethodName := ⟨RX7, "put", "(III)V"⟩
abbrev cX7_booksSaid : ByteArray := prog_9_method_11_code
def yX7_booksSaid : MethodName := ⟨RX7, "booksSaid", "(LCobwebLibrary$Plan;LCobwebLibrary$Shelves;)I"⟩
abbrev cX7_booksOfTest : ByteArray := prog_9_method_12_code
def yX7_booksOfTest : MethodName := ⟨RX7, "booksOfTest", "(LCobwebLibrary$Plan;LCobwebLibrary$Shelves;I)I"⟩
abbrev cX7_booksMeasured : ByteArray := prog_9_method_13_code
def yX7_booksMeasured : MethodName := ⟨RX7, "booksMeasured", "(LCobwebLibrary$Plan;LCobwebLibrary$Shelves;I)I"⟩
abbrev cX7_isSo : ByteArray := prog_9_method_14_code
def yX7_isSo : MethodName := ⟨RX7, "isSo", "(III)Z"⟩
def RX8 : String := "CobwebLibrary$Shelves"
def TX8 : u_T := fun k => match k with
  | 0 => ("CobwebLibrary$Shelves", "x", "[I", true)
  | 1 => ("CobwebLibrary$Shelves", "y", "[I", true)
  | 2 => ("CobwebLibrary$Shelves", "web", "[I", true)
  | 3 => ("CobwebLibrary$Shelves", "asks", "[I", true)
  | 4 => ("CobwebLibrary$Shelves", "threads", "[I", true)
  | 5 => ("CobwebLibrary$Shelves", "today", "I", false)
  | 6 => ("CobwebLibrary$Shelves", "day", "I", false)
  | _ => ("CobwebLibrary$Shelves", "seen", "[I", true)
def tyX8 : Nat → FieldType := fun k => match k with
  | 0 => .array .int
  | 1 => .array .int
  | 2 => .array .int
  | 3 => .array .int
  | 4 => .array .int
  | 5 => .int
  | 6 => .int
  | _ => .array .int
abbrev wsX80 : List Cond := u_ws RX8 TX8 8
theorem nmX8 : ∀ a, a < 8 → ∀ b, b < 8 → a ≠ b → (TX8 a).2.1 ≠ (TX8 b).2.1 := by decide +kernel
theorem tyX8_ok : ∀ k, k < 8 → parseFieldDescriptor (TX8 k).2.2.1 = some (tyX8 k) := by decide +kernel
abbrev cX8_init : ByteArray := prog_10_method_1_code
def yX8_init : MethodName := ⟨RX8, "<init>", "()V"⟩
abbrev cX8_empty : ByteArray := prog_10_method_2_code
def yX8_empty : MethodName := ⟨RX8, "empty", "()V"⟩
abbrev cX8_copyFrom : ByteArray := prog_10_method_3_code
def yX8_copyFrom : MethodName := ⟨RX8, "copyFrom", "(LCobwebLibrary$Shelves;)V"⟩
abbrev cX8_hasDays : ByteArray := prog_10_method_4_code
def yX8_hasDays : MethodName := ⟨RX8, "hasDays", "(I)Z"⟩
abbrev cX8_bookIn : ByteArray := prog_10_method_5_code
def yX8_bookIn : MethodName := ⟨RX8, "bookIn", "(III)I"⟩
abbrev cX8_seenFrom : ByteArray := prog_10_method_6_code
def yX8_seenFrom : MethodName := ⟨RX8, "seenFrom", "(II)I"⟩
abbrev cX8_isInSight : ByteArray := prog_10_method_7_code
def yX8_isInSight : MethodName := ⟨RX8, "isInSight", "(III)Z"⟩
abbrev cX8_standsBetween : ByteArray := prog_10_method_8_code
def yX8_standsBetween : MethodName := ⟨RX8, "standsBetween", "(III)Z"⟩
abbrev cX8_booksReading : ByteArray := prog_10_method_9_code
def yX8_booksReading : MethodName := ⟨RX8, "booksReading", "(LCobwebLibrary$Plan;I)I"⟩
abbrev cX8_booksLawful : ByteArray := prog_10_method_10_code
def yX8_booksLawful : MethodName := ⟨RX8, "booksLawful", "(LCobwebLibrary$Plan;)I"⟩
abbrev cX8_linesOf : ByteArray := prog_10_method_11_code
def yX8_linesOf : MethodName := ⟨RX8, "linesOf", "(LCobwebLibrary$Plan;I)I"⟩
abbrev cX8_following : ByteArray := prog_10_method_12_code
def yX8_following : MethodName := ⟨RX8, "following", "(LCobwebLibrary$Plan;I)I"⟩
abbrev cX8_setThread : ByteArray := prog_10_method_13_code
def yX8_setThread : MethodName := ⟨RX8, "setThread", "(III)V"⟩
abbrev cX8_hasThread : ByteArray := prog_10_method_14_code
def yX8_hasThread : MethodName := ⟨RX8, "hasThread", "(I)Z"⟩
abbrev cX8_cutThreads : ByteArray := prog_10_method_15_code
def yX8_cutThreads : MethodName := ⟨RX8, "cutThreads", "(I)V"⟩
abbrev cX8_askFor : ByteArray := prog_10_method_16_code
def yX8_askFor : MethodName := ⟨RX8, "askFor", "(I)I"⟩
abbrev cX8_sweepRow : ByteArray := prog_10_method_17_code
def yX8_sweepRow : MethodName := ⟨RX8, "sweepRow", "(II)I"⟩
abbrev cX8_carry : ByteArray := prog_10_method_18_code
def yX8_carry : MethodName := ⟨RX8, "carry", "(IIII)I"⟩
abbrev cX8_passDays : ByteArray := prog_10_method_19_code
def yX8_passDays : MethodName := ⟨RX8, "passDays", "(LCobwebLibrary$Plan;II)I"⟩
abbrev cX8_growWebs : ByteArray := prog_10_method_20_code
def yX8_growWebs : MethodName := ⟨RX8, "growWebs", "(LCobwebLibrary$Plan;)V"⟩
abbrev cX8_growThreads : ByteArray := prog_10_method_21_code
def yX8_growThreads : MethodName := ⟨RX8, "growThreads", "(I)V"⟩
abbrev cX8_blow : ByteArray := prog_10_method_22_code
def yX8_blow : MethodName := ⟨RX8, "blow", "(LCobwebLibrary$Plan;I)I"⟩
abbrev cX8_webLater : ByteArray := prog_10_method_23_code
def yX8_webLater : MethodName := ⟨RX8, "webLater", "(LCobwebLibrary$Plan;II)I"⟩
def RX9 : String := "CobwebLibrary$Tape"
def TX9 : u_T := fun k => match k with
  | 0 => ("CobwebLibrary$Tape", "bytes", "[I", true)
  | 1 => ("CobwebLibrary$Tape", "length", "I", false)
  | 2 => ("CobwebLibrary$Tape", "kind", "I", false)
  | 3 => ("CobwebLibrary$Tape", "place", "I", false)
  | 4 => ("CobwebLibrary$Tape", "size", "I", false)
  | 5 => ("CobwebLibrary$Tape", "value", "I", false)
  | 6 => ("CobwebLibrary$Tape", "word", "I", false)
  | 7 => ("CobwebLibrary$Tape", "faultKind", "I", false)
  | 8 => ("CobwebLibrary$Tape", "faultPlace", "I", false)
  | 9 => ("CobwebLibrary$Tape", "limit", "I", false)
  | _ => ("CobwebLibrary$Tape", "next", "I", false)
def tyX9 : Nat → FieldType := fun k => match k with
  | 0 => .array .int
  | 1 => .int
  | 2 => .int
  | 3 => .int
  | 4 => .int
  | 5 => .int
  | 6 => .int
  | 7 => .int
  | 8 => .int
  | 9 => .int
  | _ => .int
abbrev wsX90 : List Cond := u_ws RX9 TX9 11
theorem nmX9 : ∀ a, a < 11 → ∀ b, b < 11 → a ≠ b → (TX9 a).2.1 ≠ (TX9 b).2.1 := by decide +kernel
theorem tyX9_ok : ∀ k, k < 11 → parseFieldDescriptor (TX9 k).2.2.1 = some (tyX9 k) := by decide +kernel
abbrev cX9_init : ByteArray := prog_11_method_1_code
def yX9_init : MethodName := ⟨RX9, "<init>", "()V"⟩
abbrev cX9_addNumber : ByteArray := prog_11_method_2_code
def yX9_addNumber : MethodName := ⟨RX9, "addNumber", "(I)V"⟩
abbrev cX9_open : ByteArray := prog_11_method_3_code
def yX9_open : MethodName := ⟨RX9, "open", "(I)V"⟩
abbrev cX9_advance : ByteArray := prog_11_method_4_code
def yX9_advance : MethodName := ⟨RX9, "advance", "()V"⟩
abbrev cX9_readRun : ByteArray := prog_11_method_5_code
def yX9_readRun : MethodName := ⟨RX9, "readRun", "()V"⟩
abbrev cX9_wordNumber : ByteArray := prog_11_method_6_code
def yX9_wordNumber : MethodName := ⟨RX9, "wordNumber", "()I"⟩
abbrev cX9_fail : ByteArray := prog_11_method_7_code
def yX9_fail : MethodName := ⟨RX9, "fail", "(I)Z"⟩
abbrev cX9_isName : ByteArray := prog_11_method_8_code
def yX9_isName : MethodName := ⟨RX9, "isName", "()Z"⟩
abbrev cX9_hasNumber : ByteArray := prog_11_method_9_code
def yX9_hasNumber : MethodName := ⟨RX9, "hasNumber", "(II)Z"⟩
abbrev cX9_passSign : ByteArray := prog_11_method_10_code
def yX9_passSign : MethodName := ⟨RX9, "passSign", "(I)Z"⟩
abbrev cX9_closes : ByteArray := prog_11_method_11_code
def yX9_closes : MethodName := ⟨RX9, "closes", "()Z"⟩
abbrev cX9_isBlank : ByteArray := prog_11_method_12_code
def yX9_isBlank : MethodName := ⟨RX9, "isBlank", "(I)Z"⟩
abbrev cX9_isLetter : ByteArray := prog_11_method_13_code
def yX9_isLetter : MethodName := ⟨RX9, "isLetter", "(I)Z"⟩
abbrev cX9_isDigit : ByteArray := prog_11_method_14_code
def yX9_isDigit : MethodName := ⟨RX9, "isDigit", "(I)Z"⟩
abbrev cX9_isSign : ByteArray := prog_11_method_15_code
def yX9_isSign : MethodName := ⟨RX9, "isSign", "(I)Z"⟩
def RX10 : String := "CobwebLibrary"
def TX10 : u_T := fun k => match k with
  | 0 => ("CobwebLibrary", "tape", "LCobwebLibrary$Tape;", true)
  | 1 => ("CobwebLibrary", "plan", "LCobwebLibrary$Plan;", true)
  | 2 => ("CobwebLibrary", "shelves", "LCobwebLibrary$Shelves;", true)
  | 3 => ("CobwebLibrary", "trial", "LCobwebLibrary$Shelves;", true)
  | 4 => ("CobwebLibrary", "founding", "LCobwebLibrary$Founding;", true)
  | 5 => ("CobwebLibrary", "lived", "LCobwebLibrary$Life;", true)
  | 6 => ("CobwebLibrary", "spoken", "LCobwebLibrary$Sentence;", true)
  | 7 => ("CobwebLibrary", "draft", "LCobwebLibrary$Sentence;", true)
  | 8 => ("CobwebLibrary", "past", "LCobwebLibrary$Past;", true)
  | 9 => ("CobwebLibrary", "images", "[LCobwebLibrary$Image;", true)
  | 10 => ("CobwebLibrary", "foresight", "LCobwebLibrary$Foresight;", true)
  | 11 => ("CobwebLibrary", "paths", "LCobwebLibrary$Paths;", true)
  | 12 => ("CobwebLibrary", "card", "[I", true)
  | 13 => ("CobwebLibrary", "cardSize", "I", false)
  | _ => ("CobwebLibrary", "faultKind", "I", false)
def tyX10 : Nat → FieldType := fun k => match k with
  | 0 => .object "CobwebLibrary$Tape"
  | 1 => .object "CobwebLibrary$Plan"
  | 2 => .object "CobwebLibrary$Shelves"
  | 3 => .object "CobwebLibrary$Shelves"
  | 4 => .object "CobwebLibrary$Founding"
  | 5 => .object "CobwebLibrary$Life"
  | 6 => .object "CobwebLibrary$Sentence"
  | 7 => .object "CobwebLibrary$Sentence"
  | 8 => .object "CobwebLibrary$Past"
  | 9 => .array (.object "CobwebLibrary$Image")
  | 10 => .object "CobwebLibrary$Foresight"
  | 11 => .object "CobwebLibrary$Paths"
  | 12 => .array .int
  | 13 => .int
  | _ => .int
abbrev wsX100 : List Cond := u_ws RX10 TX10 15
theorem nmX10 : ∀ a, a < 15 → ∀ b, b < 15 → a ≠ b → (TX10 a).2.1 ≠ (TX10 b).2.1 := by decide +kernel
theorem tyX10_ok : ∀ k, k < 15 → parseFieldDescriptor (TX10 k).2.2.1 = some (tyX10 k) := by decide +kernel
abbrev cX10_init : ByteArray := prog_1_method_1_code
def yX10_init : MethodName := ⟨RX10, "<init>", "()V"⟩
abbrev cX10_feed : ByteArray := prog_1_method_2_code
def yX10_feed : MethodName := ⟨RX10, "feed", "(IIIII)I"⟩
abbrev cX10_end : ByteArray := prog_1_method_3_code
def yX10_end : MethodName := ⟨RX10, "end", "(I)Z"⟩
abbrev cX10_library : ByteArray := prog_1_method_4_code
def yX10_library : MethodName := ⟨RX10, "library", "()I"⟩
abbrev cX10_fault : ByteArray := prog_1_method_5_code
def yX10_fault : MethodName := ⟨RX10, "fault", "()I"⟩
abbrev cX10_sentence : ByteArray := prog_1_method_6_code
def yX10_sentence : MethodName := ⟨RX10, "sentence", "()I"⟩
abbrev cX10_said : ByteArray := prog_1_method_7_code
def yX10_said : MethodName := ⟨RX10, "said", "(I)I"⟩
abbrev cX10_life : ByteArray := prog_1_method_8_code
def yX10_life : MethodName := ⟨RX10, "life", "(I)I"⟩
abbrev cX10_told : ByteArray := prog_1_method_9_code
def yX10_told : MethodName := ⟨RX10, "told", "(I)I"⟩
abbrev cX10_book : ByteArray := prog_1_method_10_code
def yX10_book : MethodName := ⟨RX10, "book", "(II)I"⟩
abbrev cX10_thread : ByteArray := prog_1_method_11_code
def yX10_thread : MethodName := ⟨RX10, "thread", "(II)I"⟩
abbrev cX10_sight : ByteArray := prog_1_method_12_code
def yX10_sight : MethodName := ⟨RX10, "sight", "(I)I"⟩
abbrev cX10_at : ByteArray := prog_1_method_13_code
def yX10_at : MethodName := ⟨RX10, "at", "(II)I"⟩
abbrev cX10_now : ByteArray := prog_1_method_14_code
def yX10_now : MethodName := ⟨RX10, "now", "(I)I"⟩
abbrev cX10_count : ByteArray := prog_1_method_15_code
def yX10_count : MethodName := ⟨RX10, "count", "(I)I"⟩
abbrev cX10_quarrels : ByteArray := prog_1_method_16_code
def yX10_quarrels : MethodName := ⟨RX10, "quarrels", "()I"⟩
abbrev cX10_quarrel : ByteArray := prog_1_method_17_code
def yX10_quarrel : MethodName := ⟨RX10, "quarrel", "(I)I"⟩
abbrev cX10_catalogue : ByteArray := prog_1_method_18_code
def yX10_catalogue : MethodName := ⟨RX10, "catalogue", "(I)I"⟩
abbrev cX10_byteAt : ByteArray := prog_1_method_19_code
def yX10_byteAt : MethodName := ⟨RX10, "byteAt", "(I)I"⟩
abbrev cX10_ask : ByteArray := prog_1_method_20_code
def yX10_ask : MethodName := ⟨RX10, "ask", "(I)I"⟩
abbrev cX10_broom : ByteArray := prog_1_method_21_code
def yX10_broom : MethodName := ⟨RX10, "broom", "(I)I"⟩
abbrev cX10_move : ByteArray := prog_1_method_22_code
def yX10_move : MethodName := ⟨RX10, "move", "(III)I"⟩
abbrev cX10_days : ByteArray := prog_1_method_23_code
def yX10_days : MethodName := ⟨RX10, "days", "(II)I"⟩
abbrev cX10_undo : ByteArray := prog_1_method_24_code
def yX10_undo : MethodName := ⟨RX10, "undo", "()I"⟩
abbrev cX10_image : ByteArray := prog_1_method_25_code
def yX10_image : MethodName := ⟨RX10, "image", "(I)Z"⟩
abbrev cX10_restore : ByteArray := prog_1_method_26_code
def yX10_restore : MethodName := ⟨RX10, "restore", "(I)Z"⟩
abbrev cX10_when : ByteArray := prog_1_method_27_code
def yX10_when : MethodName := ⟨RX10, "when", "(I)I"⟩
abbrev cX10_follow : ByteArray := prog_1_method_28_code
def yX10_follow : MethodName := ⟨RX10, "follow", "(I)I"⟩
abbrev cX10_way : ByteArray := prog_1_method_29_code
def yX10_way : MethodName := ⟨RX10, "way", "(II)I"⟩
abbrev cX10_wayAt : ByteArray := prog_1_method_30_code
def yX10_wayAt : MethodName := ⟨RX10, "wayAt", "(I)I"⟩
abbrev cX10_keep : ByteArray := prog_1_method_31_code
def yX10_keep : MethodName := ⟨RX10, "keep", "(I)I"⟩
abbrev cX10_keepAt : ByteArray := prog_1_method_32_code
def yX10_keepAt : MethodName := ⟨RX10, "keepAt", "(I)I"⟩
abbrev cX10_asked : ByteArray := prog_1_method_33_code
def yX10_asked : MethodName := ⟨RX10, "asked", "(I)I"⟩
abbrev cX10_askedAt : ByteArray := prog_1_method_34_code
def yX10_askedAt : MethodName := ⟨RX10, "askedAt", "(I)I"⟩
abbrev cX10_spun : ByteArray := prog_1_method_35_code
def yX10_spun : MethodName := ⟨RX10, "spun", "()I"⟩
abbrev cX10_torn : ByteArray := prog_1_method_36_code
def yX10_torn : MethodName := ⟨RX10, "torn", "(I)I"⟩
abbrev cX10_steps : ByteArray := prog_1_method_37_code
def yX10_steps : MethodName := ⟨RX10, "steps", "()I"⟩
abbrev cX10_turns : ByteArray := prog_1_method_38_code
def yX10_turns : MethodName := ⟨RX10, "turns", "(I)I"⟩
abbrev cX10_turn : ByteArray := prog_1_method_39_code
def yX10_turn : MethodName := ⟨RX10, "turn", "()I"⟩
abbrev cX10_odds : ByteArray := prog_1_method_40_code
def yX10_odds : MethodName := ⟨RX10, "odds", "(III)I"⟩
abbrev cX10_takeIfDone : ByteArray := prog_1_method_41_code
def yX10_takeIfDone : MethodName := ⟨RX10, "takeIfDone", "(I)I"⟩
abbrev cX10_takeTrial : ByteArray := prog_1_method_42_code
def yX10_takeTrial : MethodName := ⟨RX10, "takeTrial", "()V"⟩
abbrev cX10_quarrelsAbove : ByteArray := prog_1_method_43_code
def yX10_quarrelsAbove : MethodName := ⟨RX10, "quarrelsAbove", "(I)I"⟩
abbrev cX10_putText : ByteArray := prog_1_method_44_code
def yX10_putText : MethodName := ⟨RX10, "putText", "(Ljava/lang/String;)V"⟩
abbrev cX10_putByte : ByteArray := prog_1_method_45_code
def yX10_putByte : MethodName := ⟨RX10, "putByte", "(I)V"⟩
abbrev cX10_bitOf : ByteArray := prog_1_method_46_code
def yX10_bitOf : MethodName := ⟨RX10, "bitOf", "(II)I"⟩
abbrev cX10_sizeOf : ByteArray := prog_1_method_47_code
def yX10_sizeOf : MethodName := ⟨RX10, "sizeOf", "(I)I"⟩
abbrev cX10_bookOf : ByteArray := prog_1_method_48_code
def yX10_bookOf : MethodName := ⟨RX10, "bookOf", "(II)I"⟩
abbrev cX10_sumOf : ByteArray := prog_1_method_49_code
def yX10_sumOf : MethodName := ⟨RX10, "sumOf", "([I)I"⟩
abbrev cX10_pairPlace : ByteArray := prog_1_method_50_code
def yX10_pairPlace : MethodName := ⟨RX10, "pairPlace", "(II)I"⟩
abbrev cX10_seedBehind : ByteArray := prog_1_method_51_code
def yX10_seedBehind : MethodName := ⟨RX10, "seedBehind", "(I)I"⟩
abbrev cX10_drawnOf : ByteArray := prog_1_method_52_code
def yX10_drawnOf : MethodName := ⟨RX10, "drawnOf", "(II)I"⟩
abbrev cX10_isBetween : ByteArray := prog_1_method_53_code
def yX10_isBetween : MethodName := ⟨RX10, "isBetween", "(III)Z"⟩
def RX11 : String := "CobwebLibraryModel"
def TX11 : u_T := fun k => match k with
  | 0 => ("CobwebLibraryModel", "thrown", "I", false)
  | 1 => ("CobwebLibraryModel", "tape", "[B", true)
  | 2 => ("CobwebLibraryModel", "length", "I", false)
  | 3 => ("CobwebLibraryModel", "size", "I", false)
  | 4 => ("CobwebLibraryModel", "p", "I", false)
  | 5 => ("CobwebLibraryModel", "limit", "I", false)
  | 6 => ("CobwebLibraryModel", "s", "[I", true)
  | 7 => ("CobwebLibraryModel", "h", "[I", true)
  | 8 => ("CobwebLibraryModel", "read", "[I", true)
  | 9 => ("CobwebLibraryModel", "names", "[J", true)
  | 10 => ("CobwebLibraryModel", "reserved", "[J", true)
  | 11 => ("CobwebLibraryModel", "token", "I", false)
  | 12 => ("CobwebLibraryModel", "at", "I", false)
  | 13 => ("CobwebLibraryModel", "span", "I", false)
  | 14 => ("CobwebLibraryModel", "number", "I", false)
  | 15 => ("CobwebLibraryModel", "fault", "I", false)
  | 16 => ("CobwebLibraryModel", "faultAt", "I", false)
  | 17 => ("CobwebLibraryModel", "word", "J", false)
  | 18 => ("CobwebLibraryModel", "got", "I", false)
  | 19 => ("CobwebLibraryModel", "lines", "I", false)
  | 20 => ("CobwebLibraryModel", "onces", "I", false)
  | 21 => ("CobwebLibraryModel", "webs", "I", false)
  | 22 => ("CobwebLibraryModel", "one", "I", false)
  | 23 => ("CobwebLibraryModel", "two", "I", false)
  | 24 => ("CobwebLibraryModel", "seed", "I", false)
  | 25 => ("CobwebLibraryModel", "undone", "[I", true)
  | 26 => ("CobwebLibraryModel", "before", "[I", true)
  | 27 => ("CobwebLibraryModel", "undoMany", "I", false)
  | 28 => ("CobwebLibraryModel", "far", "[I", true)
  | 29 => ("CobwebLibraryModel", "wayRow", "[I", true)
  | 30 => ("CobwebLibraryModel", "wayMany", "I", false)
  | 31 => ("CobwebLibraryModel", "keptRow", "[I", true)
  | 32 => ("CobwebLibraryModel", "askedRow", "[I", true)
  | 33 => ("CobwebLibraryModel", "rares", "[I", true)
  | 34 => ("CobwebLibraryModel", "trial", "[I", true)
  | 35 => ("CobwebLibraryModel", "keptMany", "I", false)
  | 36 => ("CobwebLibraryModel", "askedMany", "I", false)
  | 37 => ("CobwebLibraryModel", "hangs", "[I", true)
  | 38 => ("CobwebLibraryModel", "paths", "[I", true)
  | 39 => ("CobwebLibraryModel", "tornSteps", "I", false)
  | 40 => ("CobwebLibraryModel", "hasTorn", "Z", false)
  | 41 => ("CobwebLibraryModel", "turnOne", "I", false)
  | 42 => ("CobwebLibraryModel", "hasTurn", "Z", false)
  | 43 => ("CobwebLibraryModel", "text", "[B", true)
  | 44 => ("CobwebLibraryModel", "textMany", "I", false)
  | 45 => ("CobwebLibraryModel", "toldMany", "I", false)
  | 46 => ("CobwebLibraryModel", "toldAt", "[I", true)
  | 47 => ("CobwebLibraryModel", "hasTold", "Z", false)
  | 48 => ("CobwebLibraryModel", "stack", "[I", true)
  | 49 => ("CobwebLibraryModel", "codes", "I", false)
  | 50 => ("CobwebLibraryModel", "ones", "I", false)
  | 51 => ("CobwebLibraryModel", "top", "I", false)
  | 52 => ("CobwebLibraryModel", "deep", "I", false)
  | 53 => ("CobwebLibraryModel", "isWhole", "Z", false)
  | 54 => ("CobwebLibraryModel", "truths", "[Z", true)
  | 55 => ("CobwebLibraryModel", "imaged", "[I", true)
  | 56 => ("CobwebLibraryModel", "namesKept", "[J", true)
  | _ => ("CobwebLibraryModel", "areKept", "[Z", true)
def tyX11 : Nat → FieldType := fun k => match k with
  | 0 => .int
  | 1 => .array .byte
  | 2 => .int
  | 3 => .int
  | 4 => .int
  | 5 => .int
  | 6 => .array .int
  | 7 => .array .int
  | 8 => .array .int
  | 9 => .array .long
  | 10 => .array .long
  | 11 => .int
  | 12 => .int
  | 13 => .int
  | 14 => .int
  | 15 => .int
  | 16 => .int
  | 17 => .long
  | 18 => .int
  | 19 => .int
  | 20 => .int
  | 21 => .int
  | 22 => .int
  | 23 => .int
  | 24 => .int
  | 25 => .array .int
  | 26 => .array .int
  | 27 => .int
  | 28 => .array .int
  | 29 => .array .int
  | 30 => .int
  | 31 => .array .int
  | 32 => .array .int
  | 33 => .array .int
  | 34 => .array .int
  | 35 => .int
  | 36 => .int
  | 37 => .array .int
  | 38 => .array .int
  | 39 => .int
  | 40 => .boolean
  | 41 => .int
  | 42 => .boolean
  | 43 => .array .byte
  | 44 => .int
  | 45 => .int
  | 46 => .array .int
  | 47 => .boolean
  | 48 => .array .int
  | 49 => .int
  | 50 => .int
  | 51 => .int
  | 52 => .int
  | 53 => .boolean
  | 54 => .array .boolean
  | 55 => .array .int
  | 56 => .array .long
  | _ => .array .boolean
abbrev wsX110 : List Cond := u_ws RX11 TX11 58
theorem nmX11 : ∀ a, a < 58 → ∀ b, b < 58 → a ≠ b → (TX11 a).2.1 ≠ (TX11 b).2.1 := by decide +kernel
theorem tyX11_ok : ∀ k, k < 58 → parseFieldDescriptor (TX11 k).2.2.1 = some (tyX11 k) := by decide +kernel
abbrev cX11_throwsIf : ByteArray := prog_13_method_2_code
def yX11_throwsIf : MethodName := ⟨RX11, "throwsIf", "(Z)Z"⟩
abbrev cX11_feed : ByteArray := prog_13_method_3_code
def yX11_feed : MethodName := ⟨RX11, "feed", "(IIIII)I"⟩
abbrev cX11_four : ByteArray := prog_13_method_4_code
def yX11_four : MethodName := ⟨RX11, "four", "(I)V"⟩
abbrev cX11_end : ByteArray := prog_13_method_5_code
def yX11_end : MethodName := ⟨RX11, "end", "(I)Z"⟩
abbrev cX11_taken : ByteArray := prog_13_method_6_code
def yX11_taken : MethodName := ⟨RX11, "taken", "(I)V"⟩
abbrev cX11_isIn : ByteArray := prog_13_method_7_code
def yX11_isIn : MethodName := ⟨RX11, "isIn", "(III)Z"⟩
abbrev cX11_bitOf : ByteArray := prog_13_method_8_code
def yX11_bitOf : MethodName := ⟨RX11, "bitOf", "(II)Z"⟩
abbrev cX11_lesser : ByteArray := prog_13_method_9_code
def yX11_lesser : MethodName := ⟨RX11, "lesser", "(II)I"⟩
abbrev cX11_greater : ByteArray := prog_13_method_10_code
def yX11_greater : MethodName := ⟨RX11, "greater", "(II)I"⟩
abbrev cX11_bits : ByteArray := prog_13_method_11_code
def yX11_bits : MethodName := ⟨RX11, "bits", "(I)I"⟩
abbrev cX11_octet : ByteArray := prog_13_method_12_code
def yX11_octet : MethodName := ⟨RX11, "octet", "(I)I"⟩
abbrev cX11_init : ByteArray := prog_13_method_13_code
def yX11_init : MethodName := ⟨RX11, "<init>", "()V"⟩
abbrev cX11_clears : ByteArray := prog_13_method_14_code
def yX11_clears : MethodName := ⟨RX11, "clears", "()V"⟩
abbrev cX11_peek : ByteArray := prog_13_method_15_code
def yX11_peek : MethodName := ⟨RX11, "peek", "()I"⟩
abbrev cX11_isSmall : ByteArray := prog_13_method_16_code
def yX11_isSmall : MethodName := ⟨RX11, "isSmall", "(I)Z"⟩
abbrev cX11_isDigit : ByteArray := prog_13_method_17_code
def yX11_isDigit : MethodName := ⟨RX11, "isDigit", "(I)Z"⟩
abbrev cX11_next : ByteArray := prog_13_method_18_code
def yX11_next : MethodName := ⟨RX11, "next", "()V"⟩
abbrev cX11_bad : ByteArray := prog_13_method_19_code
def yX11_bad : MethodName := ⟨RX11, "bad", "(I)Z"⟩
abbrev cX11_isWord : ByteArray := prog_13_method_20_code
def yX11_isWord : MethodName := ⟨RX11, "isWord", "(J)Z"⟩
abbrev cX11_isSign : ByteArray := prog_13_method_21_code
def yX11_isSign : MethodName := ⟨RX11, "isSign", "(I)Z"⟩
abbrev cX11_sign : ByteArray := prog_13_method_22_code
def yX11_sign : MethodName := ⟨RX11, "sign", "(I)Z"⟩
abbrev cX11_isName : ByteArray := prog_13_method_23_code
def yX11_isName : MethodName := ⟨RX11, "isName", "()Z"⟩
abbrev cX11_takes : ByteArray := prog_13_method_24_code
def yX11_takes : MethodName := ⟨RX11, "takes", "(II)Z"⟩
abbrev cX11_puts : ByteArray := prog_13_method_25_code
def yX11_puts : MethodName := ⟨RX11, "puts", "(III)Z"⟩
abbrev cX11_find : ByteArray := prog_13_method_26_code
def yX11_find : MethodName := ⟨RX11, "find", "(II)I"⟩
abbrev cX11_looksAt : ByteArray := prog_13_method_27_code
def yX11_looksAt : MethodName := ⟨RX11, "looksAt", "(II)Z"⟩
abbrev cX11_takesName : ByteArray := prog_13_method_28_code
def yX11_takesName : MethodName := ⟨RX11, "takesName", "(II)Z"⟩
abbrev cX11_once : ByteArray := prog_13_method_29_code
def yX11_once : MethodName := ⟨RX11, "once", "(IIII)Z"⟩
abbrev cX11_line : ByteArray := prog_13_method_30_code
def yX11_line : MethodName := ⟨RX11, "line", "()Z"⟩
abbrev cX11_readBook : ByteArray := prog_13_method_31_code
def yX11_readBook : MethodName := ⟨RX11, "readBook", "()Z"⟩
abbrev cX11_readWeb : ByteArray := prog_13_method_32_code
def yX11_readWeb : MethodName := ⟨RX11, "readWeb", "()Z"⟩
abbrev cX11_readPair : ByteArray := prog_13_method_33_code
def yX11_readPair : MethodName := ⟨RX11, "readPair", "()Z"⟩
abbrev cX11_readThread : ByteArray := prog_13_method_34_code
def yX11_readThread : MethodName := ⟨RX11, "readThread", "()Z"⟩
abbrev cX11_readQuarrel : ByteArray := prog_13_method_35_code
def yX11_readQuarrel : MethodName := ⟨RX11, "readQuarrel", "()Z"⟩
abbrev cX11_library : ByteArray := prog_13_method_36_code
def yX11_library : MethodName := ⟨RX11, "library", "()I"⟩
abbrev cX11_fault : ByteArray := prog_13_method_37_code
def yX11_fault : MethodName := ⟨RX11, "fault", "()I"⟩
abbrev cX11_isBook : ByteArray := prog_13_method_38_code
def yX11_isBook : MethodName := ⟨RX11, "isBook", "(I)Z"⟩
abbrev cX11_isCell : ByteArray := prog_13_method_39_code
def yX11_isCell : MethodName := ⟨RX11, "isCell", "(II)Z"⟩
abbrev cX11_isAsked : ByteArray := prog_13_method_40_code
def yX11_isAsked : MethodName := ⟨RX11, "isAsked", "(I)Z"⟩
abbrev cX11_threadOf : ByteArray := prog_13_method_41_code
def yX11_threadOf : MethodName := ⟨RX11, "threadOf", "(II)I"⟩
abbrev cX11_reads : ByteArray := prog_13_method_42_code
def yX11_reads : MethodName := ⟨RX11, "reads", "(I)I"⟩
abbrev cX11_linesOf : ByteArray := prog_13_method_43_code
def yX11_linesOf : MethodName := ⟨RX11, "linesOf", "(I)I"⟩
abbrev cX11_bookAt : ByteArray := prog_13_method_44_code
def yX11_bookAt : MethodName := ⟨RX11, "bookAt", "(II)I"⟩
abbrev cX11_isBetween : ByteArray := prog_13_method_45_code
def yX11_isBetween : MethodName := ⟨RX11, "isBetween", "(IIII)Z"⟩
abbrev cX11_areInSight : ByteArray := prog_13_method_46_code
def yX11_areInSight : MethodName := ⟨RX11, "areInSight", "(II)Z"⟩
abbrev cX11_sightOf : ByteArray := prog_13_method_47_code
def yX11_sightOf : MethodName := ⟨RX11, "sightOf", "(I)I"⟩
abbrev cX11_book : ByteArray := prog_13_method_48_code
def yX11_book : MethodName := ⟨RX11, "book", "(II)I"⟩
abbrev cX11_thread : ByteArray := prog_13_method_49_code
def yX11_thread : MethodName := ⟨RX11, "thread", "(II)I"⟩
abbrev cX11_sight : ByteArray := prog_13_method_50_code
def yX11_sight : MethodName := ⟨RX11, "sight", "(I)I"⟩
abbrev cX11_at : ByteArray := prog_13_method_51_code
def yX11_at : MethodName := ⟨RX11, "at", "(II)I"⟩
abbrev cX11_readSet : ByteArray := prog_13_method_52_code
def yX11_readSet : MethodName := ⟨RX11, "readSet", "(I)I"⟩
abbrev cX11_now : ByteArray := prog_13_method_53_code
def yX11_now : MethodName := ⟨RX11, "now", "(I)I"⟩
abbrev cX11_clearsThreads : ByteArray := prog_13_method_54_code
def yX11_clearsThreads : MethodName := ⟨RX11, "clearsThreads", "(I)V"⟩
abbrev cX11_asks : ByteArray := prog_13_method_55_code
def yX11_asks : MethodName := ⟨RX11, "asks", "(I)V"⟩
abbrev cX11_isDusty : ByteArray := prog_13_method_56_code
def yX11_isDusty : MethodName := ⟨RX11, "isDusty", "(I)Z"⟩
abbrev cX11_sweeps : ByteArray := prog_13_method_57_code
def yX11_sweeps : MethodName := ⟨RX11, "sweeps", "(I)V"⟩
abbrev cX11_moves : ByteArray := prog_13_method_58_code
def yX11_moves : MethodName := ⟨RX11, "moves", "(III)V"⟩
abbrev cX11_draw : ByteArray := prog_13_method_59_code
def yX11_draw : MethodName := ⟨RX11, "draw", "(I)I"⟩
abbrev cX11_day : ByteArray := prog_13_method_60_code
def yX11_day : MethodName := ⟨RX11, "day", "()V"⟩
abbrev cX11_goesOn : ByteArray := prog_13_method_61_code
def yX11_goesOn : MethodName := ⟨RX11, "goesOn", "(II)I"⟩
abbrev cX11_ask : ByteArray := prog_13_method_62_code
def yX11_ask : MethodName := ⟨RX11, "ask", "(I)I"⟩
abbrev cX11_broom : ByteArray := prog_13_method_63_code
def yX11_broom : MethodName := ⟨RX11, "broom", "(I)I"⟩
abbrev cX11_move : ByteArray := prog_13_method_64_code
def yX11_move : MethodName := ⟨RX11, "move", "(III)I"⟩
abbrev cX11_days : ByteArray := prog_13_method_65_code
def yX11_days : MethodName := ⟨RX11, "days", "(II)I"⟩
abbrev cX11_keeps : ByteArray := prog_13_method_66_code
def yX11_keeps : MethodName := ⟨RX11, "keeps", "()V"⟩
abbrev cX11_undo : ByteArray := prog_13_method_67_code
def yX11_undo : MethodName := ⟨RX11, "undo", "()I"⟩
abbrev cX11_tries : ByteArray := prog_13_method_68_code
def yX11_tries : MethodName := ⟨RX11, "tries", "()V"⟩
abbrev cX11_back : ByteArray := prog_13_method_69_code
def yX11_back : MethodName := ⟨RX11, "back", "()V"⟩
abbrev cX11_when : ByteArray := prog_13_method_70_code
def yX11_when : MethodName := ⟨RX11, "when", "(I)I"⟩
abbrev cX11_farFrom : ByteArray := prog_13_method_71_code
def yX11_farFrom : MethodName := ⟨RX11, "farFrom", "(I)V"⟩
abbrev cX11_followSet : ByteArray := prog_13_method_72_code
def yX11_followSet : MethodName := ⟨RX11, "followSet", "(I)I"⟩
abbrev cX11_follow : ByteArray := prog_13_method_73_code
def yX11_follow : MethodName := ⟨RX11, "follow", "(I)I"⟩
abbrev cX11_way : ByteArray := prog_13_method_74_code
def yX11_way : MethodName := ⟨RX11, "way", "(II)I"⟩
abbrev cX11_wayAt : ByteArray := prog_13_method_75_code
def yX11_wayAt : MethodName := ⟨RX11, "wayAt", "(I)I"⟩
abbrev cX11_areQuarrelling : ByteArray := prog_13_method_76_code
def yX11_areQuarrelling : MethodName := ⟨RX11, "areQuarrelling", "(II)Z"⟩
abbrev cX11_quarrels : ByteArray := prog_13_method_77_code
def yX11_quarrels : MethodName := ⟨RX11, "quarrels", "()I"⟩
abbrev cX11_quarrel : ByteArray := prog_13_method_78_code
def yX11_quarrel : MethodName := ⟨RX11, "quarrel", "(I)I"⟩
abbrev cX11_digit : ByteArray := prog_13_method_79_code
def yX11_digit : MethodName := ⟨RX11, "digit", "(IIII)I"⟩
abbrev cX11_power : ByteArray := prog_13_method_80_code
def yX11_power : MethodName := ⟨RX11, "power", "(II)I"⟩
abbrev cX11_spins : ByteArray := prog_13_method_81_code
def yX11_spins : MethodName := ⟨RX11, "spins", "(II)V"⟩
abbrev cX11_beginsTrial : ByteArray := prog_13_method_82_code
def yX11_beginsTrial : MethodName := ⟨RX11, "beginsTrial", "()V"⟩
abbrev cX11_keptBy : ByteArray := prog_13_method_83_code
def yX11_keptBy : MethodName := ⟨RX11, "keptBy", "(III)I"⟩
abbrev cX11_keep : ByteArray := prog_13_method_84_code
def yX11_keep : MethodName := ⟨RX11, "keep", "(I)I"⟩
abbrev cX11_keepAt : ByteArray := prog_13_method_85_code
def yX11_keepAt : MethodName := ⟨RX11, "keepAt", "(I)I"⟩
abbrev cX11_askedBy : ByteArray := prog_13_method_86_code
def yX11_askedBy : MethodName := ⟨RX11, "askedBy", "(III)I"⟩
abbrev cX11_isAskedSo : ByteArray := prog_13_method_87_code
def yX11_isAskedSo : MethodName := ⟨RX11, "isAskedSo", "(II)Z"⟩
abbrev cX11_asked : ByteArray := prog_13_method_88_code
def yX11_asked : MethodName := ⟨RX11, "asked", "(I)I"⟩
abbrev cX11_askedAt : ByteArray := prog_13_method_89_code
def yX11_askedAt : MethodName := ⟨RX11, "askedAt", "(I)I"⟩
abbrev cX11_spun : ByteArray := prog_13_method_90_code
def yX11_spun : MethodName := ⟨RX11, "spun", "()I"⟩
abbrev cX11_hangsOver : ByteArray := prog_13_method_91_code
def yX11_hangsOver : MethodName := ⟨RX11, "hangsOver", "(II)I"⟩
abbrev cX11_isShorter : ByteArray := prog_13_method_92_code
def yX11_isShorter : MethodName := ⟨RX11, "isShorter", "(III)Z"⟩
abbrev cX11_laysPaths : ByteArray := prog_13_method_93_code
def yX11_laysPaths : MethodName := ⟨RX11, "laysPaths", "()V"⟩
abbrev cX11_torn : ByteArray := prog_13_method_94_code
def yX11_torn : MethodName := ⟨RX11, "torn", "(I)I"⟩
abbrev cX11_steps : ByteArray := prog_13_method_95_code
def yX11_steps : MethodName := ⟨RX11, "steps", "()I"⟩
abbrev cX11_lawsBy : ByteArray := prog_13_method_96_code
def yX11_lawsBy : MethodName := ⟨RX11, "lawsBy", "(II)I"⟩
abbrev cX11_bestOfThird : ByteArray := prog_13_method_97_code
def yX11_bestOfThird : MethodName := ⟨RX11, "bestOfThird", "(III)I"⟩
abbrev cX11_leastOfSecond : ByteArray := prog_13_method_98_code
def yX11_leastOfSecond : MethodName := ⟨RX11, "leastOfSecond", "(III)I"⟩
abbrev cX11_turns : ByteArray := prog_13_method_99_code
def yX11_turns : MethodName := ⟨RX11, "turns", "(I)I"⟩
abbrev cX11_turn : ByteArray := prog_13_method_100_code
def yX11_turn : MethodName := ⟨RX11, "turn", "()I"⟩
abbrev cX11_lays : ByteArray := prog_13_method_101_code
def yX11_lays : MethodName := ⟨RX11, "lays", "(I)V"⟩
abbrev cX11_spells : ByteArray := prog_13_method_102_code
def yX11_spells : MethodName := ⟨RX11, "spells", "(J)V"⟩
abbrev cX11_says : ByteArray := prog_13_method_103_code
def yX11_says : MethodName := ⟨RX11, "says", "(J)V"⟩
abbrev cX11_catalogue : ByteArray := prog_13_method_104_code
def yX11_catalogue : MethodName := ⟨RX11, "catalogue", "(I)I"⟩
abbrev cX11_byteAt : ByteArray := prog_13_method_105_code
def yX11_byteAt : MethodName := ⟨RX11, "byteAt", "(I)I"⟩
abbrev cX11_odds : ByteArray := prog_13_method_106_code
def yX11_odds : MethodName := ⟨RX11, "odds", "(III)I"⟩
abbrev cX11_lifeLine : ByteArray := prog_13_method_107_code
def yX11_lifeLine : MethodName := ⟨RX11, "lifeLine", "()Z"⟩
abbrev cX11_does : ByteArray := prog_13_method_108_code
def yX11_does : MethodName := ⟨RX11, "does", "(IIII)I"⟩
abbrev cX11_life : ByteArray := prog_13_method_109_code
def yX11_life : MethodName := ⟨RX11, "life", "(I)I"⟩
abbrev cX11_told : ByteArray := prog_13_method_110_code
def yX11_told : MethodName := ⟨RX11, "told", "(I)I"⟩
abbrev cX11_code : ByteArray := prog_13_method_111_code
def yX11_code : MethodName := ⟨RX11, "code", "(III)V"⟩
abbrev cX11_joins : ByteArray := prog_13_method_112_code
def yX11_joins : MethodName := ⟨RX11, "joins", "(I)V"⟩
abbrev cX11_nots : ByteArray := prog_13_method_113_code
def yX11_nots : MethodName := ⟨RX11, "nots", "()V"⟩
abbrev cX11_leafOf : ByteArray := prog_13_method_114_code
def yX11_leafOf : MethodName := ⟨RX11, "leafOf", "()I"⟩
abbrev cX11_operand : ByteArray := prog_13_method_115_code
def yX11_operand : MethodName := ⟨RX11, "operand", "()Z"⟩
abbrev cX11_behind : ByteArray := prog_13_method_116_code
def yX11_behind : MethodName := ⟨RX11, "behind", "()Z"⟩
abbrev cX11_sentence : ByteArray := prog_13_method_117_code
def yX11_sentence : MethodName := ⟨RX11, "sentence", "()I"⟩
abbrev cX11_isLeaf : ByteArray := prog_13_method_118_code
def yX11_isLeaf : MethodName := ⟨RX11, "isLeaf", "(IIII)Z"⟩
abbrev cX11_isSaid : ByteArray := prog_13_method_119_code
def yX11_isSaid : MethodName := ⟨RX11, "isSaid", "(I)Z"⟩
abbrev cX11_said : ByteArray := prog_13_method_120_code
def yX11_said : MethodName := ⟨RX11, "said", "(I)I"⟩
abbrev cX11_image : ByteArray := prog_13_method_121_code
def yX11_image : MethodName := ⟨RX11, "image", "(I)Z"⟩
abbrev cX11_restore : ByteArray := prog_13_method_122_code
def yX11_restore : MethodName := ⟨RX11, "restore", "(I)Z"⟩
abbrev cX11_count : ByteArray := prog_13_method_123_code
def yX11_count : MethodName := ⟨RX11, "count", "(I)I"⟩
def RJx145de : String := "java/io/Serializable"
def TJx145de : u_T := fun k => match k with
  | _ => ("", "", "", false)
def tyJx145de : Nat → FieldType := fun k => match k with
  | _ => .int
abbrev wsJx145de0 : List Cond := u_ws RJx145de TJx145de 0
theorem nmJx145de : ∀ a, a < 0 → ∀ b, b < 0 → a ≠ b → (TJx145de a).2.1 ≠ (TJx145de b).2.1 := by decide +kernel
theorem tyJx145de_ok : ∀ k, k < 0 → parseFieldDescriptor (TJx145de k).2.2.1 = some (tyJx145de k) := by decide +kernel
def RJx9f9b0 : String := "java/lang/CharSequence"
def TJx9f9b0 : u_T := fun k => match k with
  | _ => ("", "", "", false)
def tyJx9f9b0 : Nat → FieldType := fun k => match k with
  | _ => .int
abbrev wsJx9f9b00 : List Cond := u_ws RJx9f9b0 TJx9f9b0 0
theorem nmJx9f9b0 : ∀ a, a < 0 → ∀ b, b < 0 → a ≠ b → (TJx9f9b0 a).2.1 ≠ (TJx9f9b0 b).2.1 := by decide +kernel
theorem tyJx9f9b0_ok : ∀ k, k < 0 → parseFieldDescriptor (TJx9f9b0 k).2.2.1 = some (tyJx9f9b0 k) := by decide +kernel
def RJxb160c : String := "java/lang/Comparable"
def TJxb160c : u_T := fun k => match k with
  | _ => ("", "", "", false)
def tyJxb160c : Nat → FieldType := fun k => match k with
  | _ => .int
abbrev wsJxb160c0 : List Cond := u_ws RJxb160c TJxb160c 0
theorem nmJxb160c : ∀ a, a < 0 → ∀ b, b < 0 → a ≠ b → (TJxb160c a).2.1 ≠ (TJxb160c b).2.1 := by decide +kernel
theorem tyJxb160c_ok : ∀ k, k < 0 → parseFieldDescriptor (TJxb160c k).2.2.1 = some (tyJxb160c k) := by decide +kernel
def RJ6 : String := "java/lang/Integer"
def TJ6 : u_T := fun k => match k with
  | _ => ("", "", "", false)
def tyJ6 : Nat → FieldType := fun k => match k with
  | _ => .int
abbrev wsJ60 : List Cond := u_ws RJ6 TJ6 0
theorem nmJ6 : ∀ a, a < 0 → ∀ b, b < 0 → a ≠ b → (TJ6 a).2.1 ≠ (TJ6 b).2.1 := by decide +kernel
theorem tyJ6_ok : ∀ k, k < 0 → parseFieldDescriptor (TJ6 k).2.2.1 = some (tyJ6 k) := by decide +kernel
abbrev cJ6_bitCount_0f7a4 : ByteArray := prog_18_method_49_code
def yJ6_bitCount_0f7a4 : MethodName := ⟨RJ6, "bitCount", "(I)I"⟩
def RJ9 : String := "java/lang/Math"
def TJ9 : u_T := fun k => match k with
  | _ => ("", "", "", false)
def tyJ9 : Nat → FieldType := fun k => match k with
  | _ => .int
abbrev wsJ90 : List Cond := u_ws RJ9 TJ9 0
theorem nmJ9 : ∀ a, a < 0 → ∀ b, b < 0 → a ≠ b → (TJ9 a).2.1 ≠ (TJ9 b).2.1 := by decide +kernel
theorem tyJ9_ok : ∀ k, k < 0 → parseFieldDescriptor (TJ9 k).2.2.1 = some (tyJ9 k) := by decide +kernel
abbrev cJ9_max_7cf53 : ByteArray := prog_19_method_65_code
def yJ9_max_7cf53 : MethodName := ⟨RJ9, "max", "(II)I"⟩
abbrev cJ9_min_7cf53 : ByteArray := prog_19_method_69_code
def yJ9_min_7cf53 : MethodName := ⟨RJ9, "min", "(II)I"⟩
def RJ0 : String := "java/lang/String"
def TJ0 : u_T := fun k => match k with
  | _ => ("", "", "", false)
def tyJ0 : Nat → FieldType := fun k => match k with
  | _ => .int
abbrev wsJ00 : List Cond := u_ws RJ0 TJ0 0
theorem nmJ0 : ∀ a, a < 0 → ∀ b, b < 0 → a ≠ b → (TJ0 a).2.1 ≠ (TJ0 b).2.1 := by decide +kernel
theorem tyJ0_ok : ∀ k, k < 0 → parseFieldDescriptor (TJ0 k).2.2.1 = some (tyJ0 k) := by decide +kernel
abbrev cJ0_length_8abf5 : ByteArray := prog_21_method_54_code
def yJ0_length_8abf5 : MethodName := ⟨RJ0, "length", "()I"⟩
abbrev cJ0_charAt_5068e : ByteArray := prog_21_method_56_code
def yJ0_charAt_5068e : MethodName := ⟨RJ0, "charAt", "(I)C"⟩
abbrev cJ0_coder_7d493 : ByteArray := prog_21_method_152_code
def yJ0_coder_7d493 : MethodName := ⟨RJ0, "coder", "()B"⟩
abbrev cJ0_isLatin1_aae02 : ByteArray := prog_21_method_154_code
def yJ0_isLatin1_aae02 : MethodName := ⟨RJ0, "isLatin1", "()Z"⟩
abbrev cJ0_checkIndex_df160 : ByteArray := prog_21_method_155_code
def yJ0_checkIndex_df160 : MethodName := ⟨RJ0, "checkIndex", "(II)V"⟩
def RJ1 : String := "java/lang/StringLatin1"
def TJ1 : u_T := fun k => match k with
  | _ => ("", "", "", false)
def tyJ1 : Nat → FieldType := fun k => match k with
  | _ => .int
abbrev wsJ10 : List Cond := u_ws RJ1 TJ1 0
theorem nmJ1 : ∀ a, a < 0 → ∀ b, b < 0 → a ≠ b → (TJ1 a).2.1 ≠ (TJ1 b).2.1 := by decide +kernel
theorem tyJ1_ok : ∀ k, k < 0 → parseFieldDescriptor (TJ1 k).2.2.1 = some (tyJ1 k) := by decide +kernel
abbrev cJ1_charAt_3b067 : ByteArray := prog_22_method_2_code
def yJ1_charAt_3b067 : MethodName := ⟨RJ1, "charAt", "([BI)C"⟩
def RJ2 : String := "java/lang/StringUTF16"
def TJ2 : u_T := fun k => match k with
  | _ => ("", "", "", false)
def tyJ2 : Nat → FieldType := fun k => match k with
  | _ => .int
abbrev wsJ20 : List Cond := u_ws RJ2 TJ2 0
theorem nmJ2 : ∀ a, a < 0 → ∀ b, b < 0 → a ≠ b → (TJ2 a).2.1 ≠ (TJ2 b).2.1 := by decide +kernel
theorem tyJ2_ok : ∀ k, k < 0 → parseFieldDescriptor (TJ2 k).2.2.1 = some (tyJ2 k) := by decide +kernel
abbrev cJ2_getChar_3b067 : ByteArray := prog_23_method_5_code
def yJ2_getChar_3b067 : MethodName := ⟨RJ2, "getChar", "([BI)C"⟩
abbrev cJ2_length_9d52b : ByteArray := prog_23_method_6_code
def yJ2_length_9d52b : MethodName := ⟨RJ2, "length", "([B)I"⟩
abbrev cJ2_charAt_3b067 : ByteArray := prog_23_method_83_code
def yJ2_charAt_3b067 : MethodName := ⟨RJ2, "charAt", "([BI)C"⟩
abbrev cJ2_checkIndex_2214a : ByteArray := prog_23_method_91_code
def yJ2_checkIndex_2214a : MethodName := ⟨RJ2, "checkIndex", "(I[B)V"⟩
def RJ10 : String := "java/lang/System"
def TJ10 : u_T := fun k => match k with
  | _ => ("", "", "", false)
def tyJ10 : Nat → FieldType := fun k => match k with
  | _ => .int
abbrev wsJ100 : List Cond := u_ws RJ10 TJ10 0
theorem nmJ10 : ∀ a, a < 0 → ∀ b, b < 0 → a ≠ b → (TJ10 a).2.1 ≠ (TJ10 b).2.1 := by decide +kernel
theorem tyJ10_ok : ∀ k, k < 0 → parseFieldDescriptor (TJ10 k).2.2.1 = some (tyJ10 k) := by decide +kernel
def RJxfd54e : String := "java/lang/constant/Constable"
def TJxfd54e : u_T := fun k => match k with
  | _ => ("", "", "", false)
def tyJxfd54e : Nat → FieldType := fun k => match k with
  | _ => .int
abbrev wsJxfd54e0 : List Cond := u_ws RJxfd54e TJxfd54e 0
theorem nmJxfd54e : ∀ a, a < 0 → ∀ b, b < 0 → a ≠ b → (TJxfd54e a).2.1 ≠ (TJxfd54e b).2.1 := by decide +kernel
theorem tyJxfd54e_ok : ∀ k, k < 0 → parseFieldDescriptor (TJxfd54e k).2.2.1 = some (tyJxfd54e k) := by decide +kernel
def RJx3cf43 : String := "java/lang/constant/ConstantDesc"
def TJx3cf43 : u_T := fun k => match k with
  | _ => ("", "", "", false)
def tyJx3cf43 : Nat → FieldType := fun k => match k with
  | _ => .int
abbrev wsJx3cf430 : List Cond := u_ws RJx3cf43 TJx3cf43 0
theorem nmJx3cf43 : ∀ a, a < 0 → ∀ b, b < 0 → a ≠ b → (TJx3cf43 a).2.1 ≠ (TJx3cf43 b).2.1 := by decide +kernel
theorem tyJx3cf43_ok : ∀ k, k < 0 → parseFieldDescriptor (TJx3cf43 k).2.2.1 = some (tyJx3cf43 k) := by decide +kernel
def RJ3 : String := "jdk/internal/util/Preconditions"
def TJ3 : u_T := fun k => match k with
  | _ => ("", "", "", false)
def tyJ3 : Nat → FieldType := fun k => match k with
  | _ => .int
abbrev wsJ30 : List Cond := u_ws RJ3 TJ3 0
theorem nmJ3 : ∀ a, a < 0 → ∀ b, b < 0 → a ≠ b → (TJ3 a).2.1 ≠ (TJ3 b).2.1 := by decide +kernel
theorem tyJ3_ok : ∀ k, k < 0 → parseFieldDescriptor (TJ3 k).2.2.1 = some (tyJ3 k) := by decide +kernel
abbrev cJ3_checkIndex_8e157 : ByteArray := prog_29_method_11_code
def yJ3_checkIndex_8e157 : MethodName := ⟨RJ3, "checkIndex", "(IILjava/util/function/BiFunction;)I"⟩
def RL : String := "CobwebLibraryLaw"
abbrev cL_book : ByteArray := method_3_code
def yL_book : MethodName := ⟨RL, "book", "(LCobwebLibrary;II[J)I"⟩
abbrev cL_quarrel : ByteArray := method_4_code
def yL_quarrel : MethodName := ⟨RL, "quarrel", "(LCobwebLibrary;I[J)I"⟩
abbrev cL_law : ByteArray := code
def yL_law : MethodName := ⟨RL, "law", "([I)Z"⟩
abbrev vwCl : List vw_C := [(RX0, TX0, 16), (RX1, TX1, 7), (RX2, TX2, 4), (RX3, TX3, 10), (RX4, TX4, 3), (RX5, TX5, 6), (RX6, TX6, 11), (RX7, TX7, 7), (RX8, TX8, 8), (RX9, TX9, 11), (RX10, TX10, 15), (RX11, TX11, 58)]
def gT : List Cond := lw_tbl.filter goodWord
theorem kmem {ws : List Cond} (ps : List Nat) (hp : ws = ps.filterMap (fun i => lw_tbl[i]?)) (hg : ws.all goodWord = true) : ∀ w ∈ ws, w ∈ gT := by
  intro w hw
  have h1 := List.all_eq_true.mp hg w hw
  rw [hp] at hw
  obtain ⟨i, -, hi⟩ := List.mem_filterMap.mp hw
  exact List.mem_filter.mpr ⟨List.mem_of_getElem? hi, h1⟩
theorem kobj1 : Cond.instanceMethod Lib.objectInit ∈ gT := List.mem_filter.mpr ⟨List.mem_of_getElem? (i := 157) (by decide +kernel), by decide +kernel⟩
theorem kobj2 : Cond.code Lib.objectInit ⟨#[0xb1]⟩ 1 none ∈ gT := List.mem_filter.mpr ⟨List.mem_of_getElem? (i := 158) (by decide +kernel), by decide +kernel⟩
set_option maxRecDepth 20000 in
theorem inX0 : ∀ w ∈ u_ws RX0 TX0 16, w ∈ gT := kmem [491, 493, 495, 497, 499, 501, 503, 505, 507, 509, 511, 513, 515, 517, 519, 521] (by decide +kernel) (by decide +kernel)
set_option maxRecDepth 20000 in
theorem inX1 : ∀ w ∈ u_ws RX1 TX1 7, w ∈ gT := kmem [355, 357, 359, 361, 363, 365, 367] (by decide +kernel) (by decide +kernel)
set_option maxRecDepth 20000 in
theorem inX2 : ∀ w ∈ u_ws RX2 TX2 4, w ∈ gT := kmem [568, 570, 572, 574] (by decide +kernel) (by decide +kernel)
set_option maxRecDepth 20000 in
theorem inX3 : ∀ w ∈ u_ws RX3 TX3 10, w ∈ gT := kmem [391, 393, 395, 397, 399, 401, 403, 405, 407, 409] (by decide +kernel) (by decide +kernel)
set_option maxRecDepth 20000 in
theorem inX4 : ∀ w ∈ u_ws RX4 TX4 3, w ∈ gT := kmem [455, 457, 459] (by decide +kernel) (by decide +kernel)
set_option maxRecDepth 20000 in
theorem inX5 : ∀ w ∈ u_ws RX5 TX5 6, w ∈ gT := kmem [539, 541, 543, 545, 547, 549] (by decide +kernel) (by decide +kernel)
set_option maxRecDepth 20000 in
theorem inX6 : ∀ w ∈ u_ws RX6 TX6 11, w ∈ gT := kmem [264, 266, 268, 270, 272, 274, 276, 278, 280, 282, 284] (by decide +kernel) (by decide +kernel)
set_option maxRecDepth 20000 in
theorem inX7 : ∀ w ∈ u_ws RX7 TX7 7, w ∈ gT := kmem [427, 429, 431, 433, 435, 437, 439] (by decide +kernel) (by decide +kernel)
set_option maxRecDepth 20000 in
theorem inX8 : ∀ w ∈ u_ws RX8 TX8 8, w ∈ gT := kmem [319, 321, 323, 325, 327, 329, 331, 333] (by decide +kernel) (by decide +kernel)
set_option maxRecDepth 20000 in
theorem inX9 : ∀ w ∈ u_ws RX9 TX9 11, w ∈ gT := kmem [193, 195, 197, 199, 201, 203, 205, 207, 209, 211, 213] (by decide +kernel) (by decide +kernel)
set_option maxRecDepth 20000 in
theorem inX10 : ∀ w ∈ u_ws RX10 TX10 15, w ∈ gT := kmem [592, 594, 596, 598, 600, 602, 604, 606, 608, 610, 612, 614, 616, 618, 620] (by decide +kernel) (by decide +kernel)
set_option maxRecDepth 20000 in
theorem inX11 : ∀ w ∈ u_ws RX11 TX11 58, w ∈ gT := kmem [1563, 1565, 1567, 1569, 1571, 1573, 1575, 1577, 1579, 1581, 1583, 1585, 1587, 1589, 1591, 1593, 1595, 1597, 1599, 1601, 1603, 1605, 1607, 1609, 1611, 1613, 1615, 1617, 1619, 1621, 1623, 1625, 1627, 1629, 1631, 1633, 1635, 1637, 1639, 1641, 1643, 1645, 1647, 1649, 1651, 1653, 1655, 1657, 1659, 1661, 1663, 1665, 1667, 1669, 1671, 1673, 1675, 1677] (by decide +kernel) (by decide +kernel)
def nestQ : List (String × Nat × MethodName × String) := [(RX10, 9, yX9_init, RX10), (RX10, 18, yX6_init, RX10), (RX10, 25, yX8_init, RX10), (RX10, 35, yX1_init, RX10), (RX10, 42, yX3_init, RX10), (RX10, 49, yX7_init, RX10), (RX10, 72, yX0_init, RX10), (RX10, 79, yX5_init, RX10), (RX10, 95, yX2_init, RX10), (RX0, 88, yX10_bitOf, RX10), (RX1, 11, yX6_init, RX10), (RX1, 20, yX8_init, RX10), (RX1, 96, yX10_bitOf, RX10), (RX1, 144, yX10_sizeOf, RX10), (RX2, 15, yX6_init, RX10), (RX2, 22, yX8_init, RX10), (RX2, 29, yX7_init, RX10), (RX4, 24, yX8_init, RX10), (RX5, 41, yX10_bookOf, RX10), (RX5, 50, yX10_bitOf, RX10), (RX5, 79, yX10_pairPlace, RX10), (RX5, 86, yX10_isBetween, RX10), (RX7, 137, yX10_sizeOf, RX10), (RX8, 50, yX10_isBetween, RX10), (RX8, 66, yX10_pairPlace, RX10), (RX8, 73, yX10_bitOf, RX10), (RX8, 116, yX10_seedBehind, RX10), (RX8, 119, yX10_drawnOf, RX10)]
def strQ : List (String × Nat × String × Nat) := [(RX9, 75, "shelves book    rare    web     thread  quarrel law     spin    line    draught ask     broom   move    day     or      and     not     doubt   lawful  dogma   asked   follows dust    bonds   number  ", 100), (RX10, 261, " is in doubt", 101), (RX10, 263, " is law", 102), (RX10, 265, " is dogma", 103), (RX10, 271, " by ", 104)]
def lenS : List Nat := [200, 12, 7, 9, 4]
def bytS : List (List Int32) := [[115, 104, 101, 108, 118, 101, 115, 32, 98, 111, 111, 107, 32, 32, 32, 32, 114, 97, 114, 101, 32, 32, 32, 32, 119, 101, 98, 32, 32, 32, 32, 32, 116, 104, 114, 101, 97, 100, 32, 32, 113, 117, 97, 114, 114, 101, 108, 32, 108, 97, 119, 32, 32, 32, 32, 32, 115, 112, 105, 110, 32, 32, 32, 32, 108, 105, 110, 101, 32, 32, 32, 32, 100, 114, 97, 117, 103, 104, 116, 32, 97, 115, 107, 32, 32, 32, 32, 32, 98, 114, 111, 111, 109, 32, 32, 32, 109, 111, 118, 101, 32, 32, 32, 32, 100, 97, 121, 32, 32, 32, 32, 32, 111, 114, 32, 32, 32, 32, 32, 32, 97, 110, 100, 32, 32, 32, 32, 32, 110, 111, 116, 32, 32, 32, 32, 32, 100, 111, 117, 98, 116, 32, 32, 32, 108, 97, 119, 102, 117, 108, 32, 32, 100, 111, 103, 109, 97, 32, 32, 32, 97, 115, 107, 101, 100, 32, 32, 32, 102, 111, 108, 108, 111, 119, 115, 32, 100, 117, 115, 116, 32, 32, 32, 32, 98, 111, 110, 100, 115, 32, 32, 32, 110, 117, 109, 98, 101, 114, 32, 32], [32, 105, 115, 32, 105, 110, 32, 100, 111, 117, 98, 116], [32, 105, 115, 32, 108, 97, 119], [32, 105, 115, 32, 100, 111, 103, 109, 97], [32, 98, 121, 32]]
/-! the base: one list of words for all methods (gT), fixed array types, contracts, calls -/
abbrev tyL (cy : Nat → ClassId) : List (ClassId × FieldType) := [(cy 0, .byte), (cy 1, .int), (cy 2, .long), (cy 3, .boolean), (cy 4, .object RX2), (cy 5, .object RX8)]
/-- the literals, and what String's own code reads: their cells lie outside of A -/
def Sx (cy : Nat → ClassId) (A : Nat → Prop) (U : State) (H : Heap) : Prop := vk_S 5 lenS bytS (fun i => cy (100 + i)) (fun i => cy (200 + i)) A U H ∧ va_Z "java/lang/String" "COMPACT_STRINGS" "Z" (.int 1) A U H ∧ va_Zq "jdk/internal/util/Preconditions" "SIOOBE_FORMATTER" "Ljava/util/function/BiFunction;" A U H
theorem Sx.moved {cy : Nat → ClassId} {A : Nat → Prop} {u U : State} {H : Heap} (hvm : u.vm.Alike U.vm) (h : Sx cy A u H) : Sx cy A U H := ⟨h.1.moved hvm, va_Z.moved hvm h.2.1, va_Zq.moved hvm h.2.2⟩
theorem Sx.kept {cy : Nat → ClassId} {A : Nat → Prop} {U : State} {H H1 : Heap} (h : Sx cy A U H) (hq : ∀ a : Nat, a < H.size → ¬ A a → H1[a]? = H[a]?) : Sx cy A U H1 := ⟨h.1.kept hq, h.2.1.kept hq, h.2.2.kept hq⟩
theorem Sx.narrow {cy : Nat → ClassId} {A B : Nat → Prop} {U : State} {H : Heap} (h : Sx cy A U H) (hAB : ∀ q, B q → A q) : Sx cy B U H := ⟨h.1.narrow hAB, h.2.1.narrow hAB, h.2.2.narrow hAB⟩
theorem Sx.call {cy : Nat → ClassId} {A : Nat → Prop} {s U : State} {H : Heap} {locs : List Loc} {wc : va_W} (h : Sx cy A s s.heap) (hA : ∀ q, s.heap.size ≤ q → A q) (hS : va_S A s.heap H locs) (hDc : va_D A wc) (hU : U.heap = H) (hW : s.WarmedH U.vm) : Sx cy (va_A wc H.size) U U.heap := by
  rw [hU]
  refine Sx.moved hW.alike (Sx.narrow (h.kept hS.2.1) (fun q hq => ?_))
  rcases hq with ⟨k, e, hk⟩ | hq
  · exact hDc.2 k _ hk
  · exact hA q (Nat.le_trans hS.1 hq)
def Kx (D : va_G) (cy : Nat → ClassId) (U : State) : Prop := va_K D vwCl (tyL cy) U ∧ (∀ q ∈ nestQ, va_Nw (.methodLinkNest q.1 q.2.1 q.2.2.1 q.2.2.2) U) ∧ va_AO RX2 U ∧ va_AO RX8 U ∧ ∀ q ∈ strQ, vk_R q.1 q.2.1 q.2.2.1 (cy q.2.2.2) U
theorem Kx.warm {D : va_G} {cy : Nat → ClassId} {s U : State} (hW : s.WarmedH U.vm) (h : Kx D cy s) : Kx D cy U := ⟨va_K.moved hW.alike h.1, fun q hq => va_Nw.warmM hW (h.2.1 q hq), va_AO.moved hW.alike h.2.2.1, va_AO.moved hW.alike h.2.2.2.1, fun q hq => vk_R.warm hW (h.2.2.2.2 q hq)⟩
theorem Kx.calling {D : va_G} {cy : Nat → ClassId} {U : State} {g : JFrame} {mk : MethodId} {a : Array Value} (h : Kx D cy U) : Kx D cy (U.calling g mk a) := ⟨va_K.moved (u := U) (U := U.calling g mk a) (Vm.Alike.refl U.vm) h.1, fun q hq => va_Nw.same (u := U) (U := U.calling g mk a) rfl rfl (h.2.1 q hq), va_AO.moved (u := U) (U := U.calling g mk a) (Vm.Alike.refl U.vm) h.2.2.1, va_AO.moved (u := U) (U := U.calling g mk a) (Vm.Alike.refl U.vm) h.2.2.2.1, fun q hq => vk_R.same (u := U) (U := U.calling g mk a) rfl (h.2.2.2.2 q hq)⟩
abbrev Px (D : va_G) (cy : Nat → ClassId) (sz : Nat) (ws : va_W) : State → Prop := fun U => U.heap.size = sz ∧ va_P D vwCl ws U.heap ∧ Kx D cy U ∧ va_D (fun _ => True) ws ∧ Sx cy (va_A ws sz) U U.heap
theorem Px.blind {D : va_G} {cy : Nat → ClassId} {sz : Nat} {ws : va_W} {av : List Value} : FrameBlind (va_Pc av (Px D cy sz ws)) := fun a U g mk q => by
  obtain ⟨q0, q1, qP, qK, qD, qS⟩ := q
  exact ⟨q0, q1, qP, qK.calling, qD, Sx.moved (u := U) (U := U.calling g mk a) (Vm.Alike.refl U.vm) qS⟩
abbrev Bx (D : va_G) (A : Nat → Prop) {S : Type} (w1 : S → va_W) : S → State → Prop := fun u t => va_P D vwCl (w1 u) t.heap ∧ va_D A (w1 u)
abbrev Rm (f lo ce sl : Nat) : Room := { frames := f, cells := ce, slots := sl, locals := lo }
abbrev MI (l : Launch) (y : MethodName) (bytes : ByteArray) (maxL : Nat) (ret : Option FieldType) (rm : Room) (D : va_G) (cy : Nat → ClassId) (av : List Value) (sz : Nat) (ws : va_W) {S : Type} (post : Int32 → S → Prop) (w1 : S → va_W) : Prop :=
  Met l y (.code y bytes maxL ret :: gT) rm (va_Pc av (Px D cy sz ws)) (va_Qi post (Bx D (va_A ws sz) w1) (va_A ws sz)) rm.cells rm.slots (va_A ws sz)
abbrev MV (l : Launch) (y : MethodName) (bytes : ByteArray) (maxL : Nat) (rm : Room) (D : va_G) (cy : Nat → ClassId) (av : List Value) (sz : Nat) (ws : va_W) {S : Type} (post : S → Prop) (w1 : S → va_W) : Prop :=
  Met l y (.code y bytes maxL none :: gT) rm (va_Pc av (Px D cy sz ws)) (va_Qv post (Bx D (va_A ws sz) w1) (va_A ws sz)) rm.cells rm.slots (va_A ws sz)
/-- what a walk stands on -/
def Cx (p : Program) (s : State) (m : MethodId) (args : Array Value) (meth : Method) (c : Code) (cc : ByteArray) (nL : Nat) (ret : Option FieldType) (own : String) (nm : String) (D : va_G) (cy : Nat → ClassId) (A : Nat → Prop) : Prop :=
  p.tables.exec = Jvm.exec ∧ c.code = cc ∧ c.maxLocals = nL ∧ s.vm.findClass own = some m.cls ∧ (∀ w ∈ gT, w.before args s = true) ∧ Kx D cy s ∧ (∀ q, s.heap.size ≤ q → A q) ∧ meth.sig.returnType = ret ∧ meth.locks = false ∧ meth.name = nm ∧ Sx cy A s s.heap
section BaseA
variable {l : Launch} {y : MethodName} {bytes : ByteArray} {maxL : Nat} {rm : Room} {D : va_G} {cy : Nat → ClassId} {av : List Value} {sz : Nat} {ws : va_W} {S : Type}
theorem MI.enter {ret : Option FieldType} {post : Int32 → S → Prop} {w1 : S → va_W} (hy : plainName y.cls = true) (hlen : (lg_sl av).length ≤ maxL)
    (body : ∀ (p : Program) (e : Env) (s : State) (m : MethodId) (below : List Frame) (meth : Method) (c : Code) (ls : Array Slot) (A : Nat → Prop), s.heap.size = sz → va_A ws sz = A → Cx p s m av.toArray meth c bytes maxL ret y.cls y.name D cy A → va_P D vwCl ws s.heap → va_D A ws → va_S A s.heap s.heap [] → lv_has ls maxL (lv_args 0 av) →
      W p l e rm s m av.toArray below meth c s.heap [] 0 0 (MQ below (va_Qi post (Bx D A w1) A) av.toArray s rm.cells rm.slots A) (F0 m 0 ls [])) : MI l y bytes maxL ret rm D cy av sz ws post w1 := by
  refine Met.ofW (cc := bytes) (maxL := maxL) (ret := ret) hy rfl ?_
  intro p e s m args below meth c s₁ B hml hv
  obtain ⟨rfl, hsz, hP, hK, hD0, hSx⟩ := hv
  have hts := atoms_spec (ws := .code y bytes maxL ret :: gT) B.pre
  have hown : s.vm.findClass y.cls = some m.cls := findClass_of_methodNamed B.named
  have hl := lv_entry av (n := maxL) hlen
  rw [lg_entry_eq]
  exact body p e s m below meth c _ (va_A ws sz) hsz rfl ⟨B.exec, B.bytes, hml, hown, fun w h => hts w (List.mem_cons_of_mem _ h), hK, fun q h => Or.inr (by rw [← hsz]; exact h), B.returns, B.notSynchronized, (name_of_methodNamed B.named B.method).1, hSx⟩ hP hD0.self va_S.rf hl
theorem MV.enter {post : S → Prop} {w1 : S → va_W} (hy : plainName y.cls = true) (hlen : (lg_sl av).length ≤ maxL)
    (body : ∀ (p : Program) (e : Env) (s : State) (m : MethodId) (below : List Frame) (meth : Method) (c : Code) (ls : Array Slot) (A : Nat → Prop), s.heap.size = sz → va_A ws sz = A → Cx p s m av.toArray meth c bytes maxL none y.cls y.name D cy A → va_P D vwCl ws s.heap → va_D A ws → va_S A s.heap s.heap [] → lv_has ls maxL (lv_args 0 av) →
      W p l e rm s m av.toArray below meth c s.heap [] 0 0 (MQ below (va_Qv post (Bx D A w1) A) av.toArray s rm.cells rm.slots A) (F0 m 0 ls [])) : MV l y bytes maxL rm D cy av sz ws post w1 := by
  refine Met.ofW (cc := bytes) (maxL := maxL) (ret := none) hy rfl ?_
  intro p e s m args below meth c s₁ B hml hv
  obtain ⟨rfl, hsz, hP, hK, hD0, hSx⟩ := hv
  have hts := atoms_spec (ws := .code y bytes maxL none :: gT) B.pre
  have hown : s.vm.findClass y.cls = some m.cls := findClass_of_methodNamed B.named
  have hl := lv_entry av (n := maxL) hlen
  rw [lg_entry_eq]
  exact body p e s m below meth c _ (va_A ws sz) hsz rfl ⟨B.exec, B.bytes, hml, hown, fun w h => hts w (List.mem_cons_of_mem _ h), hK, fun q h => Or.inr (by rw [← hsz]; exact h), B.returns, B.notSynchronized, (name_of_methodNamed B.named B.method).1, hSx⟩ hP hD0.self va_S.rf hl
end BaseA
section BaseB
variable {p : Program} {l : Launch} {e : Env} {R : Room} {s : State} {m : MethodId} {args : Array Value} {below : List Frame} {meth : Method} {c : Code} {H : Heap} {locs : List Loc} {cells slots : Nat} {Q : State → Prop}
variable {cc : ByteArray} {pc nL : Nat} {ls : Array Slot} {rest : List Value} {own nm : String} {ret0 : Option FieldType} {D : va_G} {cy : Nat → ClassId} {A : Nat → Prop} {ws : va_W}
theorem q_iret {rm : Room} {S : Type} {post : Int32 → S → Prop} {w1 : S → va_W} {v : Int32} {ty : FieldType} (C : Cx p s m args meth c cc nL (some ty) own nm D cy A) (hS : va_S A s.heap H locs) (u : S) (hv : narrow ty (.int v) = .int v) (hpost : post v u) (hP9 : va_P D vwCl (w1 u) H) (hD9 : va_D A (w1 u)) (hc : cells ≤ rm.cells) (hs : slots ≤ rm.slots) (hdg : decode cc pc = .ok (.ireturn, 1)) :
    W p l e R s m args below meth c H locs cells slots (MQ below (va_Qi post (Bx D A w1) A) args s rm.cells rm.slots A) (F0 m pc ls [.int v]) := by
  obtain ⟨hx, hb, -, -, -, -, -, hr, hlocks, -⟩ := C
  refine W.widen (k := rm.cells) (n := rm.slots) hc hs ?_
  exact W.zret hx hb hr hv (fun t ht hW => ⟨⟨v, u, rfl, hpost, by rw [ht]; exact hP9, hD9⟩, hS.F ht⟩) hS.2.2 hdg hlocks
theorem q_vret {rm : Room} {S : Type} {post : S → Prop} {w1 : S → va_W} (C : Cx p s m args meth c cc nL none own nm D cy A) (hS : va_S A s.heap H locs) (u : S) (hpost : post u) (hP9 : va_P D vwCl (w1 u) H) (hD9 : va_D A (w1 u)) (hc : cells ≤ rm.cells) (hs : slots ≤ rm.slots) (hdg : decode cc pc = .ok (.return_, 1)) :
    W p l e R s m args below meth c H locs cells slots (MQ below (va_Qv post (Bx D A w1) A) args s rm.cells rm.slots A) (F0 m pc ls []) := by
  obtain ⟨hx, hb, -, -, -, -, -, hr, hlocks, -⟩ := C
  refine W.widen (k := rm.cells) (n := rm.slots) hc hs ?_
  exact W.vret hx hb hr (fun t ht hW => ⟨⟨u, rfl, hpost, by rw [ht]; exact hP9, hD9⟩, hS.F ht⟩) hS.2.2 hdg hlocks
theorem q_val {x v : Int32} (hv : x = v) (k : W p l e R s m args below meth c H locs cells slots Q (F0 m pc ls (.int v :: rest))) : W p l e R s m args below meth c H locs cells slots Q (F0 m pc ls (.int x :: rest)) := hv ▸ k
theorem q_valL {x v : Int64} (hv : x = v) (k : W p l e R s m args below meth c H locs cells slots Q (F0 m pc ls (.long v :: rest))) : W p l e R s m args below meth c H locs cells slots Q (F0 m pc ls (.long x :: rest)) := hv ▸ k
theorem q_get {ref Cn : String} {T : u_T} {N index : Nat} (C : Cx p s m args meth c cc nL ret0 own nm D cy A) (hP : va_P D vwCl ws H) (q0 k : Nat) {a ci : Nat} {fs : List Value} {v : Value} (he : ws[q0]? = some (a, .inr (ci, fs))) (hc : vwCl[ci]? = some (Cn, T, N)) (hin : ∀ w ∈ u_ws Cn T N, w ∈ gT) (hk : k < N) (hlink : Cond.fieldLink own index ref (T k).2.1 (T k).2.2.1 ∈ gT) (href : (T k).1 = ref) (hv : fs[k]? = some v) (hdg : decode cc pc = .ok (.getfield index, 3))
    (kk : W p l e R s m args below meth c H locs cells slots Q (F0 m (pc + 3) ls (v :: rest))) : W p l e R s m args below meth c H locs cells slots Q (F0 m pc ls (.ref a :: rest)) := by
  obtain ⟨hx, hb, hml, hown, hts, hK, hA, hr, hlocks, -⟩ := C
  exact va_get hx hb hts hin hown hK.1 hP q0 he hc k hk (hts _ hlink) (fun _ h9 => by rw [← href]; exact h9) hv hdg kk
theorem q_put {ref Cn : String} {T : u_T} {N index : Nat} (C : Cx p s m args meth c cc nL ret0 own nm D cy A) (hP : va_P D vwCl ws H) (hD : va_D A ws) (hS : va_S A s.heap H locs) (q0 k : Nat) {a ci : Nat} {fs : List Value} {v : Value} {w' : va_W} {ty : FieldType} (he : ws[q0]? = some (a, .inr (ci, fs))) (hc : vwCl[ci]? = some (Cn, T, N)) (hin : ∀ w ∈ u_ws Cn T N, w ∈ gT) (ty0 : Nat → FieldType) (hty : ∀ k, k < N → parseFieldDescriptor (T k).2.2.1 = some (ty0 k)) (hnm : ∀ a, a < N → ∀ b, b < N → a ≠ b → (T a).2.1 ≠ (T b).2.1) (hk : k < N) (hlink : Cond.fieldLink own index ref (T k).2.1 (T k).2.2.1 ∈ gT) (href : (T k).1 = ref) (hfin : (T k).2.2.2 = false) (hd : ty0 k = ty) (hn : narrow ty v = v) (hfit : fits ty v = true) (hl : k < fs.length) (hw : ws.set q0 (a, .inr (ci, fs.set k v)) = w') (hdg : decode cc pc = .ok (.putfield index, 3))
    (kk : ∀ (H1 : Heap) (locs1 : List Loc), va_P D vwCl w' H1 → va_D A w' → va_S A s.heap H1 locs1 → W p l e R s m args below meth c H1 locs1 cells slots Q (F0 m (pc + 3) ls rest)) : W p l e R s m args below meth c H locs cells slots Q (F0 m pc ls (v :: .ref a :: rest)) := by
  obtain ⟨hx, hb, hml, hown, hts, hK, hA, hr, hlocks, -⟩ := C
  subst hw
  exact va_put hx hb hts hin ty0 hty hnm hown hK.1 hP hD hS q0 he hc k hk (hts _ hlink) (fun _ h9 => by rw [← href]; exact h9) hfin (by rw [hty k hk, hd]) hn hfit hl hdg kk
theorem q_putF {ref Cn : String} {T : u_T} {N index : Nat} (C : Cx p s m args meth c cc nL ret0 own "<init>" D cy A) (hP : va_P D vwCl ws H) (hD : va_D A ws) (hS : va_S A s.heap H locs) (q0 k : Nat) {a ci : Nat} {fs : List Value} {v : Value} {w' : va_W} {ty : FieldType} (he : ws[q0]? = some (a, .inr (ci, fs))) (hc : vwCl[ci]? = some (Cn, T, N)) (hin : ∀ w ∈ u_ws Cn T N, w ∈ gT) (ty0 : Nat → FieldType) (hty : ∀ k, k < N → parseFieldDescriptor (T k).2.2.1 = some (ty0 k)) (hnm : ∀ a, a < N → ∀ b, b < N → a ≠ b → (T a).2.1 ≠ (T b).2.1) (hk : k < N) (hlink : Cond.fieldLink own index ref (T k).2.1 (T k).2.2.1 ∈ gT) (href : (T k).1 = ref) (hown2 : (T k).1 = own) (hfin : (T k).2.2.2 = true) (hd : ty0 k = ty) (hn : narrow ty v = v) (hfit : fits ty v = true) (hl : k < fs.length) (hw : ws.set q0 (a, .inr (ci, fs.set k v)) = w') (hdg : decode cc pc = .ok (.putfield index, 3))
    (kk : ∀ (H1 : Heap) (locs1 : List Loc), va_P D vwCl w' H1 → va_D A w' → va_S A s.heap H1 locs1 → W p l e R s m args below meth c H1 locs1 cells slots Q (F0 m (pc + 3) ls rest)) : W p l e R s m args below meth c H locs cells slots Q (F0 m pc ls (v :: .ref a :: rest)) := by
  obtain ⟨hx, hb, hml, hown, hts, hK, hA, hr, hlocks, hin2, -⟩ := C
  subst hw
  exact va_putF hx hb hts hin ty0 hty hnm hown hK.1 hP hD hS q0 he hc k hk (hts _ hlink) (fun _ h9 => by rw [← href]; exact h9) hfin hin2 hown2 (by rw [hty k hk, hd]) hn hfit hl hdg kk
theorem q_iald (C : Cx p s m args meth c cc nL ret0 own nm D cy A) (hP : va_P D vwCl ws H) (q0 : Nat) {a n : Nat} {f : Nat → Int32} {i v : Int32} (ha : ws[q0]? = some (a, .inl (cy 1, n, .inl f))) (hin : vp_in i n) (hv : f i.toNatClampNeg = v) (hdg : decode cc pc = .ok (.iaload, 1))
    (kk : W p l e R s m args below meth c H locs cells slots Q (F0 m (pc + 1) ls (.int v :: rest))) : W p l e R s m args below meth c H locs cells slots Q (F0 m pc ls (.int i :: .ref a :: rest)) := by
  obtain ⟨hx, hb, hml, hown, hts, hK, hA, hr, hlocks, -⟩ := C
  subst hv
  exact va_iald hx hb hK.1 hP q0 1 ha rfl hin hdg kk
theorem q_iast (C : Cx p s m args meth c cc nL ret0 own nm D cy A) (hP : va_P D vwCl ws H) (hD : va_D A ws) (hS : va_S A s.heap H locs) (q0 : Nat) {a n : Nat} {f g : Nat → Int32} {i x : Int32} {w' : va_W} (ha : ws[q0]? = some (a, .inl (cy 1, n, .inl f))) (hin : vp_in i n) (hg : upd f i.toNatClampNeg x = g) (hw : ws.set q0 (a, .inl (cy 1, n, .inl g)) = w') (hdg : decode cc pc = .ok (.iastore, 1))
    (kk : ∀ (H1 : Heap) (locs1 : List Loc), va_P D vwCl w' H1 → va_D A w' → va_S A s.heap H1 locs1 → W p l e R s m args below meth c H1 locs1 cells slots Q (F0 m (pc + 1) ls rest)) : W p l e R s m args below meth c H locs cells slots Q (F0 m pc ls (.int x :: .int i :: .ref a :: rest)) := by
  obtain ⟨hx, hb, hml, hown, hts, hK, hA, hr, hlocks, -⟩ := C
  subst hw; subst hg
  exact va_iast hx hb hK.1 hP hD hS q0 1 ha rfl hin hdg kk
theorem q_bast (C : Cx p s m args meth c cc nL ret0 own nm D cy A) (hP : va_P D vwCl ws H) (hD : va_D A ws) (hS : va_S A s.heap H locs) (q0 t0 : Nat) {ty : FieldType} {cA : ClassId} (ht0 : (tyL cy)[t0]? = some (cA, ty)) (hty : ty = .byte) {a n : Nat} {f g : Nat → Int32} {i x : Int32} {w' : va_W} (ha : ws[q0]? = some (a, .inl (cA, n, .inl f))) (hin : vp_in i n) (hg : upd f i.toNatClampNeg (vp_nar .byte x) = g) (hw : ws.set q0 (a, .inl (cA, n, .inl g)) = w') (hdg : decode cc pc = .ok (.bastore, 1))
    (kk : ∀ (H1 : Heap) (locs1 : List Loc), va_P D vwCl w' H1 → va_D A w' → va_S A s.heap H1 locs1 → W p l e R s m args below meth c H1 locs1 cells slots Q (F0 m (pc + 1) ls rest)) : W p l e R s m args below meth c H locs cells slots Q (F0 m pc ls (.int x :: .int i :: .ref a :: rest)) := by
  obtain ⟨hx, hb, hml, hown, hts, hK, hA, hr, hlocks, -⟩ := C
  subst hw; subst hg; subst hty
  exact va_bast hx hb hK.1 hP hD hS q0 t0 ha ht0 hin hdg kk
theorem q_last (C : Cx p s m args meth c cc nL ret0 own nm D cy A) (hP : va_P D vwCl ws H) (hD : va_D A ws) (hS : va_S A s.heap H locs) (q0 : Nat) {a n : Nat} {f g : Nat → Int64} {i : Int32} {x : Int64} {w' : va_W} (ha : ws[q0]? = some (a, .inl (cy 2, n, .inr (.inl f)))) (hin : vp_in i n) (hg : vp_updL f i.toNatClampNeg x = g) (hw : ws.set q0 (a, .inl (cy 2, n, .inr (.inl g))) = w') (hdg : decode cc pc = .ok (.lastore, 1))
    (kk : ∀ (H1 : Heap) (locs1 : List Loc), va_P D vwCl w' H1 → va_D A w' → va_S A s.heap H1 locs1 → W p l e R s m args below meth c H1 locs1 cells slots Q (F0 m (pc + 1) ls rest)) : W p l e R s m args below meth c H locs cells slots Q (F0 m pc ls (.long x :: .int i :: .ref a :: rest)) := by
  obtain ⟨hx, hb, hml, hown, hts, hK, hA, hr, hlocks, -⟩ := C
  subst hw; subst hg
  exact va_last hx hb hK.1 hP hD hS q0 2 ha rfl hin hdg kk
theorem q_lald (C : Cx p s m args meth c cc nL ret0 own nm D cy A) (hP : va_P D vwCl ws H) (q0 : Nat) {a n : Nat} {f : Nat → Int64} {i : Int32} {v : Int64} (ha : ws[q0]? = some (a, .inl (cy 2, n, .inr (.inl f)))) (hin : vp_in i n) (hv : f i.toNatClampNeg = v) (hdg : decode cc pc = .ok (.laload, 1))
    (kk : W p l e R s m args below meth c H locs cells slots Q (F0 m (pc + 1) ls (.long v :: rest))) : W p l e R s m args below meth c H locs cells slots Q (F0 m pc ls (.int i :: .ref a :: rest)) := by
  obtain ⟨hx, hb, hml, hown, hts, hK, hA, hr, hlocks, -⟩ := C
  subst hv
  exact va_lald hx hb hK.1 hP q0 2 ha rfl hin hdg kk
theorem q_alen (C : Cx p s m args meth c cc nL ret0 own nm D cy A) (hP : va_P D vwCl ws H) (q0 t0 : Nat) {a : Nat} {cA : ClassId} {x : vp_A} {ty : FieldType} {v : Int32} (ha : ws[q0]? = some (a, .inl (cA, x))) (ht : (tyL cy)[t0]? = some (cA, ty)) (hv : Int32.ofNat x.1 = v) (hdg : decode cc pc = .ok (.arraylength, 1))
    (kk : W p l e R s m args below meth c H locs cells slots Q (F0 m (pc + 1) ls (.int v :: rest))) : W p l e R s m args below meth c H locs cells slots Q (F0 m pc ls (.ref a :: rest)) := by
  obtain ⟨hx, hb, hml, hown, hts, hK, hA, hr, hlocks, -⟩ := C
  exact va_alen hx hb hK.1 hP q0 t0 ha ht hv hdg kk
/-- a new array of a known type has the known class -/
theorem q_newa (C : Cx p s m args meth c cc nL ret0 own nm D cy A) (hP : va_P D vwCl ws H) (hD : va_D A ws) (hS : va_S A s.heap H locs) {atype : ArrayType} {ty : FieldType} (t0 : Nat) {cA : ClassId} (ht0 : (tyL cy)[t0]? = some (cA, ty)) (hRA : ∀ c1 : ClassId, va_RA s c1 ty → s.vm.findClass ("[" ++ ty.toString) = some c1) (harr : Cond.arrayClass ty ∈ gT) (hty : newarray.typeOf atype = ty)
    {n : Int32} {N' : Nat} {a0 : vp_A} (ha : ∀ cA : ClassId, vp_cell cA a0 = arrV cA N' (fun _ => defaultValue ty)) (hn : ¬ n < 0) (hN : n.toNatClampNeg = N') (hbytes : N' * componentBytes ty ≤ 536870912) (hcells : cells + 1 ≤ R.cells) (hslots : slots + N' ≤ R.slots) (hdg : decode cc pc = .ok (.newarray atype, 2))
    (kk : ∀ (q : Nat) (H1 : Heap), va_P D vwCl (ws ++ [(q, .inl (cA, a0))]) H1 → va_D A (ws ++ [(q, .inl (cA, a0))]) → va_S A s.heap H1 locs →
      W p l e R s m args below meth c H1 locs (cells + 1) (slots + N') Q (F0 m (pc + 2) ls (.ref q :: rest))) : W p l e R s m args below meth c H locs cells slots Q (F0 m pc ls (.int n :: rest)) := by
  obtain ⟨hx, hb, hml, hown, hts, hK, hA, hr, hlocks, -⟩ := C
  refine va_newa hx hb (by rw [hty]; exact hts _ harr) hty hK.1 hP hD hS hA ha hn hN hbytes hcells hslots hdg (fun q c1 H1 hK1 hP1 hD1 hS1 => ?_)
  have e1 := hRA _ (hK.1.2 t0 _ ht0).2
  have e2 := hRA _ (hK1.2 (tyL cy).length (c1, ty) (by simp)).2
  have e3 : cA = c1 := Option.some.inj (e1.symm.trans e2)
  subst e3
  exact kk q H1 hP1 hD1 hS1
theorem q_new {index ci N : Nat} {Cn : String} {T : u_T} {ty : Nat → FieldType} {fs : List Value} (C : Cx p s m args meth c cc nL ret0 own nm D cy A) (hP : va_P D vwCl ws H) (hD : va_D A ws) (hS : va_S A s.heap H locs) (hc : vwCl[ci]? = some (Cn, T, N)) (hin : ∀ w ∈ u_ws Cn T N, w ∈ gT) (hty : ∀ k, k < N → parseFieldDescriptor (T k).2.2.1 = some (ty k)) (hcl : Cond.classLink own index Cn ∈ gT) (hinst : Cond.instantiable Cn N ∈ gT) (hini : Cond.initialized Cn ∈ gT) (hfs : ∀ j, j < N → defaultValue (ty j) = vp_V fs j) (hcells : cells + 1 ≤ R.cells) (hslots : slots + N ≤ R.slots) (hdg : decode cc pc = .ok (.new index, 3))
    (kk : ∀ (q : Nat) (H1 : Heap), va_P D vwCl (ws ++ [(q, .inr (ci, fs))]) H1 → va_D A (ws ++ [(q, .inr (ci, fs))]) → va_S A s.heap H1 locs →
      W p l e R s m args below meth c H1 locs (cells + 1) (slots + N) Q (F0 m (pc + 3) ls (.ref q :: rest))) : W p l e R s m args below meth c H locs cells slots Q (F0 m pc ls rest) := by
  obtain ⟨hx, hb, hml, hown, hts, hK, hA, hr, hlocks, -⟩ := C
  exact va_new hx hb hts hin ty hty hown (hts _ hcl) (hts _ hinst) (hts _ hini) hK.1 hP hD hS hA hc hfs hcells hslots hdg kk
theorem q_obj {index a : Nat} (C : Cx p s m args meth c cc nL ret0 own nm D cy A) (hls : ls.size = nL) (hl : Cond.methodLink own index Lib.objectInit ∈ gT) (hf : 1 ≤ R.frames) (hlo : 2 * (F0 m pc ls (.ref a :: rest)).monitorRoom + (rest.map fun v => v.category).sum + 12 ≤ R.locals) (hdg : decode cc pc = .ok (.invokespecial index, 3))
    (kk : W p l e R s m args below meth c H locs cells slots Q (F0 m (pc + 3) ls rest)) (hc : cells ≤ R.cells) (hs : slots ≤ R.slots) : W p l e R s m args below meth c H locs cells slots Q (F0 m pc ls (.ref a :: rest)) := by
  obtain ⟨hx, hb, hml, hown, hts, hK, hA, hr, hlocks, -⟩ := C
  exact W.objInit hx hb hown (hts _ hl) (hts _ kobj1) (hts _ kobj2) rfl (hls.trans hml.symm) rfl hdg hf hlo kk
end BaseB
def MwV (Cn : String) (y : MethodName) (bytes : ByteArray) (maxL : Nat) (ret : Option FieldType) (n : Nat) : Prop := Cond.code y bytes maxL ret ∈ gT ∧ Cond.instanceMethod y ∈ gT ∧ Cond.selects Cn y y ∈ gT ∧ Cond.initialized Cn ∈ gT ∧ (y.cls = Cn ∧ y.cls ≠ "java/lang/invoke/MethodHandle" ∧ y.cls ≠ "java/lang/invoke/VarHandle" ∧ (parseMethodDescriptor y.desc).map (fun d => d.parameters.length) = some n)
def MwS (y : MethodName) (bytes : ByteArray) (maxL : Nat) (ret : Option FieldType) (n : Nat) : Prop := Cond.code y bytes maxL ret ∈ gT ∧ Cond.static y ∈ gT ∧ Cond.initialized y.cls ∈ gT ∧ (y.cls ≠ "java/lang/invoke/MethodHandle" ∧ y.cls ≠ "java/lang/invoke/VarHandle" ∧ (parseMethodDescriptor y.desc).map (fun d => d.parameters.length) = some n)
def MwI (y : MethodName) (bytes : ByteArray) (maxL : Nat) (n : Nat) : Prop := Cond.code y bytes maxL none ∈ gT ∧ Cond.instanceMethod y ∈ gT ∧ Cond.initialized y.cls ∈ gT ∧ y.name = "<init>" ∧ (y.cls ≠ "java/lang/invoke/MethodHandle" ∧ y.cls ≠ "java/lang/invoke/VarHandle" ∧ (parseMethodDescriptor y.desc).map (fun d => d.parameters.length) = some n)
theorem gIn {a : List Cond} (h : ∀ w ∈ a, w ∈ gT) : GoodIn gT a := fun w hw => ⟨h w hw, good_of_word (List.mem_filter.mp (h w hw)).2⟩
theorem gInC {w0 : Cond} (h : w0 ∈ gT) : GoodIn gT (w0 :: gT) := gIn (fun w hw => (List.mem_cons.mp hw).elim (fun e => by rw [e]; exact h) id)
section BaseC
variable {p : Program} {l : Launch} {e : Env} {R : Room} {s : State} {m : MethodId} {args : Array Value} {below : List Frame} {meth : Method} {c : Code} {H : Heap} {locs : List Loc} {cells slots : Nat} {Q : State → Prop}
variable {cc : ByteArray} {pc nL : Nat} {ls : Array Slot} {rest st0 : List Value} {own nm : String} {ret0 : Option FieldType} {D : va_G} {cy : Nat → ClassId} {A : Nat → Prop} {ws wc wr : va_W}
variable {y : MethodName} {bytes : ByteArray} {maxL : Nat} {ret : Option FieldType} {rm : Room} {S : Type} {As : List Value} {n index : Nat} {w1 : S → va_W}
theorem q_ai {post : Int32 → S → Prop} {a : Array Value} (hr : va_Run p l e R s m args below meth c H locs cells slots rm.cells rm.slots (F0 m pc ls st0) rest (va_Qi post (Bx D (va_A wc H.size) w1) (va_A wc H.size) a) (va_A wc H.size)) (hA : ∀ q, s.heap.size ≤ q → A q) (hP : va_P D vwCl ws H) (hD : va_D A ws) (hS : va_S A s.heap H locs) (isC isR : List Nat) (hC : isC.map (fun i => ws[i]?) = wc.map some) (hR : isR.map (fun i => ws[i]?) = wr.map some) (hn : va_nd isR = true) (hdis : ∀ i ∈ isR, i ∉ isC)
    (kk : ∀ (r : Int32) (u : S) (H1 : Heap) (locs1 : List Loc), post r u → va_P D vwCl (wr ++ w1 u) H1 → va_D A (wr ++ w1 u) → va_S A s.heap H1 locs1 → W p l e R s m args below meth c H1 locs1 (cells + rm.cells) (slots + rm.slots) Q (F0 m (pc + 3) ls (.int r :: rest))) : W p l e R s m args below meth c H locs cells slots Q (F0 m pc ls st0) := by
  have hFc := va_free (wc := wc) hD hS hA isC hC
  refine va_calli hr hS (fun q _ h => hFc q h) hFc (fun r u t H1 locs1 ht hvm hw hB hz1 hk1 hS1 => ?_)
  obtain ⟨hP1, hD1⟩ := hB
  rw [ht] at hP1
  obtain ⟨hP2, hD2⟩ := va_join (wr := wr) (w1 := w1 u) hP hD isC isR hC hR hn hdis hk1 hFc hP1 hD1
  exact kk r u H1 locs1 hw hP2 hD2 hS1
theorem q_av {post : S → Prop} {a : Array Value} (hr : va_Run p l e R s m args below meth c H locs cells slots rm.cells rm.slots (F0 m pc ls st0) rest (va_Qv post (Bx D (va_A wc H.size) w1) (va_A wc H.size) a) (va_A wc H.size)) (hA : ∀ q, s.heap.size ≤ q → A q) (hP : va_P D vwCl ws H) (hD : va_D A ws) (hS : va_S A s.heap H locs) (isC isR : List Nat) (hC : isC.map (fun i => ws[i]?) = wc.map some) (hR : isR.map (fun i => ws[i]?) = wr.map some) (hn : va_nd isR = true) (hdis : ∀ i ∈ isR, i ∉ isC)
    (kk : ∀ (u : S) (H1 : Heap) (locs1 : List Loc), post u → va_P D vwCl (wr ++ w1 u) H1 → va_D A (wr ++ w1 u) → va_S A s.heap H1 locs1 → W p l e R s m args below meth c H1 locs1 (cells + rm.cells) (slots + rm.slots) Q (F0 m (pc + 3) ls rest)) : W p l e R s m args below meth c H locs cells slots Q (F0 m pc ls st0) := by
  have hFc := va_free (wc := wc) hD hS hA isC hC
  refine va_callv hr hS (fun q _ h => hFc q h) hFc (fun u t H1 locs1 ht hvm hw hB hz1 hk1 hS1 => ?_)
  obtain ⟨hP1, hD1⟩ := hB
  rw [ht] at hP1
  obtain ⟨hP2, hD2⟩ := va_join (wr := wr) (w1 := w1 u) hP hD isC isR hC hR hn hdis hk1 hFc hP1 hD1
  exact kk u H1 locs1 hw hP2 hD2 hS1
theorem q_subP (hP : va_P D vwCl ws H) (isC : List Nat) (hC : isC.map (fun i => ws[i]?) = wc.map some) : va_P D vwCl wc H := by
  intro k q hk
  have h1 : (isC.map (fun i => ws[i]?))[k]? = some (some q) := by rw [hC, List.getElem?_map, hk]; rfl
  rw [List.getElem?_map] at h1
  cases h2 : isC[k]? with
  | none => rw [h2] at h1; cases h1
  | some i =>
    rw [h2] at h1
    exact hP i q (Option.some.inj h1)
theorem r_V {Cn : String} {T : u_T} {N ci q0 b : Nat} {fs : List Value} {Qc : Array Value → State → Outcome → State → Prop} (C : Cx p s m args meth c cc nL ret0 own nm D cy A) (hS : va_S A s.heap H locs) (hPc : va_P D vwCl wc H) (hDc : va_D A wc) (hM : Met l y (.code y bytes maxL ret :: gT) rm (va_Pc (.ref b :: As) (Px D cy H.size wc)) Qc rm.cells rm.slots (va_A wc H.size))
    (hw : MwV Cn y bytes maxL ret n) (hl : Cond.methodLink own index y ∈ gT) (hc : vwCl[ci]? = some (Cn, T, N)) (he : wc[q0]? = some (b, .inr (ci, fs))) (hR : rm.frames + 1 ≤ R.frames ∧ 8 + (maxL + 11) + rm.locals ≤ R.locals) (hn : As.length = n) (hls : ls.size = nL) (hst : st0 = As.reverse ++ .ref b :: rest) (h8 : (rest.map fun v => v.category).sum ≤ 8) (hdg : decode cc pc = .ok (.invokevirtual index, 3)) (hcs : cells + rm.cells ≤ R.cells ∧ slots + rm.slots ≤ R.slots) :
    va_Run p l e R s m args below meth c H locs cells slots rm.cells rm.slots (F0 m pc ls st0) rest (Qc (Value.ref b :: As).toArray) (va_A wc H.size) := by
  obtain ⟨hx, hb, hml, hown, hts, hK, hA, hr, hlocks, -, hSx⟩ := C
  obtain ⟨k1, k2, k3, k4, k5⟩ := hw
  refine va_runV (As := As) (rest := rest) ⟨hx, hb, hml, hown, hts⟩ hM (cwV n hts (gIn (fun w h => ?_)) rfl rfl rfl k5 hR) ⟨Px.blind, va_recv hK.1 hPc hc he, fun U hU hW => ⟨rfl, by rw [hU], by rw [hU]; exact hPc, hK.warm hW, hDc.weaken (fun _ _ _ _ => trivial), hSx.call hA hS hDc hU hW⟩⟩ rfl hn hls hst (lv_room h8) hdg hcs
  rcases List.mem_append.mp h with h | h
  · simp only [List.mem_cons, List.not_mem_nil, or_false] at h
    rcases h with rfl | rfl | rfl | rfl
    · exact hl
    · exact k2
    · exact k3
    · exact k4
  · rcases List.mem_cons.mp h with rfl | h
    · exact k1
    · exact h
theorem r_S {Qc : Array Value → State → Outcome → State → Prop} (C : Cx p s m args meth c cc nL ret0 own nm D cy A) (hS : va_S A s.heap H locs) (hPc : va_P D vwCl wc H) (hDc : va_D A wc) (hM : Met l y (.code y bytes maxL ret :: gT) rm (va_Pc As (Px D cy H.size wc)) Qc rm.cells rm.slots (va_A wc H.size))
    (hw : MwS y bytes maxL ret n) (hl : Cond.methodLink own index y ∈ gT) (hR : rm.frames + 1 ≤ R.frames ∧ 8 + (maxL + 11) + rm.locals ≤ R.locals) (hn : As.length = n) (hls : ls.size = nL) (hst : st0 = As.reverse ++ rest) (h8 : (rest.map fun v => v.category).sum ≤ 8) (hdg : decode cc pc = .ok (.invokestatic index, 3)) (hcs : cells + rm.cells ≤ R.cells ∧ slots + rm.slots ≤ R.slots) :
    va_Run p l e R s m args below meth c H locs cells slots rm.cells rm.slots (F0 m pc ls st0) rest (Qc As.toArray) (va_A wc H.size) := by
  obtain ⟨hx, hb, hml, hown, hts, hK, hA, hr, hlocks, -, hSx⟩ := C
  obtain ⟨k1, k2, k3, k5⟩ := hw
  refine va_runS (As := As) (rest := rest) ⟨hx, hb, hml, hown, hts⟩ hM (va_cwS n hts (gIn (fun w h => ?_)) rfl rfl rfl k5 hR) ⟨Px.blind, fun U hU hW => ⟨rfl, by rw [hU], by rw [hU]; exact hPc, hK.warm hW, hDc.weaken (fun _ _ _ _ => trivial), hSx.call hA hS hDc hU hW⟩⟩ rfl hn hls hst (lv_room h8) hdg hcs
  rcases List.mem_append.mp h with h | h
  · simp only [List.mem_cons, List.not_mem_nil, or_false] at h
    rcases h with rfl | rfl | rfl
    · exact hl
    · exact k2
    · exact k3
  · rcases List.mem_cons.mp h with rfl | h
    · exact k1
    · exact h
theorem r_SN {host : String} {Qc : Array Value → State → Outcome → State → Prop} (C : Cx p s m args meth c cc nL ret0 own nm D cy A) (hS : va_S A s.heap H locs) (hPc : va_P D vwCl wc H) (hDc : va_D A wc) (hM : Met l y (.code y bytes maxL ret :: gT) rm (va_Pc As (Px D cy H.size wc)) Qc rm.cells rm.slots (va_A wc H.size))
    (hw : MwS y bytes maxL ret n) (hl : (own, index, y, host) ∈ nestQ) (hR : rm.frames + 1 ≤ R.frames ∧ 8 + (maxL + 11) + rm.locals ≤ R.locals) (hn : As.length = n) (hls : ls.size = nL) (hst : st0 = As.reverse ++ rest) (h8 : (rest.map fun v => v.category).sum ≤ 8) (hdg : decode cc pc = .ok (.invokestatic index, 3)) (hcs : cells + rm.cells ≤ R.cells ∧ slots + rm.slots ≤ R.slots) :
    va_Run p l e R s m args below meth c H locs cells slots rm.cells rm.slots (F0 m pc ls st0) rest (Qc As.toArray) (va_A wc H.size) := by
  obtain ⟨hx, hb, hml, hown, hts, hK, hA, hr, hlocks, -, hSx⟩ := C
  obtain ⟨k1, k2, k3, k5⟩ := hw
  exact va_runSN (As := As) (rest := rest) ⟨hx, hb, hml, hown, hts⟩ hM ⟨va_cnB n hts (gInC k1) rfl rfl rfl (hK.2.1 _ hl) (hts _ k3) k5 hR, hts _ k2, trivial⟩ ⟨Px.blind, fun U hU hW => ⟨rfl, by rw [hU], by rw [hU]; exact hPc, hK.warm hW, hDc.weaken (fun _ _ _ _ => trivial), hSx.call hA hS hDc hU hW⟩⟩ rfl hn hls hst (lv_room h8) hdg hcs
theorem r_I {b : Nat} {Qc : Array Value → State → Outcome → State → Prop} (C : Cx p s m args meth c cc nL ret0 own nm D cy A) (hS : va_S A s.heap H locs) (hPc : va_P D vwCl wc H) (hDc : va_D A wc) (hM : Met l y (.code y bytes maxL none :: gT) rm (va_Pc (.ref b :: As) (Px D cy H.size wc)) Qc rm.cells rm.slots (va_A wc H.size))
    (hw : MwI y bytes maxL n) (hl : Cond.methodLink own index y ∈ gT) (hR : rm.frames + 1 ≤ R.frames ∧ 8 + (maxL + 11) + rm.locals ≤ R.locals) (hn : As.length = n) (hls : ls.size = nL) (hst : st0 = As.reverse ++ .ref b :: rest) (h8 : (rest.map fun v => v.category).sum ≤ 8) (hdg : decode cc pc = .ok (.invokespecial index, 3)) (hcs : cells + rm.cells ≤ R.cells ∧ slots + rm.slots ≤ R.slots) :
    va_Run p l e R s m args below meth c H locs cells slots rm.cells rm.slots (F0 m pc ls st0) rest (Qc (Value.ref b :: As).toArray) (va_A wc H.size) := by
  obtain ⟨hx, hb, hml, hown, hts, hK, hA, hr, hlocks, -, hSx⟩ := C
  obtain ⟨k1, k2, k3, k4, k5⟩ := hw
  exact va_runI (As := As) (rest := rest) ⟨hx, hb, hml, hown, hts⟩ hM (cwI n hts (gInC k1) rfl rfl rfl (hts _ k3) (hts _ hl) (hts _ k2) k4 k5 hR) ⟨Px.blind, fun U hU hW => ⟨rfl, by rw [hU], by rw [hU]; exact hPc, hK.warm hW, hDc.weaken (fun _ _ _ _ => trivial), hSx.call hA hS hDc hU hW⟩⟩ rfl hn hls hst (lv_room h8) hdg hcs
theorem r_IN {b : Nat} {host : String} {Qc : Array Value → State → Outcome → State → Prop} (C : Cx p s m args meth c cc nL ret0 own nm D cy A) (hS : va_S A s.heap H locs) (hPc : va_P D vwCl wc H) (hDc : va_D A wc) (hM : Met l y (.code y bytes maxL none :: gT) rm (va_Pc (.ref b :: As) (Px D cy H.size wc)) Qc rm.cells rm.slots (va_A wc H.size))
    (hw : MwI y bytes maxL n) (hl : (own, index, y, host) ∈ nestQ) (hR : rm.frames + 1 ≤ R.frames ∧ 8 + (maxL + 11) + rm.locals ≤ R.locals) (hn : As.length = n) (hls : ls.size = nL) (hst : st0 = As.reverse ++ .ref b :: rest) (h8 : (rest.map fun v => v.category).sum ≤ 8) (hdg : decode cc pc = .ok (.invokespecial index, 3)) (hcs : cells + rm.cells ≤ R.cells ∧ slots + rm.slots ≤ R.slots) :
    va_Run p l e R s m args below meth c H locs cells slots rm.cells rm.slots (F0 m pc ls st0) rest (Qc (Value.ref b :: As).toArray) (va_A wc H.size) := by
  obtain ⟨hx, hb, hml, hown, hts, hK, hA, hr, hlocks, -, hSx⟩ := C
  obtain ⟨k1, k2, k3, k4, k5⟩ := hw
  exact va_runIN (As := As) (rest := rest) ⟨hx, hb, hml, hown, hts⟩ hM ⟨va_cnB n hts (gInC k1) rfl rfl rfl (hK.2.1 _ hl) (hts _ k3) k5 hR, k4, hts _ k2⟩ ⟨Px.blind, fun U hU hW => ⟨rfl, by rw [hU], by rw [hU]; exact hPc, hK.warm hW, hDc.weaken (fun _ _ _ _ => trivial), hSx.call hA hS hDc hU hW⟩⟩ rfl hn hls hst (lv_room h8) hdg hcs
end BaseC
