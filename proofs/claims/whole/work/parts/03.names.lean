def RX0 : String := "TravellingPictures$Book"
def TX0 : u_T := fun k => match k with
  | 0 => ("TravellingPictures$Book", "hours", "[I", true)
  | 1 => ("TravellingPictures$Book", "works", "[I", true)
  | 2 => ("TravellingPictures$Book", "clauses", "[I", true)
  | _ => ("TravellingPictures$Book", "counted", "I", false)
def tyX0 : Nat → FieldType := fun k => match k with
  | 0 => .array .int
  | 1 => .array .int
  | 2 => .array .int
  | _ => .int
abbrev wsX00 : List Cond := u_ws RX0 TX0 4
theorem nmX0 : ∀ a, a < 4 → ∀ b, b < 4 → a ≠ b → (TX0 a).2.1 ≠ (TX0 b).2.1 := by decide +kernel
theorem tyX0_ok : ∀ k, k < 4 → parseFieldDescriptor (TX0 k).2.2.1 = some (tyX0 k) := by decide +kernel
abbrev cX0_init : ByteArray := prog_2_method_1_code
def yX0_init : MethodName := ⟨RX0, "<init>", "()V"⟩
abbrev cX0_note : ByteArray := prog_2_method_2_code
def yX0_note : MethodName := ⟨RX0, "note", "(III)V"⟩
abbrev cX0_kept : ByteArray := prog_2_method_3_code
def yX0_kept : MethodName := ⟨RX0, "kept", "()I"⟩
def RX1 : String := "TravellingPictures$Clause"
def TX1 : u_T := fun k => match k with
  | 0 => ("TravellingPictures$Clause", "kind", "LTravellingPictures$Kind;", true)
  | 1 => ("TravellingPictures$Clause", "first", "I", true)
  | _ => ("TravellingPictures$Clause", "second", "I", true)
def tyX1 : Nat → FieldType := fun k => match k with
  | 0 => .object "TravellingPictures$Kind"
  | 1 => .int
  | _ => .int
abbrev wsX10 : List Cond := u_ws RX1 TX1 3
theorem nmX1 : ∀ a, a < 3 → ∀ b, b < 3 → a ≠ b → (TX1 a).2.1 ≠ (TX1 b).2.1 := by decide +kernel
theorem tyX1_ok : ∀ k, k < 3 → parseFieldDescriptor (TX1 k).2.2.1 = some (tyX1 k) := by decide +kernel
abbrev cX1_init : ByteArray := prog_3_method_1_code
def yX1_init : MethodName := ⟨RX1, "<init>", "(LTravellingPictures$Kind;II)V"⟩
abbrev cX1_bars : ByteArray := prog_3_method_2_code
def yX1_bars : MethodName := ⟨RX1, "bars", "(III)Z"⟩
def RX2 : String := "TravellingPictures$Crate"
def TX2 : u_T := fun k => match k with
  | 0 => ("TravellingPictures$Crate", "wide", "I", true)
  | 1 => ("TravellingPictures$Crate", "high", "I", true)
  | 2 => ("TravellingPictures$Crate", "load", "Ljava/util/ArrayList;", true)
  | 3 => ("TravellingPictures$Crate", "city", "I", false)
  | _ => ("TravellingPictures$Crate", "comes", "I", false)
def tyX2 : Nat → FieldType := fun k => match k with
  | 0 => .int
  | 1 => .int
  | 2 => .object "java/util/ArrayList"
  | 3 => .int
  | _ => .int
abbrev wsX20 : List Cond := u_ws RX2 TX2 5
theorem nmX2 : ∀ a, a < 5 → ∀ b, b < 5 → a ≠ b → (TX2 a).2.1 ≠ (TX2 b).2.1 := by decide +kernel
theorem tyX2_ok : ∀ k, k < 5 → parseFieldDescriptor (TX2 k).2.2.1 = some (tyX2 k) := by decide +kernel
abbrev cX2_init : ByteArray := prog_4_method_1_code
def yX2_init : MethodName := ⟨RX2, "<init>", "(II)V"⟩
abbrev cX2_isWideEnough : ByteArray := prog_4_method_2_code
def yX2_isWideEnough : MethodName := ⟨RX2, "isWideEnough", "(LTravellingPictures$Work;)Z"⟩
def RX3 : String := "TravellingPictures$Hanger"
def TX3 : u_T := fun k => match k with
  | 0 => ("TravellingPictures$Hanger", "numbers", "[I", true)
  | 1 => ("TravellingPictures$Hanger", "heights", "[I", true)
  | 2 => ("TravellingPictures$Hanger", "chapters", "[I", true)
  | 3 => ("TravellingPictures$Hanger", "apart", "[I", true)
  | 4 => ("TravellingPictures$Hanger", "mates", "[I", true)
  | 5 => ("TravellingPictures$Hanger", "least", "[I", true)
  | 6 => ("TravellingPictures$Hanger", "best", "[I", true)
  | 7 => ("TravellingPictures$Hanger", "size", "I", false)
  | _ => ("TravellingPictures$Hanger", "lengthTaken", "I", false)
def tyX3 : Nat → FieldType := fun k => match k with
  | 0 => .array .int
  | 1 => .array .int
  | 2 => .array .int
  | 3 => .array .int
  | 4 => .array .int
  | 5 => .array .int
  | 6 => .array .int
  | 7 => .int
  | _ => .int
abbrev wsX30 : List Cond := u_ws RX3 TX3 9
theorem nmX3 : ∀ a, a < 9 → ∀ b, b < 9 → a ≠ b → (TX3 a).2.1 ≠ (TX3 b).2.1 := by decide +kernel
theorem tyX3_ok : ∀ k, k < 9 → parseFieldDescriptor (TX3 k).2.2.1 = some (tyX3 k) := by decide +kernel
abbrev cX3_init : ByteArray := prog_5_method_1_code
def yX3_init : MethodName := ⟨RX3, "<init>", "()V"⟩
abbrev cX3_clear : ByteArray := prog_5_method_2_code
def yX3_clear : MethodName := ⟨RX3, "clear", "()V"⟩
abbrev cX3_take : ByteArray := prog_5_method_3_code
def yX3_take : MethodName := ⟨RX3, "take", "(LTravellingPictures$Work;)V"⟩
abbrev cX3_keepApart : ByteArray := prog_5_method_4_code
def yX3_keepApart : MethodName := ⟨RX3, "keepApart", "(II)V"⟩
abbrev cX3_findBest : ByteArray := prog_5_method_5_code
def yX3_findBest : MethodName := ⟨RX3, "findBest", "()I"⟩
abbrev cX3_findMates : ByteArray := prog_5_method_6_code
def yX3_findMates : MethodName := ⟨RX3, "findMates", "()V"⟩
abbrev cX3_leastBehind : ByteArray := prog_5_method_7_code
def yX3_leastBehind : MethodName := ⟨RX3, "leastBehind", "(II)I"⟩
abbrev cX3_stepsThrough : ByteArray := prog_5_method_8_code
def yX3_stepsThrough : MethodName := ⟨RX3, "stepsThrough", "(III)I"⟩
abbrev cX3_mayFollow : ByteArray := prog_5_method_9_code
def yX3_mayFollow : MethodName := ⟨RX3, "mayFollow", "(III)Z"⟩
abbrev cX3_leastFirst : ByteArray := prog_5_method_10_code
def yX3_leastFirst : MethodName := ⟨RX3, "leastFirst", "()I"⟩
abbrev cX3_writeBest : ByteArray := prog_5_method_11_code
def yX3_writeBest : MethodName := ⟨RX3, "writeBest", "(I)V"⟩
abbrev cX3_nextOfBest : ByteArray := prog_5_method_12_code
def yX3_nextOfBest : MethodName := ⟨RX3, "nextOfBest", "(II)I"⟩
def RX4 : String := "TravellingPictures$Kind"
def TX4 : u_T := fun k => match k with
  | _ => ("", "", "", false)
def tyX4 : Nat → FieldType := fun k => match k with
  | _ => .int
abbrev wsX40 : List Cond := u_ws RX4 TX4 0
theorem nmX4 : ∀ a, a < 0 → ∀ b, b < 0 → a ≠ b → (TX4 a).2.1 ≠ (TX4 b).2.1 := by decide +kernel
theorem tyX4_ok : ∀ k, k < 0 → parseFieldDescriptor (TX4 k).2.2.1 = some (tyX4 k) := by decide +kernel
def RX5 : String := "TravellingPictures$Line"
def TX5 : u_T := fun k => match k with
  | 0 => ("TravellingPictures$Line", "hour", "I", true)
  | 1 => ("TravellingPictures$Line", "place", "I", true)
  | _ => ("TravellingPictures$Line", "which", "I", true)
def tyX5 : Nat → FieldType := fun k => match k with
  | 0 => .int
  | 1 => .int
  | _ => .int
abbrev wsX50 : List Cond := u_ws RX5 TX5 3
theorem nmX5 : ∀ a, a < 3 → ∀ b, b < 3 → a ≠ b → (TX5 a).2.1 ≠ (TX5 b).2.1 := by decide +kernel
theorem tyX5_ok : ∀ k, k < 3 → parseFieldDescriptor (TX5 k).2.2.1 = some (tyX5 k) := by decide +kernel
abbrev cX5_init : ByteArray := prog_7_method_1_code
def yX5_init : MethodName := ⟨RX5, "<init>", "(III)V"⟩
def RX6 : String := "TravellingPictures$Loan"
def TX6 : u_T := fun k => match k with
  | 0 => ("TravellingPictures$Loan", "number", "I", true)
  | 1 => ("TravellingPictures$Loan", "lender", "I", true)
  | 2 => ("TravellingPictures$Loan", "day", "I", true)
  | _ => ("TravellingPictures$Loan", "clauses", "Ljava/util/ArrayList;", true)
def tyX6 : Nat → FieldType := fun k => match k with
  | 0 => .int
  | 1 => .int
  | 2 => .int
  | _ => .object "java/util/ArrayList"
abbrev wsX60 : List Cond := u_ws RX6 TX6 4
theorem nmX6 : ∀ a, a < 4 → ∀ b, b < 4 → a ≠ b → (TX6 a).2.1 ≠ (TX6 b).2.1 := by decide +kernel
theorem tyX6_ok : ∀ k, k < 4 → parseFieldDescriptor (TX6 k).2.2.1 = some (tyX6 k) := by decide +kernel
abbrev cX6_init : ByteArray := prog_8_method_1_code
def yX6_init : MethodName := ⟨RX6, "<init>", "(III)V"⟩
abbrev cX6_keepsApartFrom : ByteArray := prog_8_method_2_code
def yX6_keepsApartFrom : MethodName := ⟨RX6, "keepsApartFrom", "(I)Z"⟩
abbrev cX6_greatestRest : ByteArray := prog_8_method_3_code
def yX6_greatestRest : MethodName := ⟨RX6, "greatestRest", "()I"⟩
abbrev cX6_leastLight : ByteArray := prog_8_method_4_code
def yX6_leastLight : MethodName := ⟨RX6, "leastLight", "()I"⟩
abbrev cX6_openCities : ByteArray := prog_8_method_5_code
def yX6_openCities : MethodName := ⟨RX6, "openCities", "()I"⟩
def RX7 : String := "TravellingPictures$Reader"
def TX7 : u_T := fun k => match k with
  | 0 => ("TravellingPictures$Reader", "text", "[B", true)
  | 1 => ("TravellingPictures$Reader", "length", "I", true)
  | 2 => ("TravellingPictures$Reader", "clauses", "Ljava/util/ArrayList;", true)
  | 3 => ("TravellingPictures$Reader", "at", "I", false)
  | _ => ("TravellingPictures$Reader", "fault", "I", false)
def tyX7 : Nat → FieldType := fun k => match k with
  | 0 => .array .byte
  | 1 => .int
  | 2 => .object "java/util/ArrayList"
  | 3 => .int
  | _ => .int
abbrev wsX70 : List Cond := u_ws RX7 TX7 5
theorem nmX7 : ∀ a, a < 5 → ∀ b, b < 5 → a ≠ b → (TX7 a).2.1 ≠ (TX7 b).2.1 := by decide +kernel
theorem tyX7_ok : ∀ k, k < 5 → parseFieldDescriptor (TX7 k).2.2.1 = some (tyX7 k) := by decide +kernel
abbrev cX7_init : ByteArray := prog_9_method_1_code
def yX7_init : MethodName := ⟨RX7, "<init>", "([BILjava/util/ArrayList;)V"⟩
abbrev cX7_readText : ByteArray := prog_9_method_2_code
def yX7_readText : MethodName := ⟨RX7, "readText", "()V"⟩
abbrev cX7_readClause : ByteArray := prog_9_method_3_code
def yX7_readClause : MethodName := ⟨RX7, "readClause", "()V"⟩
abbrev cX7_mostOf : ByteArray := prog_9_method_4_code
def yX7_mostOf : MethodName := ⟨RX7, "mostOf", "(LTravellingPictures$Kind;)I"⟩
abbrev cX7_readWord : ByteArray := prog_9_method_5_code
def yX7_readWord : MethodName := ⟨RX7, "readWord", "()LTravellingPictures$Kind;"⟩
abbrev cX7_isWord : ByteArray := prog_9_method_6_code
def yX7_isWord : MethodName := ⟨RX7, "isWord", "(Ljava/lang/String;I)Z"⟩
abbrev cX7_readCities : ByteArray := prog_9_method_7_code
def yX7_readCities : MethodName := ⟨RX7, "readCities", "()I"⟩
abbrev cX7_isDigitNext : ByteArray := prog_9_method_8_code
def yX7_isDigitNext : MethodName := ⟨RX7, "isDigitNext", "()Z"⟩
abbrev cX7_readNumber : ByteArray := prog_9_method_9_code
def yX7_readNumber : MethodName := ⟨RX7, "readNumber", "(I)I"⟩
abbrev cX7_readSign : ByteArray := prog_9_method_10_code
def yX7_readSign : MethodName := ⟨RX7, "readSign", "(C)V"⟩
abbrev cX7_skipBlanks : ByteArray := prog_9_method_11_code
def yX7_skipBlanks : MethodName := ⟨RX7, "skipBlanks", "()V"⟩
abbrev cX7_isDigit : ByteArray := prog_9_method_12_code
def yX7_isDigit : MethodName := ⟨RX7, "isDigit", "()Z"⟩
abbrev cX7_failAt : ByteArray := prog_9_method_13_code
def yX7_failAt : MethodName := ⟨RX7, "failAt", "(I)V"⟩
def RX8 : String := "TravellingPictures$Room"
def TX8 : u_T := fun k => match k with
  | 0 => ("TravellingPictures$Room", "city", "I", true)
  | 1 => ("TravellingPictures$Room", "length", "I", true)
  | 2 => ("TravellingPictures$Room", "lux", "I", true)
  | 3 => ("TravellingPictures$Room", "open", "I", true)
  | 4 => ("TravellingPictures$Room", "shut", "I", true)
  | 5 => ("TravellingPictures$Room", "hung", "Ljava/util/ArrayList;", true)
  | 6 => ("TravellingPictures$Room", "airSheet", "LTravellingPictures$Sheet;", false)
  | 7 => ("TravellingPictures$Room", "airRow", "I", false)
  | 8 => ("TravellingPictures$Room", "airState", "I", false)
  | 9 => ("TravellingPictures$Room", "airNumber", "I", false)
  | _ => ("TravellingPictures$Room", "unknownHours", "I", false)
def tyX8 : Nat → FieldType := fun k => match k with
  | 0 => .int
  | 1 => .int
  | 2 => .int
  | 3 => .int
  | 4 => .int
  | 5 => .object "java/util/ArrayList"
  | 6 => .object "TravellingPictures$Sheet"
  | 7 => .int
  | 8 => .int
  | 9 => .int
  | _ => .int
abbrev wsX80 : List Cond := u_ws RX8 TX8 11
theorem nmX8 : ∀ a, a < 11 → ∀ b, b < 11 → a ≠ b → (TX8 a).2.1 ≠ (TX8 b).2.1 := by decide +kernel
theorem tyX8_ok : ∀ k, k < 11 → parseFieldDescriptor (TX8 k).2.2.1 = some (tyX8 k) := by decide +kernel
abbrev cX8_init : ByteArray := prog_10_method_1_code
def yX8_init : MethodName := ⟨RX8, "<init>", "(IIIII)V"⟩
abbrev cX8_luxAt : ByteArray := prog_10_method_2_code
def yX8_luxAt : MethodName := ⟨RX8, "luxAt", "(I)I"⟩
abbrev cX8_lengthTaken : ByteArray := prog_10_method_3_code
def yX8_lengthTaken : MethodName := ⟨RX8, "lengthTaken", "()I"⟩
abbrev cX8_takeAway : ByteArray := prog_10_method_4_code
def yX8_takeAway : MethodName := ⟨RX8, "takeAway", "(LTravellingPictures$Work;)V"⟩
abbrev cX8_takeAir : ByteArray := prog_10_method_5_code
def yX8_takeAir : MethodName := ⟨RX8, "takeAir", "(I)V"⟩
abbrev cX8_isAirOutside : ByteArray := prog_10_method_6_code
def yX8_isAirOutside : MethodName := ⟨RX8, "isAirOutside", "(II)Z"⟩
def RX9 : String := "TravellingPictures$Sheet"
def TX9 : u_T := fun k => match k with
  | 0 => ("TravellingPictures$Sheet", "lengths", "[I", true)
  | _ => ("TravellingPictures$Sheet", "bits", "[I", true)
def tyX9 : Nat → FieldType := fun k => match k with
  | 0 => .array .int
  | _ => .array .int
abbrev wsX90 : List Cond := u_ws RX9 TX9 2
theorem nmX9 : ∀ a, a < 2 → ∀ b, b < 2 → a ≠ b → (TX9 a).2.1 ≠ (TX9 b).2.1 := by decide +kernel
theorem tyX9_ok : ∀ k, k < 2 → parseFieldDescriptor (TX9 k).2.2.1 = some (tyX9 k) := by decide +kernel
abbrev cX9_init : ByteArray := prog_11_method_1_code
def yX9_init : MethodName := ⟨RX9, "<init>", "()V"⟩
abbrev cX9_isMissing : ByteArray := prog_11_method_2_code
def yX9_isMissing : MethodName := ⟨RX9, "isMissing", "(I)Z"⟩
abbrev cX9_hasNumber : ByteArray := prog_11_method_3_code
def yX9_hasNumber : MethodName := ⟨RX9, "hasNumber", "(II)Z"⟩
abbrev cX9_renew : ByteArray := prog_11_method_4_code
def yX9_renew : MethodName := ⟨RX9, "renew", "(II)V"⟩
abbrev cX9_lose : ByteArray := prog_11_method_5_code
def yX9_lose : MethodName := ⟨RX9, "lose", "(I)V"⟩
abbrev cX9_write : ByteArray := prog_11_method_6_code
def yX9_write : MethodName := ⟨RX9, "write", "(III)V"⟩
abbrev cX9_bitsAt : ByteArray := prog_11_method_7_code
def yX9_bitsAt : MethodName := ⟨RX9, "bitsAt", "(II)I"⟩
abbrev cX9_isNoNumber : ByteArray := prog_11_method_8_code
def yX9_isNoNumber : MethodName := ⟨RX9, "isNoNumber", "(I)Z"⟩
abbrev cX9_cut : ByteArray := prog_11_method_9_code
def yX9_cut : MethodName := ⟨RX9, "cut", "(I)I"⟩
def RX10 : String := "TravellingPictures$Work"
def TX10 : u_T := fun k => match k with
  | 0 => ("TravellingPictures$Work", "number", "I", true)
  | 1 => ("TravellingPictures$Work", "lender", "I", true)
  | 2 => ("TravellingPictures$Work", "width", "I", true)
  | 3 => ("TravellingPictures$Work", "height", "I", true)
  | 4 => ("TravellingPictures$Work", "worth", "I", true)
  | 5 => ("TravellingPictures$Work", "chapter", "I", true)
  | 6 => ("TravellingPictures$Work", "lines", "Ljava/util/ArrayList;", true)
  | 7 => ("TravellingPictures$Work", "place", "I", false)
  | 8 => ("TravellingPictures$Work", "which", "I", false)
  | 9 => ("TravellingPictures$Work", "light", "I", false)
  | _ => ("TravellingPictures$Work", "hangsIn", "LTravellingPictures$Room;", false)
def tyX10 : Nat → FieldType := fun k => match k with
  | 0 => .int
  | 1 => .int
  | 2 => .int
  | 3 => .int
  | 4 => .int
  | 5 => .int
  | 6 => .object "java/util/ArrayList"
  | 7 => .int
  | 8 => .int
  | 9 => .int
  | _ => .object "TravellingPictures$Room"
abbrev wsX100 : List Cond := u_ws RX10 TX10 11
theorem nmX10 : ∀ a, a < 11 → ∀ b, b < 11 → a ≠ b → (TX10 a).2.1 ≠ (TX10 b).2.1 := by decide +kernel
theorem tyX10_ok : ∀ k, k < 11 → parseFieldDescriptor (TX10 k).2.2.1 = some (tyX10 k) := by decide +kernel
abbrev cX10_init : ByteArray := prog_12_method_1_code
def yX10_init : MethodName := ⟨RX10, "<init>", "(IIIIII)V"⟩
def RX11 : String := "TravellingPictures"
def TX11 : u_T := fun k => match k with
  | 0 => ("TravellingPictures", "works", "Ljava/util/ArrayList;", true)
  | 1 => ("TravellingPictures", "rooms", "Ljava/util/ArrayList;", true)
  | 2 => ("TravellingPictures", "sheets", "Ljava/util/ArrayList;", true)
  | 3 => ("TravellingPictures", "loans", "Ljava/util/ArrayList;", true)
  | 4 => ("TravellingPictures", "crates", "Ljava/util/ArrayList;", true)
  | 5 => ("TravellingPictures", "loansOfDay", "[LTravellingPictures$Loan;", true)
  | 6 => ("TravellingPictures", "book", "LTravellingPictures$Book;", true)
  | 7 => ("TravellingPictures", "hanger", "LTravellingPictures$Hanger;", true)
  | 8 => ("TravellingPictures", "tape", "[B", true)
  | 9 => ("TravellingPictures", "uses", "[I", true)
  | 10 => ("TravellingPictures", "gains", "[I", true)
  | 11 => ("TravellingPictures", "tapeBytes", "I", false)
  | _ => ("TravellingPictures", "hour", "I", false)
def tyX11 : Nat → FieldType := fun k => match k with
  | 0 => .object "java/util/ArrayList"
  | 1 => .object "java/util/ArrayList"
  | 2 => .object "java/util/ArrayList"
  | 3 => .object "java/util/ArrayList"
  | 4 => .object "java/util/ArrayList"
  | 5 => .array (.object "TravellingPictures$Loan")
  | 6 => .object "TravellingPictures$Book"
  | 7 => .object "TravellingPictures$Hanger"
  | 8 => .array .byte
  | 9 => .array .int
  | 10 => .array .int
  | 11 => .int
  | _ => .int
abbrev wsX110 : List Cond := u_ws RX11 TX11 13
theorem nmX11 : ∀ a, a < 13 → ∀ b, b < 13 → a ≠ b → (TX11 a).2.1 ≠ (TX11 b).2.1 := by decide +kernel
theorem tyX11_ok : ∀ k, k < 13 → parseFieldDescriptor (TX11 k).2.2.1 = some (tyX11 k) := by decide +kernel
abbrev cX11_init : ByteArray := prog_1_method_1_code
def yX11_init : MethodName := ⟨RX11, "<init>", "()V"⟩
abbrev cX11_work : ByteArray := prog_1_method_2_code
def yX11_work : MethodName := ⟨RX11, "work", "(IIIII)I"⟩
abbrev cX11_told : ByteArray := prog_1_method_3_code
def yX11_told : MethodName := ⟨RX11, "told", "(II)I"⟩
abbrev cX11_history : ByteArray := prog_1_method_4_code
def yX11_history : MethodName := ⟨RX11, "history", "(III)I"⟩
abbrev cX11_lead : ByteArray := prog_1_method_5_code
def yX11_lead : MethodName := ⟨RX11, "lead", "(II)I"⟩
abbrev cX11_room : ByteArray := prog_1_method_6_code
def yX11_room : MethodName := ⟨RX11, "room", "(IIIII)I"⟩
abbrev cX11_air : ByteArray := prog_1_method_7_code
def yX11_air : MethodName := ⟨RX11, "air", "(III)I"⟩
abbrev cX11_sheet : ByteArray := prog_1_method_8_code
def yX11_sheet : MethodName := ⟨RX11, "sheet", "()I"⟩
abbrev cX11_row : ByteArray := prog_1_method_9_code
def yX11_row : MethodName := ⟨RX11, "row", "(III)I"⟩
abbrev cX11_put : ByteArray := prog_1_method_10_code
def yX11_put : MethodName := ⟨RX11, "put", "(IIII)I"⟩
abbrev cX11_tear : ByteArray := prog_1_method_11_code
def yX11_tear : MethodName := ⟨RX11, "tear", "(II)I"⟩
abbrev cX11_feed : ByteArray := prog_1_method_12_code
def yX11_feed : MethodName := ⟨RX11, "feed", "(IIIII)I"⟩
abbrev cX11_loan : ByteArray := prog_1_method_13_code
def yX11_loan : MethodName := ⟨RX11, "loan", "(III)I"⟩
abbrev cX11_force : ByteArray := prog_1_method_14_code
def yX11_force : MethodName := ⟨RX11, "force", "(II)I"⟩
abbrev cX11_barred : ByteArray := prog_1_method_15_code
def yX11_barred : MethodName := ⟨RX11, "barred", "(III)I"⟩
abbrev cX11_crate : ByteArray := prog_1_method_16_code
def yX11_crate : MethodName := ⟨RX11, "crate", "(II)I"⟩
abbrev cX11_pack : ByteArray := prog_1_method_17_code
def yX11_pack : MethodName := ⟨RX11, "pack", "(II)I"⟩
abbrev cX11_send : ByteArray := prog_1_method_18_code
def yX11_send : MethodName := ⟨RX11, "send", "(III)I"⟩
abbrev cX11_unpack : ByteArray := prog_1_method_19_code
def yX11_unpack : MethodName := ⟨RX11, "unpack", "(I)I"⟩
abbrev cX11_box : ByteArray := prog_1_method_20_code
def yX11_box : MethodName := ⟨RX11, "box", "(II)I"⟩
abbrev cX11_hang : ByteArray := prog_1_method_21_code
def yX11_hang : MethodName := ⟨RX11, "hang", "(II)I"⟩
abbrev cX11_down : ByteArray := prog_1_method_22_code
def yX11_down : MethodName := ⟨RX11, "down", "(I)I"⟩
abbrev cX11_wall : ByteArray := prog_1_method_23_code
def yX11_wall : MethodName := ⟨RX11, "wall", "(II)I"⟩
abbrev cX11_wait : ByteArray := prog_1_method_24_code
def yX11_wait : MethodName := ⟨RX11, "wait", "(I)I"⟩
abbrev cX11_unknown : ByteArray := prog_1_method_25_code
def yX11_unknown : MethodName := ⟨RX11, "unknown", "(I)I"⟩
abbrev cX11_breaches : ByteArray := prog_1_method_26_code
def yX11_breaches : MethodName := ⟨RX11, "breaches", "()I"⟩
abbrev cX11_breach : ByteArray := prog_1_method_27_code
def yX11_breach : MethodName := ⟨RX11, "breach", "(II)I"⟩
abbrev cX11_step : ByteArray := prog_1_method_28_code
def yX11_step : MethodName := ⟨RX11, "step", "(II)I"⟩
abbrev cX11_hanging : ByteArray := prog_1_method_29_code
def yX11_hanging : MethodName := ⟨RX11, "hanging", "(III)I"⟩
abbrev cX11_gain : ByteArray := prog_1_method_30_code
def yX11_gain : MethodName := ⟨RX11, "gain", "(III)I"⟩
abbrev cX11_tour : ByteArray := prog_1_method_31_code
def yX11_tour : MethodName := ⟨RX11, "tour", "(I)I"⟩
abbrev cX11_count : ByteArray := prog_1_method_32_code
def yX11_count : MethodName := ⟨RX11, "count", "(I)I"⟩
abbrev cX11_checkArgument : ByteArray := prog_1_method_33_code
def yX11_checkArgument : MethodName := ⟨RX11, "checkArgument", "(Z)V"⟩
abbrev cX11_isWithin : ByteArray := prog_1_method_34_code
def yX11_isWithin : MethodName := ⟨RX11, "isWithin", "(III)Z"⟩
abbrev cX11_isLender : ByteArray := prog_1_method_35_code
def yX11_isLender : MethodName := ⟨RX11, "isLender", "(I)Z"⟩
abbrev cX11_isCity : ByteArray := prog_1_method_36_code
def yX11_isCity : MethodName := ⟨RX11, "isCity", "(I)Z"⟩
abbrev cX11_knownWork : ByteArray := prog_1_method_37_code
def yX11_knownWork : MethodName := ⟨RX11, "knownWork", "(I)LTravellingPictures$Work;"⟩
abbrev cX11_knownRoom : ByteArray := prog_1_method_38_code
def yX11_knownRoom : MethodName := ⟨RX11, "knownRoom", "(I)LTravellingPictures$Room;"⟩
abbrev cX11_knownCrate : ByteArray := prog_1_method_39_code
def yX11_knownCrate : MethodName := ⟨RX11, "knownCrate", "(I)LTravellingPictures$Crate;"⟩
abbrev cX11_sheetWithRow : ByteArray := prog_1_method_40_code
def yX11_sheetWithRow : MethodName := ⟨RX11, "sheetWithRow", "(II)LTravellingPictures$Sheet;"⟩
abbrev cX11_checkWorkBits : ByteArray := prog_1_method_41_code
def yX11_checkWorkBits : MethodName := ⟨RX11, "checkWorkBits", "(I)V"⟩
abbrev cX11_today : ByteArray := prog_1_method_42_code
def yX11_today : MethodName := ⟨RX11, "today", "()I"⟩
abbrev cX11_move : ByteArray := prog_1_method_43_code
def yX11_move : MethodName := ⟨RX11, "move", "(LTravellingPictures$Work;II)V"⟩
abbrev cX11_addToTape : ByteArray := prog_1_method_44_code
def yX11_addToTape : MethodName := ⟨RX11, "addToTape", "(I)V"⟩
abbrev cX11_inForce : ByteArray := prog_1_method_45_code
def yX11_inForce : MethodName := ⟨RX11, "inForce", "(II)LTravellingPictures$Loan;"⟩
abbrev cX11_firstBar : ByteArray := prog_1_method_46_code
def yX11_firstBar : MethodName := ⟨RX11, "firstBar", "(LTravellingPictures$Work;II)I"⟩
abbrev cX11_areApart : ByteArray := prog_1_method_47_code
def yX11_areApart : MethodName := ⟨RX11, "areApart", "(LTravellingPictures$Work;LTravellingPictures$Work;)Z"⟩
abbrev cX11_namesApart : ByteArray := prog_1_method_48_code
def yX11_namesApart : MethodName := ⟨RX11, "namesApart", "(LTravellingPictures$Work;LTravellingPictures$Work;)Z"⟩
abbrev cX11_isApartFromWall : ByteArray := prog_1_method_49_code
def yX11_isApartFromWall : MethodName := ⟨RX11, "isApartFromWall", "(LTravellingPictures$Work;LTravellingPictures$Room;)Z"⟩
abbrev cX11_isOnItsWay : ByteArray := prog_1_method_50_code
def yX11_isOnItsWay : MethodName := ⟨RX11, "isOnItsWay", "(LTravellingPictures$Crate;)Z"⟩
abbrev cX11_isBeside : ByteArray := prog_1_method_51_code
def yX11_isBeside : MethodName := ⟨RX11, "isBeside", "(LTravellingPictures$Work;LTravellingPictures$Crate;)Z"⟩
abbrev cX11_restAsked : ByteArray := prog_1_method_52_code
def yX11_restAsked : MethodName := ⟨RX11, "restAsked", "(LTravellingPictures$Crate;)I"⟩
abbrev cX11_somethingHangs : ByteArray := prog_1_method_53_code
def yX11_somethingHangs : MethodName := ⟨RX11, "somethingHangs", "()Z"⟩
abbrev cX11_recallLoansOfDay : ByteArray := prog_1_method_54_code
def yX11_recallLoansOfDay : MethodName := ⟨RX11, "recallLoansOfDay", "()V"⟩
abbrev cX11_passHour : ByteArray := prog_1_method_55_code
def yX11_passHour : MethodName := ⟨RX11, "passHour", "()V"⟩
abbrev cX11_bearHour : ByteArray := prog_1_method_56_code
def yX11_bearHour : MethodName := ⟨RX11, "bearHour", "(LTravellingPictures$Work;LTravellingPictures$Room;)V"⟩
abbrev cX11_isBreached : ByteArray := prog_1_method_57_code
def yX11_isBreached : MethodName := ⟨RX11, "isBreached", "(LTravellingPictures$Clause;IILTravellingPictures$Room;)Z"⟩
abbrev cX11_arrange : ByteArray := prog_1_method_58_code
def yX11_arrange : MethodName := ⟨RX11, "arrange", "(LTravellingPictures$Room;I)I"⟩
abbrev cX11_markApart : ByteArray := prog_1_method_59_code
def yX11_markApart : MethodName := ⟨RX11, "markApart", "()V"⟩
abbrev cX11_sumOver : ByteArray := prog_1_method_60_code
def yX11_sumOver : MethodName := ⟨RX11, "sumOver", "(I[I)I"⟩
abbrev cX11_isBetterTour : ByteArray := prog_1_method_61_code
def yX11_isBetterTour : MethodName := ⟨RX11, "isBetterTour", "(II)Z"⟩
def RX12 : String := "TravellingPicturesModel"
def TX12 : u_T := fun k => match k with
  | 0 => ("TravellingPicturesModel", "thrown", "I", false)
  | 1 => ("TravellingPicturesModel", "hour", "I", false)
  | 2 => ("TravellingPicturesModel", "works", "I", false)
  | 3 => ("TravellingPicturesModel", "lines", "I", false)
  | 4 => ("TravellingPicturesModel", "lender", "[I", true)
  | 5 => ("TravellingPicturesModel", "width", "[I", true)
  | 6 => ("TravellingPicturesModel", "height", "[I", true)
  | 7 => ("TravellingPicturesModel", "worth", "[I", true)
  | 8 => ("TravellingPicturesModel", "chapter", "[I", true)
  | 9 => ("TravellingPicturesModel", "placeOf", "[I", true)
  | 10 => ("TravellingPicturesModel", "which", "[I", true)
  | 11 => ("TravellingPicturesModel", "light", "[I", true)
  | 12 => ("TravellingPicturesModel", "lineWork", "[I", true)
  | 13 => ("TravellingPicturesModel", "lineHour", "[I", true)
  | 14 => ("TravellingPicturesModel", "linePlace", "[I", true)
  | 15 => ("TravellingPicturesModel", "lineWhich", "[I", true)
  | 16 => ("TravellingPicturesModel", "sheets", "I", false)
  | 17 => ("TravellingPicturesModel", "rowSize", "[I", true)
  | 18 => ("TravellingPicturesModel", "number", "[I", true)
  | 19 => ("TravellingPicturesModel", "rooms", "I", false)
  | 20 => ("TravellingPicturesModel", "city", "[I", true)
  | 21 => ("TravellingPicturesModel", "length", "[I", true)
  | 22 => ("TravellingPicturesModel", "lux", "[I", true)
  | 23 => ("TravellingPicturesModel", "opens", "[I", true)
  | 24 => ("TravellingPicturesModel", "shuts", "[I", true)
  | 25 => ("TravellingPicturesModel", "airRow", "[I", true)
  | 26 => ("TravellingPicturesModel", "unknownMany", "[I", true)
  | 27 => ("TravellingPicturesModel", "hung", "[I", true)
  | 28 => ("TravellingPicturesModel", "wallOf", "[I", true)
  | 29 => ("TravellingPicturesModel", "taped", "I", false)
  | 30 => ("TravellingPicturesModel", "loans", "I", false)
  | 31 => ("TravellingPicturesModel", "size", "I", false)
  | 32 => ("TravellingPicturesModel", "at", "I", false)
  | 33 => ("TravellingPicturesModel", "bad", "I", false)
  | 34 => ("TravellingPicturesModel", "tape", "[I", true)
  | 35 => ("TravellingPicturesModel", "loanOf", "[I", true)
  | 36 => ("TravellingPicturesModel", "loanDay", "[I", true)
  | 37 => ("TravellingPicturesModel", "clauseMany", "[I", true)
  | 38 => ("TravellingPicturesModel", "clause", "[I", true)
  | 39 => ("TravellingPicturesModel", "clauseA", "[I", true)
  | 40 => ("TravellingPicturesModel", "clauseB", "[I", true)
  | 41 => ("TravellingPicturesModel", "crates", "I", false)
  | 42 => ("TravellingPicturesModel", "wide", "[I", true)
  | 43 => ("TravellingPicturesModel", "high", "[I", true)
  | 44 => ("TravellingPicturesModel", "held", "[I", true)
  | 45 => ("TravellingPicturesModel", "holds", "[I", true)
  | 46 => ("TravellingPicturesModel", "crateCity", "[I", true)
  | 47 => ("TravellingPicturesModel", "crateHour", "[I", true)
  | 48 => ("TravellingPicturesModel", "breachMany", "I", false)
  | 49 => ("TravellingPicturesModel", "breachHour", "[I", true)
  | 50 => ("TravellingPicturesModel", "breachWork", "[I", true)
  | 51 => ("TravellingPicturesModel", "breachClause", "[I", true)
  | 52 => ("TravellingPicturesModel", "some", "[I", true)
  | 53 => ("TravellingPicturesModel", "tried", "[I", true)
  | 54 => ("TravellingPicturesModel", "bestOrder", "[I", true)
  | 55 => ("TravellingPicturesModel", "someMany", "I", false)
  | 56 => ("TravellingPicturesModel", "bestStep", "I", false)
  | 57 => ("TravellingPicturesModel", "uses", "[I", true)
  | _ => ("TravellingPicturesModel", "gains", "[I", true)
def tyX12 : Nat → FieldType := fun k => match k with
  | 0 => .int
  | 1 => .int
  | 2 => .int
  | 3 => .int
  | 4 => .array .int
  | 5 => .array .int
  | 6 => .array .int
  | 7 => .array .int
  | 8 => .array .int
  | 9 => .array .int
  | 10 => .array .int
  | 11 => .array .int
  | 12 => .array .int
  | 13 => .array .int
  | 14 => .array .int
  | 15 => .array .int
  | 16 => .int
  | 17 => .array .int
  | 18 => .array .int
  | 19 => .int
  | 20 => .array .int
  | 21 => .array .int
  | 22 => .array .int
  | 23 => .array .int
  | 24 => .array .int
  | 25 => .array .int
  | 26 => .array .int
  | 27 => .array .int
  | 28 => .array .int
  | 29 => .int
  | 30 => .int
  | 31 => .int
  | 32 => .int
  | 33 => .int
  | 34 => .array .int
  | 35 => .array .int
  | 36 => .array .int
  | 37 => .array .int
  | 38 => .array .int
  | 39 => .array .int
  | 40 => .array .int
  | 41 => .int
  | 42 => .array .int
  | 43 => .array .int
  | 44 => .array .int
  | 45 => .array .int
  | 46 => .array .int
  | 47 => .array .int
  | 48 => .int
  | 49 => .array .int
  | 50 => .array .int
  | 51 => .array .int
  | 52 => .array .int
  | 53 => .array .int
  | 54 => .array .int
  | 55 => .int
  | 56 => .int
  | 57 => .array .int
  | _ => .array .int
abbrev wsX120 : List Cond := u_ws RX12 TX12 59
theorem nmX12 : ∀ a, a < 59 → ∀ b, b < 59 → a ≠ b → (TX12 a).2.1 ≠ (TX12 b).2.1 := by decide +kernel
theorem tyX12_ok : ∀ k, k < 59 → parseFieldDescriptor (TX12 k).2.2.1 = some (tyX12 k) := by decide +kernel
abbrev cX12_thrown : ByteArray := prog_14_method_1_code
def yX12_thrown : MethodName := ⟨RX12, "thrown", "()I"⟩
abbrev cX12_may : ByteArray := prog_14_method_2_code
def yX12_may : MethodName := ⟨RX12, "may", "(ZI)Z"⟩
abbrev cX12_init : ByteArray := prog_14_method_3_code
def yX12_init : MethodName := ⟨RX12, "<init>", "()V"⟩
abbrev cX12_goes : ByteArray := prog_14_method_4_code
def yX12_goes : MethodName := ⟨RX12, "goes", "(III)V"⟩
abbrev cX12_within : ByteArray := prog_14_method_5_code
def yX12_within : MethodName := ⟨RX12, "within", "(III)Z"⟩
abbrev cX12_work : ByteArray := prog_14_method_6_code
def yX12_work : MethodName := ⟨RX12, "work", "(IIIII)I"⟩
abbrev cX12_isWork : ByteArray := prog_14_method_7_code
def yX12_isWork : MethodName := ⟨RX12, "isWork", "(I)Z"⟩
abbrev cX12_linesOf : ByteArray := prog_14_method_8_code
def yX12_linesOf : MethodName := ⟨RX12, "linesOf", "(I)I"⟩
abbrev cX12_told : ByteArray := prog_14_method_9_code
def yX12_told : MethodName := ⟨RX12, "told", "(II)I"⟩
abbrev cX12_history : ByteArray := prog_14_method_10_code
def yX12_history : MethodName := ⟨RX12, "history", "(III)I"⟩
abbrev cX12_lead : ByteArray := prog_14_method_11_code
def yX12_lead : MethodName := ⟨RX12, "lead", "(II)I"⟩
abbrev cX12_sheet : ByteArray := prog_14_method_12_code
def yX12_sheet : MethodName := ⟨RX12, "sheet", "()I"⟩
abbrev cX12_isRow : ByteArray := prog_14_method_13_code
def yX12_isRow : MethodName := ⟨RX12, "isRow", "(III)Z"⟩
abbrev cX12_row : ByteArray := prog_14_method_14_code
def yX12_row : MethodName := ⟨RX12, "row", "(III)I"⟩
abbrev cX12_put : ByteArray := prog_14_method_15_code
def yX12_put : MethodName := ⟨RX12, "put", "(IIII)I"⟩
abbrev cX12_tear : ByteArray := prog_14_method_16_code
def yX12_tear : MethodName := ⟨RX12, "tear", "(II)I"⟩
abbrev cX12_isNoNumber : ByteArray := prog_14_method_17_code
def yX12_isNoNumber : MethodName := ⟨RX12, "isNoNumber", "(I)Z"⟩
abbrev cX12_cut : ByteArray := prog_14_method_18_code
def yX12_cut : MethodName := ⟨RX12, "cut", "(I)I"⟩
abbrev cX12_room : ByteArray := prog_14_method_19_code
def yX12_room : MethodName := ⟨RX12, "room", "(IIIII)I"⟩
abbrev cX12_isRoom : ByteArray := prog_14_method_20_code
def yX12_isRoom : MethodName := ⟨RX12, "isRoom", "(I)Z"⟩
abbrev cX12_air : ByteArray := prog_14_method_21_code
def yX12_air : MethodName := ⟨RX12, "air", "(III)I"⟩
abbrev cX12_feed : ByteArray := prog_14_method_22_code
def yX12_feed : MethodName := ⟨RX12, "feed", "(IIIII)I"⟩
abbrev cX12_fine : ByteArray := prog_14_method_23_code
def yX12_fine : MethodName := ⟨RX12, "fine", "()Z"⟩
abbrev cX12_wrong : ByteArray := prog_14_method_24_code
def yX12_wrong : MethodName := ⟨RX12, "wrong", "(I)V"⟩
abbrev cX12_here : ByteArray := prog_14_method_25_code
def yX12_here : MethodName := ⟨RX12, "here", "()I"⟩
abbrev cX12_isSmall : ByteArray := prog_14_method_26_code
def yX12_isSmall : MethodName := ⟨RX12, "isSmall", "(I)Z"⟩
abbrev cX12_isDigit : ByteArray := prog_14_method_27_code
def yX12_isDigit : MethodName := ⟨RX12, "isDigit", "(I)Z"⟩
abbrev cX12_word : ByteArray := prog_14_method_28_code
def yX12_word : MethodName := ⟨RX12, "word", "()J"⟩
abbrev cX12_kindOf : ByteArray := prog_14_method_29_code
def yX12_kindOf : MethodName := ⟨RX12, "kindOf", "(J)I"⟩
abbrev cX12_digits : ByteArray := prog_14_method_30_code
def yX12_digits : MethodName := ⟨RX12, "digits", "(I)I"⟩
abbrev cX12_readClause : ByteArray := prog_14_method_31_code
def yX12_readClause : MethodName := ⟨RX12, "readClause", "()V"⟩
abbrev cX12_loan : ByteArray := prog_14_method_32_code
def yX12_loan : MethodName := ⟨RX12, "loan", "(III)I"⟩
abbrev cX12_inForce : ByteArray := prog_14_method_33_code
def yX12_inForce : MethodName := ⟨RX12, "inForce", "(II)I"⟩
abbrev cX12_force : ByteArray := prog_14_method_34_code
def yX12_force : MethodName := ⟨RX12, "force", "(II)I"⟩
abbrev cX12_bars : ByteArray := prog_14_method_35_code
def yX12_bars : MethodName := ⟨RX12, "bars", "(III)I"⟩
abbrev cX12_barred : ByteArray := prog_14_method_36_code
def yX12_barred : MethodName := ⟨RX12, "barred", "(III)I"⟩
abbrev cX12_crate : ByteArray := prog_14_method_37_code
def yX12_crate : MethodName := ⟨RX12, "crate", "(II)I"⟩
abbrev cX12_isCrate : ByteArray := prog_14_method_38_code
def yX12_isCrate : MethodName := ⟨RX12, "isCrate", "(I)Z"⟩
abbrev cX12_isOnItsWay : ByteArray := prog_14_method_39_code
def yX12_isOnItsWay : MethodName := ⟨RX12, "isOnItsWay", "(I)Z"⟩
abbrev cX12_pack : ByteArray := prog_14_method_40_code
def yX12_pack : MethodName := ⟨RX12, "pack", "(II)I"⟩
abbrev cX12_send : ByteArray := prog_14_method_41_code
def yX12_send : MethodName := ⟨RX12, "send", "(III)I"⟩
abbrev cX12_unpack : ByteArray := prog_14_method_42_code
def yX12_unpack : MethodName := ⟨RX12, "unpack", "(I)I"⟩
abbrev cX12_box : ByteArray := prog_14_method_43_code
def yX12_box : MethodName := ⟨RX12, "box", "(II)I"⟩
abbrev cX12_isApart : ByteArray := prog_14_method_44_code
def yX12_isApart : MethodName := ⟨RX12, "isApart", "(II)Z"⟩
abbrev cX12_names : ByteArray := prog_14_method_45_code
def yX12_names : MethodName := ⟨RX12, "names", "(II)Z"⟩
abbrev cX12_hang : ByteArray := prog_14_method_46_code
def yX12_hang : MethodName := ⟨RX12, "hang", "(II)I"⟩
abbrev cX12_down : ByteArray := prog_14_method_47_code
def yX12_down : MethodName := ⟨RX12, "down", "(I)I"⟩
abbrev cX12_wall : ByteArray := prog_14_method_48_code
def yX12_wall : MethodName := ⟨RX12, "wall", "(II)I"⟩
abbrev cX12_breached : ByteArray := prog_14_method_49_code
def yX12_breached : MethodName := ⟨RX12, "breached", "(II)V"⟩
abbrev cX12_isUnknown : ByteArray := prog_14_method_50_code
def yX12_isUnknown : MethodName := ⟨RX12, "isUnknown", "(I)Z"⟩
abbrev cX12_passes : ByteArray := prog_14_method_51_code
def yX12_passes : MethodName := ⟨RX12, "passes", "(I)V"⟩
abbrev cX12_wait : ByteArray := prog_14_method_52_code
def yX12_wait : MethodName := ⟨RX12, "wait", "(I)I"⟩
abbrev cX12_unknown : ByteArray := prog_14_method_53_code
def yX12_unknown : MethodName := ⟨RX12, "unknown", "(I)I"⟩
abbrev cX12_breaches : ByteArray := prog_14_method_54_code
def yX12_breaches : MethodName := ⟨RX12, "breaches", "()I"⟩
abbrev cX12_breach : ByteArray := prog_14_method_55_code
def yX12_breach : MethodName := ⟨RX12, "breach", "(II)I"⟩
abbrev cX12_mayStand : ByteArray := prog_14_method_56_code
def yX12_mayStand : MethodName := ⟨RX12, "mayStand", "(I)Z"⟩
abbrev cX12_findOrder : ByteArray := prog_14_method_57_code
def yX12_findOrder : MethodName := ⟨RX12, "findOrder", "(II)Z"⟩
abbrev cX12_areWorks : ByteArray := prog_14_method_58_code
def yX12_areWorks : MethodName := ⟨RX12, "areWorks", "(I)Z"⟩
abbrev cX12_step : ByteArray := prog_14_method_59_code
def yX12_step : MethodName := ⟨RX12, "step", "(II)I"⟩
abbrev cX12_hanging : ByteArray := prog_14_method_60_code
def yX12_hanging : MethodName := ⟨RX12, "hanging", "(III)I"⟩
abbrev cX12_gain : ByteArray := prog_14_method_61_code
def yX12_gain : MethodName := ⟨RX12, "gain", "(III)I"⟩
abbrev cX12_tour : ByteArray := prog_14_method_62_code
def yX12_tour : MethodName := ⟨RX12, "tour", "(I)I"⟩
abbrev cX12_count : ByteArray := prog_14_method_63_code
def yX12_count : MethodName := ⟨RX12, "count", "(I)I"⟩
def RJx145de : String := "java/io/Serializable"
def TJx145de : u_T := fun k => match k with
  | _ => ("", "", "", false)
def tyJx145de : Nat → FieldType := fun k => match k with
  | _ => .int
abbrev wsJx145de0 : List Cond := u_ws RJx145de TJx145de 0
theorem nmJx145de : ∀ a, a < 0 → ∀ b, b < 0 → a ≠ b → (TJx145de a).2.1 ≠ (TJx145de b).2.1 := by decide +kernel
theorem tyJx145de_ok : ∀ k, k < 0 → parseFieldDescriptor (TJx145de k).2.2.1 = some (tyJx145de k) := by decide +kernel
def RJx8e188 : String := "java/lang/Cloneable"
def TJx8e188 : u_T := fun k => match k with
  | _ => ("", "", "", false)
def tyJx8e188 : Nat → FieldType := fun k => match k with
  | _ => .int
abbrev wsJx8e1880 : List Cond := u_ws RJx8e188 TJx8e188 0
theorem nmJx8e188 : ∀ a, a < 0 → ∀ b, b < 0 → a ≠ b → (TJx8e188 a).2.1 ≠ (TJx8e188 b).2.1 := by decide +kernel
theorem tyJx8e188_ok : ∀ k, k < 0 → parseFieldDescriptor (TJx8e188 k).2.2.1 = some (tyJx8e188 k) := by decide +kernel
def RJx29ce0 : String := "java/lang/Enum"
def TJx29ce0 : u_T := fun k => match k with
  | _ => ("", "", "", false)
def tyJx29ce0 : Nat → FieldType := fun k => match k with
  | _ => .int
abbrev wsJx29ce00 : List Cond := u_ws RJx29ce0 TJx29ce0 0
theorem nmJx29ce0 : ∀ a, a < 0 → ∀ b, b < 0 → a ≠ b → (TJx29ce0 a).2.1 ≠ (TJx29ce0 b).2.1 := by decide +kernel
theorem tyJx29ce0_ok : ∀ k, k < 0 → parseFieldDescriptor (TJx29ce0 k).2.2.1 = some (tyJx29ce0 k) := by decide +kernel
def RJ6 : String := "java/lang/Integer"
def TJ6 : u_T := fun k => match k with
  | _ => ("", "", "", false)
def tyJ6 : Nat → FieldType := fun k => match k with
  | _ => .int
abbrev wsJ60 : List Cond := u_ws RJ6 TJ6 0
theorem nmJ6 : ∀ a, a < 0 → ∀ b, b < 0 → a ≠ b → (TJ6 a).2.1 ≠ (TJ6 b).2.1 := by decide +kernel
theorem tyJ6_ok : ∀ k, k < 0 → parseFieldDescriptor (TJ6 k).2.2.1 = some (tyJ6 k) := by decide +kernel
abbrev cJ6_bitCount_0f7a4 : ByteArray := prog_22_method_49_code
def yJ6_bitCount_0f7a4 : MethodName := ⟨RJ6, "bitCount", "(I)I"⟩
def RJxab1ab : String := "java/lang/Iterable"
def TJxab1ab : u_T := fun k => match k with
  | _ => ("", "", "", false)
def tyJxab1ab : Nat → FieldType := fun k => match k with
  | _ => .int
abbrev wsJxab1ab0 : List Cond := u_ws RJxab1ab TJxab1ab 0
theorem nmJxab1ab : ∀ a, a < 0 → ∀ b, b < 0 → a ≠ b → (TJxab1ab a).2.1 ≠ (TJxab1ab b).2.1 := by decide +kernel
theorem tyJxab1ab_ok : ∀ k, k < 0 → parseFieldDescriptor (TJxab1ab k).2.2.1 = some (tyJxab1ab k) := by decide +kernel
def RJ9 : String := "java/lang/Math"
def TJ9 : u_T := fun k => match k with
  | _ => ("", "", "", false)
def tyJ9 : Nat → FieldType := fun k => match k with
  | _ => .int
abbrev wsJ90 : List Cond := u_ws RJ9 TJ9 0
theorem nmJ9 : ∀ a, a < 0 → ∀ b, b < 0 → a ≠ b → (TJ9 a).2.1 ≠ (TJ9 b).2.1 := by decide +kernel
theorem tyJ9_ok : ∀ k, k < 0 → parseFieldDescriptor (TJ9 k).2.2.1 = some (tyJ9 k) := by decide +kernel
abbrev cJ9_abs_0f7a4 : ByteArray := prog_24_method_59_code
def yJ9_abs_0f7a4 : MethodName := ⟨RJ9, "abs", "(I)I"⟩
abbrev cJ9_max_7cf53 : ByteArray := prog_24_method_65_code
def yJ9_max_7cf53 : MethodName := ⟨RJ9, "max", "(II)I"⟩
abbrev cJ9_min_7cf53 : ByteArray := prog_24_method_69_code
def yJ9_min_7cf53 : MethodName := ⟨RJ9, "min", "(II)I"⟩
def RJ0 : String := "java/lang/String"
def TJ0 : u_T := fun k => match k with
  | _ => ("", "", "", false)
def tyJ0 : Nat → FieldType := fun k => match k with
  | _ => .int
abbrev wsJ00 : List Cond := u_ws RJ0 TJ0 0
theorem nmJ0 : ∀ a, a < 0 → ∀ b, b < 0 → a ≠ b → (TJ0 a).2.1 ≠ (TJ0 b).2.1 := by decide +kernel
theorem tyJ0_ok : ∀ k, k < 0 → parseFieldDescriptor (TJ0 k).2.2.1 = some (tyJ0 k) := by decide +kernel
abbrev cJ0_length_8abf5 : ByteArray := prog_26_method_54_code
def yJ0_length_8abf5 : MethodName := ⟨RJ0, "length", "()I"⟩
abbrev cJ0_charAt_5068e : ByteArray := prog_26_method_56_code
def yJ0_charAt_5068e : MethodName := ⟨RJ0, "charAt", "(I)C"⟩
abbrev cJ0_coder_7d493 : ByteArray := prog_26_method_152_code
def yJ0_coder_7d493 : MethodName := ⟨RJ0, "coder", "()B"⟩
abbrev cJ0_isLatin1_aae02 : ByteArray := prog_26_method_154_code
def yJ0_isLatin1_aae02 : MethodName := ⟨RJ0, "isLatin1", "()Z"⟩
abbrev cJ0_checkIndex_df160 : ByteArray := prog_26_method_155_code
def yJ0_checkIndex_df160 : MethodName := ⟨RJ0, "checkIndex", "(II)V"⟩
def RJ1 : String := "java/lang/StringLatin1"
def TJ1 : u_T := fun k => match k with
  | _ => ("", "", "", false)
def tyJ1 : Nat → FieldType := fun k => match k with
  | _ => .int
abbrev wsJ10 : List Cond := u_ws RJ1 TJ1 0
theorem nmJ1 : ∀ a, a < 0 → ∀ b, b < 0 → a ≠ b → (TJ1 a).2.1 ≠ (TJ1 b).2.1 := by decide +kernel
theorem tyJ1_ok : ∀ k, k < 0 → parseFieldDescriptor (TJ1 k).2.2.1 = some (tyJ1 k) := by decide +kernel
abbrev cJ1_charAt_3b067 : ByteArray := prog_27_method_2_code
def yJ1_charAt_3b067 : MethodName := ⟨RJ1, "charAt", "([BI)C"⟩
def RJ2 : String := "java/lang/StringUTF16"
def TJ2 : u_T := fun k => match k with
  | _ => ("", "", "", false)
def tyJ2 : Nat → FieldType := fun k => match k with
  | _ => .int
abbrev wsJ20 : List Cond := u_ws RJ2 TJ2 0
theorem nmJ2 : ∀ a, a < 0 → ∀ b, b < 0 → a ≠ b → (TJ2 a).2.1 ≠ (TJ2 b).2.1 := by decide +kernel
theorem tyJ2_ok : ∀ k, k < 0 → parseFieldDescriptor (TJ2 k).2.2.1 = some (tyJ2 k) := by decide +kernel
abbrev cJ2_getChar_3b067 : ByteArray := prog_28_method_5_code
def yJ2_getChar_3b067 : MethodName := ⟨RJ2, "getChar", "([BI)C"⟩
abbrev cJ2_length_9d52b : ByteArray := prog_28_method_6_code
def yJ2_length_9d52b : MethodName := ⟨RJ2, "length", "([B)I"⟩
abbrev cJ2_charAt_3b067 : ByteArray := prog_28_method_83_code
def yJ2_charAt_3b067 : MethodName := ⟨RJ2, "charAt", "([BI)C"⟩
abbrev cJ2_checkIndex_2214a : ByteArray := prog_28_method_91_code
def yJ2_checkIndex_2214a : MethodName := ⟨RJ2, "checkIndex", "(I[B)V"⟩
def RJ10 : String := "java/lang/System"
def TJ10 : u_T := fun k => match k with
  | _ => ("", "", "", false)
def tyJ10 : Nat → FieldType := fun k => match k with
  | _ => .int
abbrev wsJ100 : List Cond := u_ws RJ10 TJ10 0
theorem nmJ10 : ∀ a, a < 0 → ∀ b, b < 0 → a ≠ b → (TJ10 a).2.1 ≠ (TJ10 b).2.1 := by decide +kernel
theorem tyJ10_ok : ∀ k, k < 0 → parseFieldDescriptor (TJ10 k).2.2.1 = some (tyJ10 k) := by decide +kernel
def RJxa1e45 : String := "java/util/AbstractCollection"
def TJxa1e45 : u_T := fun k => match k with
  | _ => ("", "", "", false)
def tyJxa1e45 : Nat → FieldType := fun k => match k with
  | _ => .int
abbrev wsJxa1e450 : List Cond := u_ws RJxa1e45 TJxa1e45 0
theorem nmJxa1e45 : ∀ a, a < 0 → ∀ b, b < 0 → a ≠ b → (TJxa1e45 a).2.1 ≠ (TJxa1e45 b).2.1 := by decide +kernel
theorem tyJxa1e45_ok : ∀ k, k < 0 → parseFieldDescriptor (TJxa1e45 k).2.2.1 = some (tyJxa1e45 k) := by decide +kernel
abbrev cJxa1e45_init_da8c8 : ByteArray := prog_31_method_1_code
def yJxa1e45_init_da8c8 : MethodName := ⟨RJxa1e45, "<init>", "()V"⟩
def RJxc12de : String := "java/util/AbstractList"
def TJxc12de : u_T := fun k => match k with
  | _ => ("", "", "", false)
def tyJxc12de : Nat → FieldType := fun k => match k with
  | _ => .int
abbrev wsJxc12de0 : List Cond := u_ws RJxc12de TJxc12de 0
theorem nmJxc12de : ∀ a, a < 0 → ∀ b, b < 0 → a ≠ b → (TJxc12de a).2.1 ≠ (TJxc12de b).2.1 := by decide +kernel
theorem tyJxc12de_ok : ∀ k, k < 0 → parseFieldDescriptor (TJxc12de k).2.2.1 = some (tyJxc12de k) := by decide +kernel
abbrev cJxc12de_init_da8c8 : ByteArray := prog_32_method_1_code
def yJxc12de_init_da8c8 : MethodName := ⟨RJxc12de, "<init>", "()V"⟩
def RJx4a65c : String := "java/util/ArrayList"
def TJx4a65c : u_T := fun k => match k with
  | 0 => ("java/util/AbstractList", "modCount", "I", false)
  | 1 => ("java/util/ArrayList", "elementData", "[Ljava/lang/Object;", false)
  | _ => ("java/util/ArrayList", "size", "I", false)
def tyJx4a65c : Nat → FieldType := fun k => match k with
  | 0 => .int
  | 1 => .array (.object "java/lang/Object")
  | _ => .int
abbrev wsJx4a65c0 : List Cond := u_ws RJx4a65c TJx4a65c 3
theorem nmJx4a65c : ∀ a, a < 3 → ∀ b, b < 3 → a ≠ b → (TJx4a65c a).2.1 ≠ (TJx4a65c b).2.1 := by decide +kernel
theorem tyJx4a65c_ok : ∀ k, k < 3 → parseFieldDescriptor (TJx4a65c k).2.2.1 = some (tyJx4a65c k) := by decide +kernel
abbrev cJx4a65c_init_da8c8 : ByteArray := prog_33_method_2_code
def yJx4a65c_init_da8c8 : MethodName := ⟨RJx4a65c, "<init>", "()V"⟩
abbrev cJx4a65c_grow_92f84 : ByteArray := prog_33_method_6_code
def yJx4a65c_grow_92f84 : MethodName := ⟨RJx4a65c, "grow", "(I)[Ljava/lang/Object;"⟩
abbrev cJx4a65c_grow_d5877 : ByteArray := prog_33_method_7_code
def yJx4a65c_grow_d5877 : MethodName := ⟨RJx4a65c, "grow", "()[Ljava/lang/Object;"⟩
abbrev cJx4a65c_size_8abf5 : ByteArray := prog_33_method_8_code
def yJx4a65c_size_8abf5 : MethodName := ⟨RJx4a65c, "size", "()I"⟩
abbrev cJx4a65c_isEmpty_aae02 : ByteArray := prog_33_method_9_code
def yJx4a65c_isEmpty_aae02 : MethodName := ⟨RJx4a65c, "isEmpty", "()Z"⟩
abbrev cJx4a65c_elementData_915e3 : ByteArray := prog_33_method_18_code
def yJx4a65c_elementData_915e3 : MethodName := ⟨RJx4a65c, "elementData", "(I)Ljava/lang/Object;"⟩
abbrev cJx4a65c_get_915e3 : ByteArray := prog_33_method_20_code
def yJx4a65c_get_915e3 : MethodName := ⟨RJx4a65c, "get", "(I)Ljava/lang/Object;"⟩
abbrev cJx4a65c_add_72be8 : ByteArray := prog_33_method_24_code
def yJx4a65c_add_72be8 : MethodName := ⟨RJx4a65c, "add", "(Ljava/lang/Object;[Ljava/lang/Object;I)V"⟩
abbrev cJx4a65c_add_9ea2d : ByteArray := prog_33_method_25_code
def yJx4a65c_add_9ea2d : MethodName := ⟨RJx4a65c, "add", "(Ljava/lang/Object;)Z"⟩
abbrev cJx4a65c_remove_915e3 : ByteArray := prog_33_method_29_code
def yJx4a65c_remove_915e3 : MethodName := ⟨RJx4a65c, "remove", "(I)Ljava/lang/Object;"⟩
abbrev cJx4a65c_fastRemove_b59b0 : ByteArray := prog_33_method_39_code
def yJx4a65c_fastRemove_b59b0 : MethodName := ⟨RJx4a65c, "fastRemove", "([Ljava/lang/Object;I)V"⟩
abbrev cJx4a65c_clear_da8c8 : ByteArray := prog_33_method_40_code
def yJx4a65c_clear_da8c8 : MethodName := ⟨RJx4a65c, "clear", "()V"⟩
def RJ7 : String := "java/util/Arrays"
def TJ7 : u_T := fun k => match k with
  | _ => ("", "", "", false)
def tyJ7 : Nat → FieldType := fun k => match k with
  | _ => .int
abbrev wsJ70 : List Cond := u_ws RJ7 TJ7 0
theorem nmJ7 : ∀ a, a < 0 → ∀ b, b < 0 → a ≠ b → (TJ7 a).2.1 ≠ (TJ7 b).2.1 := by decide +kernel
theorem tyJ7_ok : ∀ k, k < 0 → parseFieldDescriptor (TJ7 k).2.2.1 = some (tyJ7 k) := by decide +kernel
abbrev cJ7_copyOf_1904c : ByteArray := prog_34_method_119_code
def yJ7_copyOf_1904c : MethodName := ⟨RJ7, "copyOf", "([Ljava/lang/Object;I)[Ljava/lang/Object;"⟩
abbrev cJ7_copyOf_6403c : ByteArray := prog_34_method_120_code
def yJ7_copyOf_6403c : MethodName := ⟨RJ7, "copyOf", "([Ljava/lang/Object;ILjava/lang/Class;)[Ljava/lang/Object;"⟩
def RJx5ef63 : String := "java/util/Collection"
def TJx5ef63 : u_T := fun k => match k with
  | _ => ("", "", "", false)
def tyJx5ef63 : Nat → FieldType := fun k => match k with
  | _ => .int
abbrev wsJx5ef630 : List Cond := u_ws RJx5ef63 TJx5ef63 0
theorem nmJx5ef63 : ∀ a, a < 0 → ∀ b, b < 0 → a ≠ b → (TJx5ef63 a).2.1 ≠ (TJx5ef63 b).2.1 := by decide +kernel
theorem tyJx5ef63_ok : ∀ k, k < 0 → parseFieldDescriptor (TJx5ef63 k).2.2.1 = some (tyJx5ef63 k) := by decide +kernel
def RJxbd725 : String := "java/util/List"
def TJxbd725 : u_T := fun k => match k with
  | _ => ("", "", "", false)
def tyJxbd725 : Nat → FieldType := fun k => match k with
  | _ => .int
abbrev wsJxbd7250 : List Cond := u_ws RJxbd725 TJxbd725 0
theorem nmJxbd725 : ∀ a, a < 0 → ∀ b, b < 0 → a ≠ b → (TJxbd725 a).2.1 ≠ (TJxbd725 b).2.1 := by decide +kernel
theorem tyJxbd725_ok : ∀ k, k < 0 → parseFieldDescriptor (TJxbd725 k).2.2.1 = some (tyJxbd725 k) := by decide +kernel
def RJ15 : String := "java/util/Objects"
def TJ15 : u_T := fun k => match k with
  | _ => ("", "", "", false)
def tyJ15 : Nat → FieldType := fun k => match k with
  | _ => .int
abbrev wsJ150 : List Cond := u_ws RJ15 TJ15 0
theorem nmJ15 : ∀ a, a < 0 → ∀ b, b < 0 → a ≠ b → (TJ15 a).2.1 ≠ (TJ15 b).2.1 := by decide +kernel
theorem tyJ15_ok : ∀ k, k < 0 → parseFieldDescriptor (TJ15 k).2.2.1 = some (tyJ15 k) := by decide +kernel
abbrev cJ15_checkIndex_7cf53 : ByteArray := prog_38_method_17_code
def yJ15_checkIndex_7cf53 : MethodName := ⟨RJ15, "checkIndex", "(II)I"⟩
def RJxf0a74 : String := "java/util/RandomAccess"
def TJxf0a74 : u_T := fun k => match k with
  | _ => ("", "", "", false)
def tyJxf0a74 : Nat → FieldType := fun k => match k with
  | _ => .int
abbrev wsJxf0a740 : List Cond := u_ws RJxf0a74 TJxf0a74 0
theorem nmJxf0a74 : ∀ a, a < 0 → ∀ b, b < 0 → a ≠ b → (TJxf0a74 a).2.1 ≠ (TJxf0a74 b).2.1 := by decide +kernel
theorem tyJxf0a74_ok : ∀ k, k < 0 → parseFieldDescriptor (TJxf0a74 k).2.2.1 = some (tyJxf0a74 k) := by decide +kernel
def RJxa66e6 : String := "java/util/SequencedCollection"
def TJxa66e6 : u_T := fun k => match k with
  | _ => ("", "", "", false)
def tyJxa66e6 : Nat → FieldType := fun k => match k with
  | _ => .int
abbrev wsJxa66e60 : List Cond := u_ws RJxa66e6 TJxa66e6 0
theorem nmJxa66e6 : ∀ a, a < 0 → ∀ b, b < 0 → a ≠ b → (TJxa66e6 a).2.1 ≠ (TJxa66e6 b).2.1 := by decide +kernel
theorem tyJxa66e6_ok : ∀ k, k < 0 → parseFieldDescriptor (TJxa66e6 k).2.2.1 = some (tyJxa66e6 k) := by decide +kernel
def RJ8 : String := "jdk/internal/util/ArraysSupport"
def TJ8 : u_T := fun k => match k with
  | _ => ("", "", "", false)
def tyJ8 : Nat → FieldType := fun k => match k with
  | _ => .int
abbrev wsJ80 : List Cond := u_ws RJ8 TJ8 0
theorem nmJ8 : ∀ a, a < 0 → ∀ b, b < 0 → a ≠ b → (TJ8 a).2.1 ≠ (TJ8 b).2.1 := by decide +kernel
theorem tyJ8_ok : ∀ k, k < 0 → parseFieldDescriptor (TJ8 k).2.2.1 = some (tyJ8 k) := by decide +kernel
abbrev cJ8_newLength_cabcc : ByteArray := prog_41_method_27_code
def yJ8_newLength_cabcc : MethodName := ⟨RJ8, "newLength", "(III)I"⟩
abbrev cJ8_hugeLength_7cf53 : ByteArray := prog_41_method_28_code
def yJ8_hugeLength_7cf53 : MethodName := ⟨RJ8, "hugeLength", "(II)I"⟩
def RJ3 : String := "jdk/internal/util/Preconditions"
def TJ3 : u_T := fun k => match k with
  | _ => ("", "", "", false)
def tyJ3 : Nat → FieldType := fun k => match k with
  | _ => .int
abbrev wsJ30 : List Cond := u_ws RJ3 TJ3 0
theorem nmJ3 : ∀ a, a < 0 → ∀ b, b < 0 → a ≠ b → (TJ3 a).2.1 ≠ (TJ3 b).2.1 := by decide +kernel
theorem tyJ3_ok : ∀ k, k < 0 → parseFieldDescriptor (TJ3 k).2.2.1 = some (tyJ3 k) := by decide +kernel
abbrev cJ3_checkIndex_8e157 : ByteArray := prog_42_method_11_code
def yJ3_checkIndex_8e157 : MethodName := ⟨RJ3, "checkIndex", "(IILjava/util/function/BiFunction;)I"⟩
def RL : String := "TravellingPicturesLaw"
abbrev cL_work : ByteArray := method_3_code
def yL_work : MethodName := ⟨RL, "work", "(LTravellingPictures;IIIII[J)I"⟩
abbrev cL_told : ByteArray := method_4_code
def yL_told : MethodName := ⟨RL, "told", "(LTravellingPictures;II[J)I"⟩
abbrev cL_history : ByteArray := method_5_code
def yL_history : MethodName := ⟨RL, "history", "(LTravellingPictures;III[J)I"⟩
abbrev cL_lead : ByteArray := method_6_code
def yL_lead : MethodName := ⟨RL, "lead", "(LTravellingPictures;II[J)I"⟩
abbrev cL_room : ByteArray := method_7_code
def yL_room : MethodName := ⟨RL, "room", "(LTravellingPictures;IIIII[J)I"⟩
abbrev cL_air : ByteArray := method_8_code
def yL_air : MethodName := ⟨RL, "air", "(LTravellingPictures;III[J)I"⟩
abbrev cL_row : ByteArray := method_9_code
def yL_row : MethodName := ⟨RL, "row", "(LTravellingPictures;III[J)I"⟩
abbrev cL_put : ByteArray := method_10_code
def yL_put : MethodName := ⟨RL, "put", "(LTravellingPictures;IIII[J)I"⟩
abbrev cL_tear : ByteArray := method_11_code
def yL_tear : MethodName := ⟨RL, "tear", "(LTravellingPictures;II[J)I"⟩
abbrev cL_loan : ByteArray := method_12_code
def yL_loan : MethodName := ⟨RL, "loan", "(LTravellingPictures;III[J)I"⟩
abbrev cL_barred : ByteArray := method_13_code
def yL_barred : MethodName := ⟨RL, "barred", "(LTravellingPictures;III[J)I"⟩
abbrev cL_crate : ByteArray := method_14_code
def yL_crate : MethodName := ⟨RL, "crate", "(LTravellingPictures;II[J)I"⟩
abbrev cL_pack : ByteArray := method_15_code
def yL_pack : MethodName := ⟨RL, "pack", "(LTravellingPictures;II[J)I"⟩
abbrev cL_send : ByteArray := method_16_code
def yL_send : MethodName := ⟨RL, "send", "(LTravellingPictures;III[J)I"⟩
abbrev cL_unpack : ByteArray := method_17_code
def yL_unpack : MethodName := ⟨RL, "unpack", "(LTravellingPictures;I[J)I"⟩
abbrev cL_box : ByteArray := method_18_code
def yL_box : MethodName := ⟨RL, "box", "(LTravellingPictures;II[J)I"⟩
abbrev cL_hang : ByteArray := method_19_code
def yL_hang : MethodName := ⟨RL, "hang", "(LTravellingPictures;II[J)I"⟩
abbrev cL_down : ByteArray := method_20_code
def yL_down : MethodName := ⟨RL, "down", "(LTravellingPictures;I[J)I"⟩
abbrev cL_wall : ByteArray := method_21_code
def yL_wall : MethodName := ⟨RL, "wall", "(LTravellingPictures;II[J)I"⟩
abbrev cL_wait : ByteArray := method_22_code
def yL_wait : MethodName := ⟨RL, "wait", "(LTravellingPictures;I[J)I"⟩
abbrev cL_unknown : ByteArray := method_23_code
def yL_unknown : MethodName := ⟨RL, "unknown", "(LTravellingPictures;I[J)I"⟩
abbrev cL_breach : ByteArray := method_24_code
def yL_breach : MethodName := ⟨RL, "breach", "(LTravellingPictures;II[J)I"⟩
abbrev cL_step : ByteArray := method_25_code
def yL_step : MethodName := ⟨RL, "step", "(LTravellingPictures;II[J)I"⟩
abbrev cL_hanging : ByteArray := method_26_code
def yL_hanging : MethodName := ⟨RL, "hanging", "(LTravellingPictures;III[J)I"⟩
abbrev cL_gain : ByteArray := method_27_code
def yL_gain : MethodName := ⟨RL, "gain", "(LTravellingPictures;III[J)I"⟩
abbrev cL_tour : ByteArray := method_28_code
def yL_tour : MethodName := ⟨RL, "tour", "(LTravellingPictures;I[J)I"⟩
abbrev cL_law : ByteArray := code
def yL_law : MethodName := ⟨RL, "law", "([I)Z"⟩
abbrev vwCl : List vw_C := [(RJx4a65c, TJx4a65c, 3), (RX0, TX0, 4), (RX1, TX1, 3), (RX2, TX2, 5), (RX3, TX3, 9), (RX5, TX5, 3), (RX6, TX6, 4), (RX7, TX7, 5), (RX8, TX8, 11), (RX9, TX9, 2), (RX10, TX10, 11), (RX11, TX11, 13), (RX12, TX12, 59)]
