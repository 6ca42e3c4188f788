def RX0 : String := "PromisesKept$Country"
def TX0 : u_T := fun k => match k with
  | 0 => ("PromisesKept$Country", "slots", "I", false)
  | 1 => ("PromisesKept$Country", "law", "I", false)
  | 2 => ("PromisesKept$Country", "meansAtFirst", "[I", true)
  | 3 => ("PromisesKept$Country", "trustAtFirst", "[I", true)
  | 4 => ("PromisesKept$Country", "ahead", "[I", true)
  | _ => ("PromisesKept$Country", "forgivings", "LPromisesKept$Notes;", true)
def tyX0 : Nat → FieldType := fun k => match k with
  | 0 => .int
  | 1 => .int
  | 2 => .array .int
  | 3 => .array .int
  | 4 => .array .int
  | _ => .object "PromisesKept$Notes"
theorem nmX0 : ∀ a, a < 6 → ∀ b, b < 6 → a ≠ b → (TX0 a).2.1 ≠ (TX0 b).2.1 := by decide +kernel
theorem tyX0_ok : ∀ k, k < 6 → parseFieldDescriptor (TX0 k).2.2.1 = some (tyX0 k) := by decide +kernel
def RX1 : String := "PromisesKept$Course"
def TX1 : u_T := fun k => match k with
  | 0 => ("PromisesKept$Course", "wants", "LPromisesKept$Wants;", true)
  | 1 => ("PromisesKept$Course", "country", "LPromisesKept$Country;", true)
  | 2 => ("PromisesKept$Course", "trust", "[I", true)
  | 3 => ("PromisesKept$Course", "means", "[I", true)
  | 4 => ("PromisesKept$Course", "madeOn", "[I", true)
  | 5 => ("PromisesKept$Course", "endedOn", "[I", true)
  | 6 => ("PromisesKept$Course", "ending", "[I", true)
  | 7 => ("PromisesKept$Course", "law", "I", false)
  | 8 => ("PromisesKept$Course", "slots", "I", false)
  | 9 => ("PromisesKept$Course", "leftOut", "I", false)
  | 10 => ("PromisesKept$Course", "day", "I", false)
  | 11 => ("PromisesKept$Course", "heldBits", "I", false)
  | 12 => ("PromisesKept$Course", "waitingBits", "I", false)
  | _ => ("PromisesKept$Course", "keptBits", "I", false)
def tyX1 : Nat → FieldType := fun k => match k with
  | 0 => .object "PromisesKept$Wants"
  | 1 => .object "PromisesKept$Country"
  | 2 => .array .int
  | 3 => .array .int
  | 4 => .array .int
  | 5 => .array .int
  | 6 => .array .int
  | 7 => .int
  | 8 => .int
  | 9 => .int
  | 10 => .int
  | 11 => .int
  | 12 => .int
  | _ => .int
theorem nmX1 : ∀ a, a < 14 → ∀ b, b < 14 → a ≠ b → (TX1 a).2.1 ≠ (TX1 b).2.1 := by decide +kernel
theorem tyX1_ok : ∀ k, k < 14 → parseFieldDescriptor (TX1 k).2.2.1 = some (tyX1 k) := by decide +kernel
def RX2 : String := "PromisesKept$Notes"
def TX2 : u_T := fun k => match k with
  | 0 => ("PromisesKept$Notes", "days", "[I", true)
  | 1 => ("PromisesKept$Notes", "numbers", "[I", true)
  | 2 => ("PromisesKept$Notes", "values", "[I", true)
  | _ => ("PromisesKept$Notes", "size", "I", false)
def tyX2 : Nat → FieldType := fun k => match k with
  | 0 => .array .int
  | 1 => .array .int
  | 2 => .array .int
  | _ => .int
theorem nmX2 : ∀ a, a < 4 → ∀ b, b < 4 → a ≠ b → (TX2 a).2.1 ≠ (TX2 b).2.1 := by decide +kernel
theorem tyX2_ok : ∀ k, k < 4 → parseFieldDescriptor (TX2 k).2.2.1 = some (tyX2 k) := by decide +kernel
def RX3 : String := "PromisesKept$Sheet"
def TX3 : u_T := fun k => match k with
  | 0 => ("PromisesKept$Sheet", "items", "[I", true)
  | 1 => ("PromisesKept$Sheet", "lost", "Z", false)
  | 2 => ("PromisesKept$Sheet", "form", "I", false)
  | _ => ("PromisesKept$Sheet", "size", "I", false)
def tyX3 : Nat → FieldType := fun k => match k with
  | 0 => .array .int
  | 1 => .boolean
  | 2 => .int
  | _ => .int
theorem nmX3 : ∀ a, a < 4 → ∀ b, b < 4 → a ≠ b → (TX3 a).2.1 ≠ (TX3 b).2.1 := by decide +kernel
theorem tyX3_ok : ∀ k, k < 4 → parseFieldDescriptor (TX3 k).2.2.1 = some (tyX3 k) := by decide +kernel
def RX4 : String := "PromisesKept$Wants"
def TX4 : u_T := fun k => match k with
  | 0 => ("PromisesKept$Wants", "bytes", "[I", true)
  | 1 => ("PromisesKept$Wants", "who", "[I", true)
  | 2 => ("PromisesKept$Wants", "to", "[I", true)
  | 3 => ("PromisesKept$Wants", "asked", "[I", true)
  | 4 => ("PromisesKept$Wants", "due", "[I", true)
  | 5 => ("PromisesKept$Wants", "worth", "[I", true)
  | 6 => ("PromisesKept$Wants", "length", "I", false)
  | 7 => ("PromisesKept$Wants", "number", "I", false)
  | _ => ("PromisesKept$Wants", "faultAt", "I", false)
def tyX4 : Nat → FieldType := fun k => match k with
  | 0 => .array .int
  | 1 => .array .int
  | 2 => .array .int
  | 3 => .array .int
  | 4 => .array .int
  | 5 => .array .int
  | 6 => .int
  | 7 => .int
  | _ => .int
theorem nmX4 : ∀ a, a < 9 → ∀ b, b < 9 → a ≠ b → (TX4 a).2.1 ≠ (TX4 b).2.1 := by decide +kernel
theorem tyX4_ok : ∀ k, k < 9 → parseFieldDescriptor (TX4 k).2.2.1 = some (tyX4 k) := by decide +kernel
def RX5 : String := "PromisesKept"
def TX5 : u_T := fun k => match k with
  | 0 => ("PromisesKept", "wants", "LPromisesKept$Wants;", true)
  | 1 => ("PromisesKept", "country", "LPromisesKept$Country;", true)
  | 2 => ("PromisesKept", "sights", "LPromisesKept$Notes;", true)
  | 3 => ("PromisesKept", "now", "LPromisesKept$Course;", true)
  | 4 => ("PromisesKept", "supposed", "LPromisesKept$Course;", true)
  | 5 => ("PromisesKept", "compared", "LPromisesKept$Course;", true)
  | 6 => ("PromisesKept", "sheets", "[LPromisesKept$Sheet;", true)
  | 7 => ("PromisesKept", "stale", "Z", false)
  | _ => ("PromisesKept", "finding", "I", false)
def tyX5 : Nat → FieldType := fun k => match k with
  | 0 => .object "PromisesKept$Wants"
  | 1 => .object "PromisesKept$Country"
  | 2 => .object "PromisesKept$Notes"
  | 3 => .object "PromisesKept$Course"
  | 4 => .object "PromisesKept$Course"
  | 5 => .object "PromisesKept$Course"
  | 6 => .array (.object "PromisesKept$Sheet")
  | 7 => .boolean
  | _ => .int
theorem nmX5 : ∀ a, a < 9 → ∀ b, b < 9 → a ≠ b → (TX5 a).2.1 ≠ (TX5 b).2.1 := by decide +kernel
theorem tyX5_ok : ∀ k, k < 9 → parseFieldDescriptor (TX5 k).2.2.1 = some (tyX5 k) := by decide +kernel
def RX6 : String := "PromisesKeptModel"
def TX6 : u_T := fun k => match k with
  | 0 => ("PromisesKeptModel", "text", "[I", true)
  | 1 => ("PromisesKeptModel", "typed", "I", false)
  | 2 => ("PromisesKeptModel", "wants", "I", false)
  | 3 => ("PromisesKeptModel", "numbers", "[I", true)
  | 4 => ("PromisesKeptModel", "slots", "I", false)
  | 5 => ("PromisesKeptModel", "lawNow", "I", false)
  | 6 => ("PromisesKeptModel", "meansFirst", "[I", true)
  | 7 => ("PromisesKeptModel", "trustFirst", "[I", true)
  | 8 => ("PromisesKeptModel", "afters", "[I", true)
  | 9 => ("PromisesKeptModel", "forgivings", "I", false)
  | 10 => ("PromisesKeptModel", "forgiveDay", "[I", true)
  | 11 => ("PromisesKeptModel", "forgiveWant", "[I", true)
  | 12 => ("PromisesKeptModel", "madeOn", "[I", true)
  | 13 => ("PromisesKeptModel", "endedOn", "[I", true)
  | 14 => ("PromisesKeptModel", "hows", "[I", true)
  | 15 => ("PromisesKeptModel", "left", "[I", true)
  | 16 => ("PromisesKeptModel", "trusts", "[I", true)
  | 17 => ("PromisesKeptModel", "heldBy", "[I", true)
  | 18 => ("PromisesKeptModel", "losses", "[I", true)
  | 19 => ("PromisesKeptModel", "depths", "[I", true)
  | 20 => ("PromisesKeptModel", "sights", "I", false)
  | 21 => ("PromisesKeptModel", "seenDay", "[I", true)
  | 22 => ("PromisesKeptModel", "seenWant", "[I", true)
  | 23 => ("PromisesKeptModel", "seenIs", "[I", true)
  | 24 => ("PromisesKeptModel", "otherHeld", "[I", true)
  | 25 => ("PromisesKeptModel", "isThere", "[Z", true)
  | 26 => ("PromisesKeptModel", "forms", "[I", true)
  | 27 => ("PromisesKeptModel", "sizes", "[I", true)
  | 28 => ("PromisesKeptModel", "items", "[I", true)
  | 29 => ("PromisesKeptModel", "moved", "[I", true)
  | _ => ("PromisesKeptModel", "finding", "I", false)
def tyX6 : Nat → FieldType := fun k => match k with
  | 0 => .array .int
  | 1 => .int
  | 2 => .int
  | 3 => .array .int
  | 4 => .int
  | 5 => .int
  | 6 => .array .int
  | 7 => .array .int
  | 8 => .array .int
  | 9 => .int
  | 10 => .array .int
  | 11 => .array .int
  | 12 => .array .int
  | 13 => .array .int
  | 14 => .array .int
  | 15 => .array .int
  | 16 => .array .int
  | 17 => .array .int
  | 18 => .array .int
  | 19 => .array .int
  | 20 => .int
  | 21 => .array .int
  | 22 => .array .int
  | 23 => .array .int
  | 24 => .array .int
  | 25 => .array .boolean
  | 26 => .array .int
  | 27 => .array .int
  | 28 => .array .int
  | 29 => .array .int
  | _ => .int
theorem nmX6 : ∀ a, a < 31 → ∀ b, b < 31 → a ≠ b → (TX6 a).2.1 ≠ (TX6 b).2.1 := by decide +kernel
theorem tyX6_ok : ∀ k, k < 31 → parseFieldDescriptor (TX6 k).2.2.1 = some (tyX6 k) := by decide +kernel
def RJ6 : String := "java/lang/Integer"
def RJ9 : String := "java/lang/Math"
def RJ10 : String := "java/lang/System"
def RL : String := "PromisesKeptLaw"
abbrev vwCl : List vw_C := [(RX0, TX0, 6), (RX1, TX1, 14), (RX2, TX2, 4), (RX3, TX3, 4), (RX4, TX4, 9), (RX5, TX5, 9), (RX6, TX6, 31)]
abbrev cX0_allows : ByteArray := prog_2_method_2_code
def yX0_allows : MethodName := ⟨RX0, "allows", "(III)Z"⟩
abbrev cX0_exchange : ByteArray := prog_2_method_3_code
def yX0_exchange : MethodName := ⟨RX0, "exchange", "(III)I"⟩
abbrev cX0_exchangeAfter : ByteArray := prog_2_method_4_code
def yX0_exchangeAfter : MethodName := ⟨RX0, "exchangeAfter", "(III)I"⟩
abbrev cX0_stepFrom : ByteArray := prog_2_method_5_code
def yX0_stepFrom : MethodName := ⟨RX0, "stepFrom", "(II)I"⟩
abbrev cX0_ringsAmong : ByteArray := prog_2_method_6_code
def yX0_ringsAmong : MethodName := ⟨RX0, "ringsAmong", "(I)I"⟩
abbrev cX0_comesBack : ByteArray := prog_2_method_7_code
def yX0_comesBack : MethodName := ⟨RX0, "comesBack", "(II)Z"⟩
abbrev cX0_longestRowFrom : ByteArray := prog_2_method_8_code
def yX0_longestRowFrom : MethodName := ⟨RX0, "longestRowFrom", "(II)I"⟩
abbrev cX0_longestRow : ByteArray := prog_2_method_9_code
def yX0_longestRow : MethodName := ⟨RX0, "longestRow", "(II)I"⟩
abbrev cX0_fewestThatFree : ByteArray := prog_2_method_10_code
def yX0_fewestThatFree : MethodName := ⟨RX0, "fewestThatFree", "(I)I"⟩
abbrev cX1_begin : ByteArray := prog_3_method_2_code
def yX1_begin : MethodName := ⟨RX1, "begin", "(III)V"⟩
abbrev cX1_passTo : ByteArray := prog_3_method_3_code
def yX1_passTo : MethodName := ⟨RX1, "passTo", "(I)V"⟩
abbrev cX1_endThoseDue : ByteArray := prog_3_method_4_code
def yX1_endThoseDue : MethodName := ⟨RX1, "endThoseDue", "()V"⟩
abbrev cX1_fulfil : ByteArray := prog_3_method_5_code
def yX1_fulfil : MethodName := ⟨RX1, "fulfil", "(I)V"⟩
abbrev cX1_forgiveThoseTold : ByteArray := prog_3_method_6_code
def yX1_forgiveThoseTold : MethodName := ⟨RX1, "forgiveThoseTold", "()V"⟩
abbrev cX1_lapseThoseDue : ByteArray := prog_3_method_7_code
def yX1_lapseThoseDue : MethodName := ⟨RX1, "lapseThoseDue", "()V"⟩
abbrev cX1_end : ByteArray := prog_3_method_8_code
def yX1_end : MethodName := ⟨RX1, "end", "(II)V"⟩
abbrev cX1_makeThoseThatWait : ByteArray := prog_3_method_9_code
def yX1_makeThoseThatWait : MethodName := ⟨RX1, "makeThoseThatWait", "()V"⟩
abbrev cX1_nextToBeMade : ByteArray := prog_3_method_10_code
def yX1_nextToBeMade : MethodName := ⟨RX1, "nextToBeMade", "()I"⟩
abbrev cX1_standing : ByteArray := prog_3_method_11_code
def yX1_standing : MethodName := ⟨RX1, "standing", "(I)I"⟩
abbrev cX1_trustIn : ByteArray := prog_3_method_12_code
def yX1_trustIn : MethodName := ⟨RX1, "trustIn", "(I)I"⟩
abbrev cX1_meansOf : ByteArray := prog_3_method_13_code
def yX1_meansOf : MethodName := ⟨RX1, "meansOf", "(I)I"⟩
abbrev cX1_fate : ByteArray := prog_3_method_14_code
def yX1_fate : MethodName := ⟨RX1, "fate", "(II)I"⟩
abbrev cX1_isHeldBehind : ByteArray := prog_3_method_15_code
def yX1_isHeldBehind : MethodName := ⟨RX1, "isHeldBehind", "(II)Z"⟩
abbrev cX1_worthThatEnded : ByteArray := prog_3_method_16_code
def yX1_worthThatEnded : MethodName := ⟨RX1, "worthThatEnded", "(I)I"⟩
abbrev cX1_howManyEnded : ByteArray := prog_3_method_17_code
def yX1_howManyEnded : MethodName := ⟨RX1, "howManyEnded", "(I)I"⟩
abbrev cX1_howManyWereMade : ByteArray := prog_3_method_18_code
def yX1_howManyWereMade : MethodName := ⟨RX1, "howManyWereMade", "()I"⟩
abbrev cX1_daysHeldBy : ByteArray := prog_3_method_19_code
def yX1_daysHeldBy : MethodName := ⟨RX1, "daysHeldBy", "(I)I"⟩
abbrev cX2_isFull : ByteArray := prog_4_method_2_code
def yX2_isFull : MethodName := ⟨RX2, "isFull", "()Z"⟩
abbrev cX2_add : ByteArray := prog_4_method_3_code
def yX2_add : MethodName := ⟨RX2, "add", "(III)I"⟩
abbrev cX2_dropLast : ByteArray := prog_4_method_4_code
def yX2_dropLast : MethodName := ⟨RX2, "dropLast", "()I"⟩
abbrev cX2_clear : ByteArray := prog_4_method_5_code
def yX2_clear : MethodName := ⟨RX2, "clear", "()I"⟩
abbrev cX2_dayOf : ByteArray := prog_4_method_6_code
def yX2_dayOf : MethodName := ⟨RX2, "dayOf", "(I)I"⟩
abbrev cX2_wantOf : ByteArray := prog_4_method_7_code
def yX2_wantOf : MethodName := ⟨RX2, "wantOf", "(I)I"⟩
abbrev cX2_valueOf : ByteArray := prog_4_method_8_code
def yX2_valueOf : MethodName := ⟨RX2, "valueOf", "(I)I"⟩
abbrev cX3_renew : ByteArray := prog_5_method_2_code
def yX3_renew : MethodName := ⟨RX3, "renew", "(II)V"⟩
abbrev cX3_drop : ByteArray := prog_5_method_3_code
def yX3_drop : MethodName := ⟨RX3, "drop", "()I"⟩
abbrev cX3_findingAt : ByteArray := prog_5_method_4_code
def yX3_findingAt : MethodName := ⟨RX3, "findingAt", "(II)I"⟩
abbrev cX3_hasRow : ByteArray := prog_5_method_5_code
def yX3_hasRow : MethodName := ⟨RX3, "hasRow", "(II)Z"⟩
abbrev cX3_item : ByteArray := prog_5_method_6_code
def yX3_item : MethodName := ⟨RX3, "item", "(I)I"⟩
abbrev cX3_change : ByteArray := prog_5_method_7_code
def yX3_change : MethodName := ⟨RX3, "change", "(II)V"⟩
abbrev cX3_take : ByteArray := prog_5_method_8_code
def yX3_take : MethodName := ⟨RX3, "take", "(ILPromisesKept$Sheet;II)V"⟩
abbrev cX4_append : ByteArray := prog_6_method_2_code
def yX4_append : MethodName := ⟨RX4, "append", "(I)V"⟩
abbrev cX4_clear : ByteArray := prog_6_method_3_code
def yX4_clear : MethodName := ⟨RX4, "clear", "()V"⟩
abbrev cX4_all : ByteArray := prog_6_method_4_code
def yX4_all : MethodName := ⟨RX4, "all", "()I"⟩
abbrev cX4_worthOf : ByteArray := prog_6_method_5_code
def yX4_worthOf : MethodName := ⟨RX4, "worthOf", "(I)I"⟩
abbrev cX4_greatestWorth : ByteArray := prog_6_method_6_code
def yX4_greatestWorth : MethodName := ⟨RX4, "greatestWorth", "(I)I"⟩
abbrev cX4_nobodyLosesOver : ByteArray := prog_6_method_7_code
def yX4_nobodyLosesOver : MethodName := ⟨RX4, "nobodyLosesOver", "(II)Z"⟩
abbrev cX4_owedOf : ByteArray := prog_6_method_8_code
def yX4_owedOf : MethodName := ⟨RX4, "owedOf", "(III)I"⟩
abbrev cX4_thoseWith : ByteArray := prog_6_method_9_code
def yX4_thoseWith : MethodName := ⟨RX4, "thoseWith", "([II)I"⟩
abbrev cX4_understand : ByteArray := prog_6_method_10_code
def yX4_understand : MethodName := ⟨RX4, "understand", "()V"⟩
abbrev cX4_firstFault : ByteArray := prog_6_method_11_code
def yX4_firstFault : MethodName := ⟨RX4, "firstFault", "()I"⟩
abbrev cX4_goesOnWith : ByteArray := prog_6_method_12_code
def yX4_goesOnWith : MethodName := ⟨RX4, "goesOnWith", "(I)Z"⟩
abbrev cX4_twoDigits : ByteArray := prog_6_method_13_code
def yX4_twoDigits : MethodName := ⟨RX4, "twoDigits", "(I)I"⟩
abbrev cX4_digit : ByteArray := prog_6_method_14_code
def yX4_digit : MethodName := ⟨RX4, "digit", "(I)I"⟩
abbrev cX5_type : ByteArray := prog_1_method_2_code
def yX5_type : MethodName := ⟨RX5, "type", "(I)I"⟩
abbrev cX5_wipe : ByteArray := prog_1_method_3_code
def yX5_wipe : MethodName := ⟨RX5, "wipe", "()I"⟩
abbrev cX5_fault : ByteArray := prog_1_method_4_code
def yX5_fault : MethodName := ⟨RX5, "fault", "()I"⟩
abbrev cX5_want : ByteArray := prog_1_method_5_code
def yX5_want : MethodName := ⟨RX5, "want", "(II)I"⟩
abbrev cX5_set : ByteArray := prog_1_method_6_code
def yX5_set : MethodName := ⟨RX5, "set", "(III)I"⟩
abbrev cX5_after : ByteArray := prog_1_method_7_code
def yX5_after : MethodName := ⟨RX5, "after", "(III)I"⟩
abbrev cX5_read : ByteArray := prog_1_method_8_code
def yX5_read : MethodName := ⟨RX5, "read", "(I)I"⟩
abbrev cX5_forgive : ByteArray := prog_1_method_9_code
def yX5_forgive : MethodName := ⟨RX5, "forgive", "(II)I"⟩
abbrev cX5_undo : ByteArray := prog_1_method_10_code
def yX5_undo : MethodName := ⟨RX5, "undo", "()I"⟩
abbrev cX5_held : ByteArray := prog_1_method_11_code
def yX5_held : MethodName := ⟨RX5, "held", "(I)I"⟩
abbrev cX5_waiting : ByteArray := prog_1_method_12_code
def yX5_waiting : MethodName := ⟨RX5, "waiting", "(I)I"⟩
abbrev cX5_trust : ByteArray := prog_1_method_13_code
def yX5_trust : MethodName := ⟨RX5, "trust", "(II)I"⟩
abbrev cX5_means : ByteArray := prog_1_method_14_code
def yX5_means : MethodName := ⟨RX5, "means", "(II)I"⟩
abbrev cX5_made : ByteArray := prog_1_method_15_code
def yX5_made : MethodName := ⟨RX5, "made", "(II)I"⟩
abbrev cX5_without : ByteArray := prog_1_method_16_code
def yX5_without : MethodName := ⟨RX5, "without", "(III)I"⟩
abbrev cX5_gain : ByteArray := prog_1_method_17_code
def yX5_gain : MethodName := ⟨RX5, "gain", "(I)I"⟩
abbrev cX5_best : ByteArray := prog_1_method_18_code
def yX5_best : MethodName := ⟨RX5, "best", "()I"⟩
abbrev cX5_room : ByteArray := prog_1_method_19_code
def yX5_room : MethodName := ⟨RX5, "room", "(IIII)I"⟩
abbrev cX5_price : ByteArray := prog_1_method_20_code
def yX5_price : MethodName := ⟨RX5, "price", "(I)I"⟩
abbrev cX5_hoarder : ByteArray := prog_1_method_21_code
def yX5_hoarder : MethodName := ⟨RX5, "hoarder", "()I"⟩
abbrev cX5_rings : ByteArray := prog_1_method_22_code
def yX5_rings : MethodName := ⟨RX5, "rings", "()I"⟩
abbrev cX5_freed : ByteArray := prog_1_method_23_code
def yX5_freed : MethodName := ⟨RX5, "freed", "(I)I"⟩
abbrev cX5_depth : ByteArray := prog_1_method_24_code
def yX5_depth : MethodName := ⟨RX5, "depth", "(I)I"⟩
abbrev cX5_seen : ByteArray := prog_1_method_25_code
def yX5_seen : MethodName := ⟨RX5, "seen", "(III)I"⟩
abbrev cX5_forget : ByteArray := prog_1_method_26_code
def yX5_forget : MethodName := ⟨RX5, "forget", "()I"⟩
abbrev cX5_fits : ByteArray := prog_1_method_27_code
def yX5_fits : MethodName := ⟨RX5, "fits", "(I)I"⟩
abbrev cX5_unlike : ByteArray := prog_1_method_28_code
def yX5_unlike : MethodName := ⟨RX5, "unlike", "(II)I"⟩
abbrev cX5_owed : ByteArray := prog_1_method_29_code
def yX5_owed : MethodName := ⟨RX5, "owed", "(III)I"⟩
abbrev cX5_cleared : ByteArray := prog_1_method_30_code
def yX5_cleared : MethodName := ⟨RX5, "cleared", "(I)I"⟩
abbrev cX5_sheet : ByteArray := prog_1_method_31_code
def yX5_sheet : MethodName := ⟨RX5, "sheet", "(III)I"⟩
abbrev cX5_lose : ByteArray := prog_1_method_32_code
def yX5_lose : MethodName := ⟨RX5, "lose", "(I)I"⟩
abbrev cX5_put : ByteArray := prog_1_method_33_code
def yX5_put : MethodName := ⟨RX5, "put", "(IIII)I"⟩
abbrev cX5_get : ByteArray := prog_1_method_34_code
def yX5_get : MethodName := ⟨RX5, "get", "(III)I"⟩
abbrev cX5_copy : ByteArray := prog_1_method_35_code
def yX5_copy : MethodName := ⟨RX5, "copy", "(IIIII)I"⟩
abbrev cX5_write : ByteArray := prog_1_method_36_code
def yX5_write : MethodName := ⟨RX5, "write", "(II)I"⟩
abbrev cX5_count : ByteArray := prog_1_method_37_code
def yX5_count : MethodName := ⟨RX5, "count", "(I)I"⟩
abbrev cX5_digest : ByteArray := prog_1_method_38_code
def yX5_digest : MethodName := ⟨RX5, "digest", "()J"⟩
abbrev cX5_mixed : ByteArray := prog_1_method_39_code
def yX5_mixed : MethodName := ⟨RX5, "mixed", "(JI)J"⟩
abbrev cX5_behind : ByteArray := prog_1_method_40_code
def yX5_behind : MethodName := ⟨RX5, "behind", "(I)LPromisesKept$Course;"⟩
abbrev cX5_cheapestToForgive : ByteArray := prog_1_method_41_code
def yX5_cheapestToForgive : MethodName := ⟨RX5, "cheapestToForgive", "(III)I"⟩
abbrev cX5_fitsAllSights : ByteArray := prog_1_method_42_code
def yX5_fitsAllSights : MethodName := ⟨RX5, "fitsAllSights", "(II)Z"⟩
abbrev cX5_found : ByteArray := prog_1_method_43_code
def yX5_found : MethodName := ⟨RX5, "found", "(I)I"⟩
abbrev cX5_sheetAt : ByteArray := prog_1_method_44_code
def yX5_sheetAt : MethodName := ⟨RX5, "sheetAt", "(I)LPromisesKept$Sheet;"⟩
abbrev cX5_isWant : ByteArray := prog_1_method_45_code
def yX5_isWant : MethodName := ⟨RX5, "isWant", "(I)Z"⟩
abbrev cX5_isNumber : ByteArray := prog_1_method_46_code
def yX5_isNumber : MethodName := ⟨RX5, "isNumber", "(I)Z"⟩
abbrev cX5_isPerson : ByteArray := prog_1_method_47_code
def yX5_isPerson : MethodName := ⟨RX5, "isPerson", "(I)Z"⟩
abbrev cX5_isDay : ByteArray := prog_1_method_48_code
def yX5_isDay : MethodName := ⟨RX5, "isDay", "(I)Z"⟩
abbrev cX5_isLaw : ByteArray := prog_1_method_49_code
def yX5_isLaw : MethodName := ⟨RX5, "isLaw", "(I)Z"⟩
abbrev cX5_isForm : ByteArray := prog_1_method_50_code
def yX5_isForm : MethodName := ⟨RX5, "isForm", "(I)Z"⟩
abbrev cX5_within : ByteArray := prog_1_method_51_code
def yX5_within : MethodName := ⟨RX5, "within", "(III)Z"⟩
abbrev cX5_hasBit : ByteArray := prog_1_method_52_code
def yX5_hasBit : MethodName := ⟨RX5, "hasBit", "(II)Z"⟩
abbrev cX6_in : ByteArray := prog_8_method_3_code
def yX6_in : MethodName := ⟨RX6, "in", "(III)Z"⟩
abbrev cX6_isIn : ByteArray := prog_8_method_4_code
def yX6_isIn : MethodName := ⟨RX6, "isIn", "(II)Z"⟩
abbrev cX6_ones : ByteArray := prog_8_method_5_code
def yX6_ones : MethodName := ⟨RX6, "ones", "(I)I"⟩
abbrev cX6_type : ByteArray := prog_8_method_6_code
def yX6_type : MethodName := ⟨RX6, "type", "(I)I"⟩
abbrev cX6_wipe : ByteArray := prog_8_method_7_code
def yX6_wipe : MethodName := ⟨RX6, "wipe", "()I"⟩
abbrev cX6_figureAt : ByteArray := prog_8_method_8_code
def yX6_figureAt : MethodName := ⟨RX6, "figureAt", "(I)I"⟩
abbrev cX6_readsOne : ByteArray := prog_8_method_9_code
def yX6_readsOne : MethodName := ⟨RX6, "readsOne", "(II)I"⟩
abbrev cX6_faultNow : ByteArray := prog_8_method_10_code
def yX6_faultNow : MethodName := ⟨RX6, "faultNow", "()I"⟩
abbrev cX6_fault : ByteArray := prog_8_method_11_code
def yX6_fault : MethodName := ⟨RX6, "fault", "()I"⟩
abbrev cX6_reads : ByteArray := prog_8_method_12_code
def yX6_reads : MethodName := ⟨RX6, "reads", "()V"⟩
abbrev cX6_isWant : ByteArray := prog_8_method_13_code
def yX6_isWant : MethodName := ⟨RX6, "isWant", "(I)Z"⟩
abbrev cX6_isTen : ByteArray := prog_8_method_14_code
def yX6_isTen : MethodName := ⟨RX6, "isTen", "(I)Z"⟩
abbrev cX6_isDay : ByteArray := prog_8_method_15_code
def yX6_isDay : MethodName := ⟨RX6, "isDay", "(I)Z"⟩
abbrev cX6_isPerson : ByteArray := prog_8_method_16_code
def yX6_isPerson : MethodName := ⟨RX6, "isPerson", "(I)Z"⟩
abbrev cX6_want : ByteArray := prog_8_method_17_code
def yX6_want : MethodName := ⟨RX6, "want", "(II)I"⟩
abbrev cX6_set : ByteArray := prog_8_method_18_code
def yX6_set : MethodName := ⟨RX6, "set", "(III)I"⟩
abbrev cX6_after : ByteArray := prog_8_method_19_code
def yX6_after : MethodName := ⟨RX6, "after", "(III)I"⟩
abbrev cX6_read : ByteArray := prog_8_method_20_code
def yX6_read : MethodName := ⟨RX6, "read", "(I)I"⟩
abbrev cX6_forgive : ByteArray := prog_8_method_21_code
def yX6_forgive : MethodName := ⟨RX6, "forgive", "(II)I"⟩
abbrev cX6_undo : ByteArray := prog_8_method_22_code
def yX6_undo : MethodName := ⟨RX6, "undo", "()I"⟩
abbrev cX6_heldNow : ByteArray := prog_8_method_23_code
def yX6_heldNow : MethodName := ⟨RX6, "heldNow", "()I"⟩
abbrev cX6_waitingAt : ByteArray := prog_8_method_24_code
def yX6_waitingAt : MethodName := ⟨RX6, "waitingAt", "(I)I"⟩
abbrev cX6_ends : ByteArray := prog_8_method_25_code
def yX6_ends : MethodName := ⟨RX6, "ends", "(III)V"⟩
abbrev cX6_comesDue : ByteArray := prog_8_method_26_code
def yX6_comesDue : MethodName := ⟨RX6, "comesDue", "(II)V"⟩
abbrev cX6_isAhead : ByteArray := prog_8_method_27_code
def yX6_isAhead : MethodName := ⟨RX6, "isAhead", "(III)Z"⟩
abbrev cX6_makes : ByteArray := prog_8_method_28_code
def yX6_makes : MethodName := ⟨RX6, "makes", "(III)V"⟩
abbrev cX6_runs : ByteArray := prog_8_method_29_code
def yX6_runs : MethodName := ⟨RX6, "runs", "(IIII)V"⟩
abbrev cX6_runsTo : ByteArray := prog_8_method_30_code
def yX6_runsTo : MethodName := ⟨RX6, "runsTo", "(I)V"⟩
abbrev cX6_heldOf : ByteArray := prog_8_method_31_code
def yX6_heldOf : MethodName := ⟨RX6, "heldOf", "(I)I"⟩
abbrev cX6_held : ByteArray := prog_8_method_32_code
def yX6_held : MethodName := ⟨RX6, "held", "(I)I"⟩
abbrev cX6_waitingOf : ByteArray := prog_8_method_33_code
def yX6_waitingOf : MethodName := ⟨RX6, "waitingOf", "(I)I"⟩
abbrev cX6_waiting : ByteArray := prog_8_method_34_code
def yX6_waiting : MethodName := ⟨RX6, "waiting", "(I)I"⟩
abbrev cX6_trustOf : ByteArray := prog_8_method_35_code
def yX6_trustOf : MethodName := ⟨RX6, "trustOf", "(II)I"⟩
abbrev cX6_trust : ByteArray := prog_8_method_36_code
def yX6_trust : MethodName := ⟨RX6, "trust", "(II)I"⟩
abbrev cX6_meansOf : ByteArray := prog_8_method_37_code
def yX6_meansOf : MethodName := ⟨RX6, "meansOf", "(II)I"⟩
abbrev cX6_means : ByteArray := prog_8_method_38_code
def yX6_means : MethodName := ⟨RX6, "means", "(II)I"⟩
abbrev cX6_tellsOf : ByteArray := prog_8_method_39_code
def yX6_tellsOf : MethodName := ⟨RX6, "tellsOf", "(II)I"⟩
abbrev cX6_madeOf : ByteArray := prog_8_method_40_code
def yX6_madeOf : MethodName := ⟨RX6, "madeOf", "(II)I"⟩
abbrev cX6_made : ByteArray := prog_8_method_41_code
def yX6_made : MethodName := ⟨RX6, "made", "(II)I"⟩
abbrev cX6_withoutOf : ByteArray := prog_8_method_42_code
def yX6_withoutOf : MethodName := ⟨RX6, "withoutOf", "(III)I"⟩
abbrev cX6_without : ByteArray := prog_8_method_43_code
def yX6_without : MethodName := ⟨RX6, "without", "(III)I"⟩
abbrev cX6_gainOf : ByteArray := prog_8_method_44_code
def yX6_gainOf : MethodName := ⟨RX6, "gainOf", "(I)I"⟩
abbrev cX6_gain : ByteArray := prog_8_method_45_code
def yX6_gain : MethodName := ⟨RX6, "gain", "(I)I"⟩
abbrev cX6_bestNow : ByteArray := prog_8_method_46_code
def yX6_bestNow : MethodName := ⟨RX6, "bestNow", "()I"⟩
abbrev cX6_best : ByteArray := prog_8_method_47_code
def yX6_best : MethodName := ⟨RX6, "best", "()I"⟩
abbrev cX6_lossOf : ByteArray := prog_8_method_48_code
def yX6_lossOf : MethodName := ⟨RX6, "lossOf", "(II)I"⟩
abbrev cX6_roomOf : ByteArray := prog_8_method_49_code
def yX6_roomOf : MethodName := ⟨RX6, "roomOf", "(IIII)I"⟩
abbrev cX6_room : ByteArray := prog_8_method_50_code
def yX6_room : MethodName := ⟨RX6, "room", "(IIII)I"⟩
abbrev cX6_priceOf : ByteArray := prog_8_method_51_code
def yX6_priceOf : MethodName := ⟨RX6, "priceOf", "(I)I"⟩
abbrev cX6_price : ByteArray := prog_8_method_52_code
def yX6_price : MethodName := ⟨RX6, "price", "(I)I"⟩
abbrev cX6_hoarderNow : ByteArray := prog_8_method_53_code
def yX6_hoarderNow : MethodName := ⟨RX6, "hoarderNow", "()I"⟩
abbrev cX6_hoarder : ByteArray := prog_8_method_54_code
def yX6_hoarder : MethodName := ⟨RX6, "hoarder", "()I"⟩
abbrev cX6_comesTo : ByteArray := prog_8_method_55_code
def yX6_comesTo : MethodName := ⟨RX6, "comesTo", "(II)I"⟩
abbrev cX6_ringsBut : ByteArray := prog_8_method_56_code
def yX6_ringsBut : MethodName := ⟨RX6, "ringsBut", "(I)I"⟩
abbrev cX6_ringsNow : ByteArray := prog_8_method_57_code
def yX6_ringsNow : MethodName := ⟨RX6, "ringsNow", "()I"⟩
abbrev cX6_rings : ByteArray := prog_8_method_58_code
def yX6_rings : MethodName := ⟨RX6, "rings", "()I"⟩
abbrev cX6_freedOf : ByteArray := prog_8_method_59_code
def yX6_freedOf : MethodName := ⟨RX6, "freedOf", "(I)I"⟩
abbrev cX6_freed : ByteArray := prog_8_method_60_code
def yX6_freed : MethodName := ⟨RX6, "freed", "(I)I"⟩
abbrev cX6_depthOf : ByteArray := prog_8_method_61_code
def yX6_depthOf : MethodName := ⟨RX6, "depthOf", "(I)I"⟩
abbrev cX6_depth : ByteArray := prog_8_method_62_code
def yX6_depth : MethodName := ⟨RX6, "depth", "(I)I"⟩
abbrev cX6_seen : ByteArray := prog_8_method_63_code
def yX6_seen : MethodName := ⟨RX6, "seen", "(III)I"⟩
abbrev cX6_forget : ByteArray := prog_8_method_64_code
def yX6_forget : MethodName := ⟨RX6, "forget", "()I"⟩
abbrev cX6_doesFit : ByteArray := prog_8_method_65_code
def yX6_doesFit : MethodName := ⟨RX6, "doesFit", "(II)Z"⟩
abbrev cX6_fitsOf : ByteArray := prog_8_method_66_code
def yX6_fitsOf : MethodName := ⟨RX6, "fitsOf", "(I)I"⟩
abbrev cX6_fits : ByteArray := prog_8_method_67_code
def yX6_fits : MethodName := ⟨RX6, "fits", "(I)I"⟩
abbrev cX6_unlikeOf : ByteArray := prog_8_method_68_code
def yX6_unlikeOf : MethodName := ⟨RX6, "unlikeOf", "(II)I"⟩
abbrev cX6_unlike : ByteArray := prog_8_method_69_code
def yX6_unlike : MethodName := ⟨RX6, "unlike", "(II)I"⟩
abbrev cX6_owedBy : ByteArray := prog_8_method_70_code
def yX6_owedBy : MethodName := ⟨RX6, "owedBy", "(II)I"⟩
abbrev cX6_owedOf : ByteArray := prog_8_method_71_code
def yX6_owedOf : MethodName := ⟨RX6, "owedOf", "(III)I"⟩
abbrev cX6_owed : ByteArray := prog_8_method_72_code
def yX6_owed : MethodName := ⟨RX6, "owed", "(III)I"⟩
abbrev cX6_clearedOf : ByteArray := prog_8_method_73_code
def yX6_clearedOf : MethodName := ⟨RX6, "clearedOf", "(I)I"⟩
abbrev cX6_cleared : ByteArray := prog_8_method_74_code
def yX6_cleared : MethodName := ⟨RX6, "cleared", "(I)I"⟩
abbrev cX6_meets : ByteArray := prog_8_method_75_code
def yX6_meets : MethodName := ⟨RX6, "meets", "(I)I"⟩
abbrev cX6_isSheet : ByteArray := prog_8_method_76_code
def yX6_isSheet : MethodName := ⟨RX6, "isSheet", "(I)Z"⟩
abbrev cX6_sheet : ByteArray := prog_8_method_77_code
def yX6_sheet : MethodName := ⟨RX6, "sheet", "(III)I"⟩
abbrev cX6_lose : ByteArray := prog_8_method_78_code
def yX6_lose : MethodName := ⟨RX6, "lose", "(I)I"⟩
abbrev cX6_lacks : ByteArray := prog_8_method_79_code
def yX6_lacks : MethodName := ⟨RX6, "lacks", "(III)I"⟩
abbrev cX6_keep : ByteArray := prog_8_method_80_code
def yX6_keep : MethodName := ⟨RX6, "keep", "(III)V"⟩
abbrev cX6_put : ByteArray := prog_8_method_81_code
def yX6_put : MethodName := ⟨RX6, "put", "(IIII)I"⟩
abbrev cX6_get : ByteArray := prog_8_method_82_code
def yX6_get : MethodName := ⟨RX6, "get", "(III)I"⟩
abbrev cX6_copy : ByteArray := prog_8_method_83_code
def yX6_copy : MethodName := ⟨RX6, "copy", "(IIIII)I"⟩
abbrev cX6_write : ByteArray := prog_8_method_84_code
def yX6_write : MethodName := ⟨RX6, "write", "(II)I"⟩
abbrev cX6_sumOf : ByteArray := prog_8_method_85_code
def yX6_sumOf : MethodName := ⟨RX6, "sumOf", "(I)I"⟩
abbrev cX6_count : ByteArray := prog_8_method_86_code
def yX6_count : MethodName := ⟨RX6, "count", "(I)I"⟩
abbrev cX6_dayDigest : ByteArray := prog_8_method_87_code
def yX6_dayDigest : MethodName := ⟨RX6, "dayDigest", "(JI)J"⟩
abbrev cX6_digest : ByteArray := prog_8_method_88_code
def yX6_digest : MethodName := ⟨RX6, "digest", "()J"⟩
abbrev cJ6_bitCount_0f7a4 : ByteArray := prog_9_method_49_code
def yJ6_bitCount_0f7a4 : MethodName := ⟨RJ6, "bitCount", "(I)I"⟩
def am_on : List String := [RX0, RX1, RX2, RX3, RX4, RX5, RX6, RJ6, RL]
abbrev am_MI : Type := MethodName × ByteArray × Nat × Option FieldType × Nat × Bool × Nat
def am_mt_0 : List am_MI := [(yX0_allows, cX0_allows, 4, (some .boolean), 0, false, 3),
  (yX0_exchange, cX0_exchange, 6, (some .int), 0, false, 3),
  (yX0_exchangeAfter, cX0_exchangeAfter, 5, (some .int), 0, false, 3),
  (yX0_stepFrom, cX0_stepFrom, 5, (some .int), 0, false, 2),
  (yX0_ringsAmong, cX0_ringsAmong, 4, (some .int), 0, false, 1),
  (yX0_comesBack, cX0_comesBack, 5, (some .boolean), 0, false, 2),
  (yX0_longestRowFrom, cX0_longestRowFrom, 6, (some .int), 0, false, 2),
  (yX0_longestRow, cX0_longestRow, 3, (some .int), 0, false, 2),
  (yX0_fewestThatFree, cX0_fewestThatFree, 6, (some .int), 0, false, 1),
  (yX1_begin, cX1_begin, 5, none, 1, false, 3),
  (yX1_passTo, cX1_passTo, 3, none, 1, false, 1),
  (yX1_endThoseDue, cX1_endThoseDue, 2, none, 1, false, 0),
  (yX1_fulfil, cX1_fulfil, 4, none, 1, false, 1),
  (yX1_forgiveThoseTold, cX1_forgiveThoseTold, 3, none, 1, false, 0),
  (yX1_lapseThoseDue, cX1_lapseThoseDue, 2, none, 1, false, 0)]
def am_mt_1 : List am_MI := [(yX1_end, cX1_end, 3, none, 1, false, 2),
  (yX1_makeThoseThatWait, cX1_makeThoseThatWait, 3, none, 1, false, 0),
  (yX1_nextToBeMade, cX1_nextToBeMade, 3, (some .int), 1, false, 0),
  (yX1_standing, cX1_standing, 3, (some .int), 1, false, 1),
  (yX1_trustIn, cX1_trustIn, 2, (some .int), 1, false, 1),
  (yX1_meansOf, cX1_meansOf, 2, (some .int), 1, false, 1),
  (yX1_fate, cX1_fate, 3, (some .int), 1, false, 2),
  (yX1_isHeldBehind, cX1_isHeldBehind, 3, (some .boolean), 1, false, 2),
  (yX1_worthThatEnded, cX1_worthThatEnded, 4, (some .int), 1, false, 1),
  (yX1_howManyEnded, cX1_howManyEnded, 4, (some .int), 1, false, 1),
  (yX1_howManyWereMade, cX1_howManyWereMade, 3, (some .int), 1, false, 0),
  (yX1_daysHeldBy, cX1_daysHeldBy, 4, (some .int), 1, false, 1),
  (yX2_isFull, cX2_isFull, 1, (some .boolean), 2, false, 0),
  (yX2_add, cX2_add, 4, (some .int), 2, false, 3),
  (yX2_dropLast, cX2_dropLast, 1, (some .int), 2, false, 0)]
def am_mt_2 : List am_MI := [(yX2_clear, cX2_clear, 2, (some .int), 2, false, 0),
  (yX2_dayOf, cX2_dayOf, 2, (some .int), 2, false, 1),
  (yX2_wantOf, cX2_wantOf, 2, (some .int), 2, false, 1),
  (yX2_valueOf, cX2_valueOf, 2, (some .int), 2, false, 1),
  (yX3_renew, cX3_renew, 4, none, 3, false, 2),
  (yX3_drop, cX3_drop, 2, (some .int), 3, false, 0),
  (yX3_findingAt, cX3_findingAt, 3, (some .int), 3, false, 2),
  (yX3_hasRow, cX3_hasRow, 3, (some .boolean), 3, false, 2),
  (yX3_item, cX3_item, 2, (some .int), 3, false, 1),
  (yX3_change, cX3_change, 3, none, 3, false, 2),
  (yX3_take, cX3_take, 5, none, 3, false, 4),
  (yX4_append, cX4_append, 2, none, 4, false, 1),
  (yX4_clear, cX4_clear, 1, none, 4, false, 0),
  (yX4_all, cX4_all, 1, (some .int), 4, false, 0),
  (yX4_worthOf, cX4_worthOf, 4, (some .int), 4, false, 1)]
def am_mt_3 : List am_MI := [(yX4_greatestWorth, cX4_greatestWorth, 4, (some .int), 4, false, 1),
  (yX4_nobodyLosesOver, cX4_nobodyLosesOver, 4, (some .boolean), 4, false, 2),
  (yX4_owedOf, cX4_owedOf, 6, (some .int), 4, false, 3),
  (yX4_thoseWith, cX4_thoseWith, 5, (some .int), 4, false, 2),
  (yX4_understand, cX4_understand, 3, none, 4, false, 0),
  (yX4_firstFault, cX4_firstFault, 2, (some .int), 4, false, 0),
  (yX4_goesOnWith, cX4_goesOnWith, 5, (some .boolean), 4, false, 1),
  (yX4_twoDigits, cX4_twoDigits, 2, (some .int), 4, false, 1),
  (yX4_digit, cX4_digit, 2, (some .int), 4, false, 1),
  (yX5_type, cX5_type, 2, (some .int), 5, false, 1),
  (yX5_wipe, cX5_wipe, 2, (some .int), 5, false, 0),
  (yX5_fault, cX5_fault, 1, (some .int), 5, false, 0),
  (yX5_want, cX5_want, 3, (some .int), 5, false, 2),
  (yX5_set, cX5_set, 4, (some .int), 5, false, 3),
  (yX5_after, cX5_after, 4, (some .int), 5, false, 3)]
def am_mt_4 : List am_MI := [(yX5_read, cX5_read, 5, (some .int), 5, false, 1),
  (yX5_forgive, cX5_forgive, 3, (some .int), 5, false, 2),
  (yX5_undo, cX5_undo, 1, (some .int), 5, false, 0),
  (yX5_held, cX5_held, 2, (some .int), 5, false, 1),
  (yX5_waiting, cX5_waiting, 2, (some .int), 5, false, 1),
  (yX5_trust, cX5_trust, 3, (some .int), 5, false, 2),
  (yX5_means, cX5_means, 3, (some .int), 5, false, 2),
  (yX5_made, cX5_made, 3, (some .int), 5, false, 2),
  (yX5_without, cX5_without, 4, (some .int), 5, false, 3),
  (yX5_gain, cX5_gain, 2, (some .int), 5, false, 1),
  (yX5_best, cX5_best, 5, (some .int), 5, false, 0),
  (yX5_room, cX5_room, 6, (some .int), 5, false, 4),
  (yX5_price, cX5_price, 2, (some .int), 5, false, 1),
  (yX5_hoarder, cX5_hoarder, 6, (some .int), 5, false, 0),
  (yX5_rings, cX5_rings, 1, (some .int), 5, false, 0)]
def am_mt_5 : List am_MI := [(yX5_freed, cX5_freed, 3, (some .int), 5, false, 1),
  (yX5_depth, cX5_depth, 2, (some .int), 5, false, 1),
  (yX5_seen, cX5_seen, 4, (some .int), 5, false, 3),
  (yX5_forget, cX5_forget, 1, (some .int), 5, false, 0),
  (yX5_fits, cX5_fits, 7, (some .int), 5, false, 1),
  (yX5_unlike, cX5_unlike, 4, (some .int), 5, false, 2),
  (yX5_owed, cX5_owed, 4, (some .int), 5, false, 3),
  (yX5_cleared, cX5_cleared, 6, (some .int), 5, false, 1),
  (yX5_sheet, cX5_sheet, 5, (some .int), 5, false, 3),
  (yX5_lose, cX5_lose, 3, (some .int), 5, false, 1),
  (yX5_put, cX5_put, 7, (some .int), 5, false, 4),
  (yX5_get, cX5_get, 6, (some .int), 5, false, 3),
  (yX5_copy, cX5_copy, 8, (some .int), 5, false, 5),
  (yX5_write, cX5_write, 7, (some .int), 5, false, 2),
  (yX5_count, cX5_count, 2, (some .int), 5, false, 1)]
def am_mt_6 : List am_MI := [(yX5_digest, cX5_digest, 5, (some .long), 5, false, 0),
  (yX5_mixed, cX5_mixed, 3, (some .long), 5, true, 2),
  (yX5_behind, cX5_behind, 2, (some (.object "PromisesKept$Course")), 5, false, 1),
  (yX5_cheapestToForgive, cX5_cheapestToForgive, 10, (some .int), 5, false, 3),
  (yX5_fitsAllSights, cX5_fitsAllSights, 5, (some .boolean), 5, false, 2),
  (yX5_found, cX5_found, 2, (some .int), 5, false, 1),
  (yX5_sheetAt, cX5_sheetAt, 2, (some (.object "PromisesKept$Sheet")), 5, false, 1),
  (yX5_isWant, cX5_isWant, 2, (some .boolean), 5, false, 1),
  (yX5_isNumber, cX5_isNumber, 1, (some .boolean), 5, true, 1),
  (yX5_isPerson, cX5_isPerson, 1, (some .boolean), 5, true, 1),
  (yX5_isDay, cX5_isDay, 1, (some .boolean), 5, true, 1),
  (yX5_isLaw, cX5_isLaw, 1, (some .boolean), 5, true, 1),
  (yX5_isForm, cX5_isForm, 1, (some .boolean), 5, true, 1),
  (yX5_within, cX5_within, 3, (some .boolean), 5, true, 3),
  (yX5_hasBit, cX5_hasBit, 2, (some .boolean), 5, true, 2)]
def am_mt_7 : List am_MI := [(yX6_in, cX6_in, 3, (some .boolean), 6, true, 3),
  (yX6_isIn, cX6_isIn, 2, (some .boolean), 6, true, 2),
  (yX6_ones, cX6_ones, 3, (some .int), 6, true, 1),
  (yX6_type, cX6_type, 2, (some .int), 6, false, 1),
  (yX6_wipe, cX6_wipe, 2, (some .int), 6, false, 0),
  (yX6_figureAt, cX6_figureAt, 3, (some .int), 6, false, 1),
  (yX6_readsOne, cX6_readsOne, 8, (some .int), 6, false, 2),
  (yX6_faultNow, cX6_faultNow, 4, (some .int), 6, false, 0),
  (yX6_fault, cX6_fault, 1, (some .int), 6, false, 0),
  (yX6_reads, cX6_reads, 2, none, 6, false, 0),
  (yX6_isWant, cX6_isWant, 2, (some .boolean), 6, false, 1),
  (yX6_isTen, cX6_isTen, 1, (some .boolean), 6, true, 1),
  (yX6_isDay, cX6_isDay, 1, (some .boolean), 6, true, 1),
  (yX6_isPerson, cX6_isPerson, 1, (some .boolean), 6, true, 1),
  (yX6_want, cX6_want, 3, (some .int), 6, false, 2)]
def am_mt_8 : List am_MI := [(yX6_set, cX6_set, 6, (some .int), 6, false, 3),
  (yX6_after, cX6_after, 5, (some .int), 6, false, 3),
  (yX6_read, cX6_read, 3, (some .int), 6, false, 1),
  (yX6_forgive, cX6_forgive, 3, (some .int), 6, false, 2),
  (yX6_undo, cX6_undo, 1, (some .int), 6, false, 0),
  (yX6_heldNow, cX6_heldNow, 3, (some .int), 6, false, 0),
  (yX6_waitingAt, cX6_waitingAt, 4, (some .int), 6, false, 1),
  (yX6_ends, cX6_ends, 4, none, 6, false, 3),
  (yX6_comesDue, cX6_comesDue, 6, none, 6, false, 2),
  (yX6_isAhead, cX6_isAhead, 6, (some .boolean), 6, false, 3),
  (yX6_makes, cX6_makes, 7, none, 6, false, 3),
  (yX6_runs, cX6_runs, 8, none, 6, false, 4),
  (yX6_runsTo, cX6_runsTo, 2, none, 6, false, 1),
  (yX6_heldOf, cX6_heldOf, 2, (some .int), 6, false, 1),
  (yX6_held, cX6_held, 2, (some .int), 6, false, 1)]
def am_mt_9 : List am_MI := [(yX6_waitingOf, cX6_waitingOf, 2, (some .int), 6, false, 1),
  (yX6_waiting, cX6_waiting, 2, (some .int), 6, false, 1),
  (yX6_trustOf, cX6_trustOf, 3, (some .int), 6, false, 2),
  (yX6_trust, cX6_trust, 3, (some .int), 6, false, 2),
  (yX6_meansOf, cX6_meansOf, 3, (some .int), 6, false, 2),
  (yX6_means, cX6_means, 3, (some .int), 6, false, 2),
  (yX6_tellsOf, cX6_tellsOf, 3, (some .int), 6, false, 2),
  (yX6_madeOf, cX6_madeOf, 3, (some .int), 6, false, 2),
  (yX6_made, cX6_made, 3, (some .int), 6, false, 2),
  (yX6_withoutOf, cX6_withoutOf, 4, (some .int), 6, false, 3),
  (yX6_without, cX6_without, 4, (some .int), 6, false, 3),
  (yX6_gainOf, cX6_gainOf, 4, (some .int), 6, false, 1),
  (yX6_gain, cX6_gain, 2, (some .int), 6, false, 1),
  (yX6_bestNow, cX6_bestNow, 5, (some .int), 6, false, 0),
  (yX6_best, cX6_best, 1, (some .int), 6, false, 0)]
def am_mt_10 : List am_MI := [(yX6_lossOf, cX6_lossOf, 6, (some .int), 6, false, 2),
  (yX6_roomOf, cX6_roomOf, 11, (some .int), 6, false, 4),
  (yX6_room, cX6_room, 5, (some .int), 6, false, 4),
  (yX6_priceOf, cX6_priceOf, 5, (some .int), 6, false, 1),
  (yX6_price, cX6_price, 2, (some .int), 6, false, 1),
  (yX6_hoarderNow, cX6_hoarderNow, 6, (some .int), 6, false, 0),
  (yX6_hoarder, cX6_hoarder, 1, (some .int), 6, false, 0),
  (yX6_comesTo, cX6_comesTo, 7, (some .int), 6, false, 2),
  (yX6_ringsBut, cX6_ringsBut, 4, (some .int), 6, false, 1),
  (yX6_ringsNow, cX6_ringsNow, 1, (some .int), 6, false, 0),
  (yX6_rings, cX6_rings, 1, (some .int), 6, false, 0),
  (yX6_freedOf, cX6_freedOf, 5, (some .int), 6, false, 1),
  (yX6_freed, cX6_freed, 2, (some .int), 6, false, 1),
  (yX6_depthOf, cX6_depthOf, 7, (some .int), 6, false, 1),
  (yX6_depth, cX6_depth, 2, (some .int), 6, false, 1)]
def am_mt_11 : List am_MI := [(yX6_seen, cX6_seen, 4, (some .int), 6, false, 3),
  (yX6_forget, cX6_forget, 2, (some .int), 6, false, 0),
  (yX6_doesFit, cX6_doesFit, 5, (some .boolean), 6, false, 2),
  (yX6_fitsOf, cX6_fitsOf, 5, (some .int), 6, false, 1),
  (yX6_fits, cX6_fits, 2, (some .int), 6, false, 1),
  (yX6_unlikeOf, cX6_unlikeOf, 4, (some .int), 6, false, 2),
  (yX6_unlike, cX6_unlike, 3, (some .int), 6, false, 2),
  (yX6_owedBy, cX6_owedBy, 6, (some .int), 6, false, 2),
  (yX6_owedOf, cX6_owedOf, 4, (some .int), 6, false, 3),
  (yX6_owed, cX6_owed, 4, (some .int), 6, false, 3),
  (yX6_clearedOf, cX6_clearedOf, 6, (some .int), 6, false, 1),
  (yX6_cleared, cX6_cleared, 2, (some .int), 6, false, 1),
  (yX6_meets, cX6_meets, 2, (some .int), 6, false, 1),
  (yX6_isSheet, cX6_isSheet, 1, (some .boolean), 6, true, 1),
  (yX6_sheet, cX6_sheet, 5, (some .int), 6, false, 3)]
def am_mt_12 : List am_MI := [(yX6_lose, cX6_lose, 2, (some .int), 6, false, 1),
  (yX6_lacks, cX6_lacks, 4, (some .int), 6, false, 3),
  (yX6_keep, cX6_keep, 4, none, 6, false, 3),
  (yX6_put, cX6_put, 6, (some .int), 6, false, 4),
  (yX6_get, cX6_get, 5, (some .int), 6, false, 3),
  (yX6_copy, cX6_copy, 7, (some .int), 6, false, 5),
  (yX6_write, cX6_write, 4, (some .int), 6, false, 2),
  (yX6_sumOf, cX6_sumOf, 5, (some .int), 6, false, 1),
  (yX6_count, cX6_count, 2, (some .int), 6, false, 1),
  (yX6_dayDigest, cX6_dayDigest, 6, (some .long), 6, false, 2),
  (yX6_digest, cX6_digest, 5, (some .long), 6, false, 0),
  (yJ6_bitCount_0f7a4, cJ6_bitCount_0f7a4, 1, (some .int), 7, true, 1)]
def am_pl_0 : List (Nat × Nat × Nat × Nat) := [(352, 350, 351, 68), (363, 361, 362, 68), (375, 373, 374, 68), (602, 601, 20, 68), (593, 591, 592, 68), (598, 597, 19, 68), (616, 615, 21, 68), (624, 622, 623, 68), (610, 608, 609, 68), (436, 434, 435, 70), (440, 438, 439, 70), (445, 444, 9, 70), (452, 451, 10, 70), (466, 465, 12, 70), (479, 478, 13, 70)]
def am_pl_1 : List (Nat × Nat × Nat × Nat) := [(462, 461, 11, 70), (483, 482, 14, 70), (493, 492, 15, 70), (497, 496, 16, 70), (510, 508, 509, 70), (518, 516, 517, 70), (526, 524, 525, 70), (650, 648, 649, 70), (539, 537, 538, 70), (739, 737, 738, 70), (735, 733, 734, 70), (584, 582, 583, 70), (408, 406, 407, 69), (412, 410, 411, 69), (421, 419, 420, 69)]
def am_pl_2 : List (Nat × Nat × Nat × Nat) := [(636, 634, 635, 69), (470, 468, 469, 69), (475, 473, 474, 69), (654, 652, 653, 69), (684, 682, 683, 71), (694, 692, 693, 71), (702, 700, 701, 71), (397, 395, 396, 71), (393, 391, 392, 71), (706, 704, 705, 71), (720, 718, 719, 71), (300, 298, 299, 67), (332, 330, 331, 67), (458, 456, 457, 67), (557, 555, 556, 67)]
def am_pl_3 : List (Nat × Nat × Nat × Nat) := [(575, 573, 574, 67), (562, 560, 561, 67), (666, 664, 665, 67), (566, 565, 18, 67), (304, 303, 0, 67), (308, 307, 1, 67), (312, 311, 2, 67), (321, 320, 4, 67), (316, 315, 3, 67), (293, 291, 292, 66), (328, 326, 327, 66), (336, 334, 335, 66), (340, 338, 339, 66), (348, 346, 347, 66), (368, 366, 367, 66)]
def am_pl_4 : List (Nat × Nat × Nat × Nat) := [(380, 378, 379, 66), (401, 399, 400, 66), (417, 415, 416, 66), (428, 426, 427, 66), (501, 499, 500, 66), (505, 503, 504, 66), (514, 512, 513, 66), (522, 520, 521, 66), (530, 528, 529, 66), (534, 532, 533, 66), (543, 541, 542, 66), (548, 546, 547, 66), (571, 569, 570, 66), (580, 578, 579, 66), (588, 586, 587, 66)]
def am_pl_5 : List (Nat × Nat × Nat × Nat) := [(606, 604, 605, 66), (620, 618, 619, 66), (628, 626, 627, 66), (632, 630, 631, 66), (640, 638, 639, 66), (658, 656, 657, 66), (662, 660, 661, 66), (670, 668, 669, 66), (677, 675, 676, 66), (690, 688, 689, 66), (698, 696, 697, 66), (710, 708, 709, 66), (715, 713, 714, 66), (727, 725, 726, 66), (731, 729, 730, 66)]
def am_pl_6 : List (Nat × Nat × Nat × Nat) := [(743, 741, 742, 66), (748, 747, 0, 66), (432, 431, 8, 66), (552, 551, 17, 66), (644, 643, 22, 66), (388, 387, 7, 66), (384, 383, 6, 66), (344, 343, 5, 66), (371, 370, 0, 66), (359, 358, 0, 66), (404, 403, 0, 66), (356, 355, 0, 66), (680, 679, 0, 66), (296, 295, 0, 66), (448, 447, 0, 66)]
def am_pl_7 : List (Nat × Nat × Nat × Nat) := [(877, 876, 0, 72), (965, 964, 0, 72), (984, 983, 0, 72), (874, 872, 873, 72), (881, 879, 880, 72), (897, 896, 25, 72), (893, 892, 24, 72), (889, 888, 23, 72), (885, 883, 884, 72), (909, 908, 27, 72), (905, 904, 26, 72), (920, 919, 0, 72), (938, 937, 0, 72), (1003, 1002, 0, 72), (901, 899, 900, 72)]
def am_pl_8 : List (Nat × Nat × Nat × Nat) := [(913, 911, 912, 72), (917, 915, 916, 72), (924, 922, 923, 72), (935, 933, 934, 72), (942, 940, 941, 72), (981, 980, 36, 72), (977, 976, 35, 72), (969, 968, 33, 72), (962, 961, 32, 72), (988, 987, 37, 72), (973, 972, 34, 72), (958, 957, 31, 72), (954, 953, 30, 72), (950, 949, 29, 72), (946, 944, 945, 72)]
def am_pl_9 : List (Nat × Nat × Nat × Nat) := [(996, 995, 38, 72), (992, 990, 991, 72), (1007, 1006, 39, 72), (1000, 998, 999, 72), (1015, 1014, 40, 72), (1011, 1009, 1010, 72), (1027, 1026, 42, 72), (1023, 1022, 41, 72), (1019, 1017, 1018, 72), (1035, 1034, 43, 72), (1031, 1029, 1030, 72), (1043, 1042, 44, 72), (1039, 1037, 1038, 72), (1051, 1050, 45, 72), (1047, 1045, 1046, 72)]
def am_pl_10 : List (Nat × Nat × Nat × Nat) := [(1063, 1062, 47, 72), (1059, 1058, 46, 72), (1055, 1053, 1054, 72), (1071, 1070, 48, 72), (1067, 1065, 1066, 72), (1079, 1078, 49, 72), (1075, 1073, 1074, 72), (1095, 1094, 52, 72), (1091, 1090, 51, 72), (1087, 1086, 50, 72), (1083, 1081, 1082, 72), (1103, 1102, 53, 72), (1099, 1097, 1098, 72), (1111, 1110, 54, 72), (1107, 1105, 1106, 72)]
def am_pl_11 : List (Nat × Nat × Nat × Nat) := [(1115, 1113, 1114, 72), (1119, 1117, 1118, 72), (1131, 1130, 56, 72), (1127, 1126, 55, 72), (1123, 1121, 1122, 72), (1139, 1138, 57, 72), (1135, 1133, 1134, 72), (1151, 1150, 59, 72), (1147, 1146, 58, 72), (1143, 1141, 1142, 72), (1159, 1158, 60, 72), (1155, 1153, 1154, 72), (931, 930, 28, 72), (927, 926, 0, 72), (1163, 1161, 1162, 72)]
def am_pl_12 : List (Nat × Nat × Nat × Nat) := [(1167, 1165, 1166, 72), (1175, 1174, 61, 72), (1179, 1178, 62, 72), (1171, 1169, 1170, 72), (1183, 1181, 1182, 72), (1188, 1186, 1187, 72), (1192, 1190, 1191, 72), (1200, 1199, 63, 72), (1196, 1194, 1195, 72), (1211, 1210, 64, 72), (1204, 1202, 1203, 72), (486, 485, 0, 74)]
def am_mts : List am_MI := am_mt_0 ++ (am_mt_1 ++ (am_mt_2 ++ (am_mt_3 ++ (am_mt_4 ++ (am_mt_5 ++ (am_mt_6 ++ (am_mt_7 ++ (am_mt_8 ++ (am_mt_9 ++ (am_mt_10 ++ (am_mt_11 ++ (am_mt_12))))))))))))
def am_pls : List (Nat × Nat × Nat × Nat) := am_pl_0 ++ (am_pl_1 ++ (am_pl_2 ++ (am_pl_3 ++ (am_pl_4 ++ (am_pl_5 ++ (am_pl_6 ++ (am_pl_7 ++ (am_pl_8 ++ (am_pl_9 ++ (am_pl_10 ++ (am_pl_11 ++ (am_pl_12))))))))))))
abbrev am_FL : Type := Nat × Nat × Nat × Nat × Nat × Nat
def am_fls : List am_FL := [(4, 9, 4, 0, 90, 0), (4, 15, 4, 1, 91, 0), (1, 103, 4, 1, 92, 1), (5, 81, 4, 1, 93, 1), (4, 18, 4, 2, 94, 0), (5, 85, 4, 2, 95, 1), (4, 21, 4, 3, 96, 0), (5, 88, 4, 3, 97, 1), (1, 139, 4, 3, 98, 1), (4, 24, 4, 4, 99, 0), (1, 92, 4, 4, 100, 1), (5, 91, 4, 4, 101, 1), (4, 27, 4, 5, 102, 0), (5, 94, 4, 5, 103, 1), (1, 116, 4, 5, 104, 1), (4, 30, 4, 6, 105, 0), (5, 64, 4, 6, 106, 1), (4, 34, 4, 7, 107, 0), (1, 83, 4, 7, 108, 1), (5, 263, 4, 7, 109, 1), (4, 37, 4, 8, 110, 0), (5, 74, 4, 8, 111, 1), (2, 9, 2, 0, 144, 0), (2, 15, 2, 1, 145, 0), (2, 18, 2, 2, 146, 0), (2, 21, 2, 3, 147, 0), (1, 127, 2, 3, 148, 1), (5, 146, 2, 3, 149, 1), (0, 9, 0, 0, 159, 0), (5, 176, 0, 0, 160, 1), (0, 15, 0, 1, 161, 0), (5, 173, 0, 1, 162, 1), (0, 18, 0, 2, 163, 0), (1, 62, 0, 2, 164, 1), (0, 22, 0, 3, 165, 0), (1, 57, 0, 3, 166, 1), (0, 25, 0, 4, 167, 0), (1, 109, 0, 4, 168, 1), (0, 31, 0, 5, 169, 0), (1, 123, 0, 5, 170, 1), (5, 136, 0, 5, 171, 1), (1, 49, 1, 0, 193, 0), (1, 53, 1, 1, 194, 0), (1, 9, 1, 2, 195, 0), (1, 15, 1, 3, 196, 0), (1, 18, 1, 4, 197, 0), (1, 21, 1, 5, 198, 0), (1, 24, 1, 6, 199, 0), (1, 27, 1, 7, 200, 0), (1, 31, 1, 8, 201, 0), (1, 34, 1, 9, 202, 0), (1, 37, 1, 10, 203, 0), (5, 341, 1, 10, 204, 1), (1, 40, 1, 11, 205, 0), (5, 155, 1, 11, 206, 1), (1, 43, 1, 12, 207, 0), (5, 158, 1, 12, 208, 1), (1, 46, 1, 13, 209, 0), (3, 9, 3, 0, 246, 0), (3, 15, 3, 1, 247, 0), (5, 114, 3, 1, 248, 1), (3, 19, 3, 2, 249, 0), (5, 253, 3, 2, 250, 1), (3, 23, 3, 3, 251, 0), (5, 121, 3, 3, 252, 1), (5, 12, 5, 0, 262, 0), (5, 19, 5, 1, 263, 0), (5, 26, 5, 2, 264, 0), (5, 35, 5, 3, 265, 0), (5, 39, 5, 4, 266, 0), (5, 42, 5, 5, 267, 0), (5, 47, 5, 6, 268, 0), (5, 51, 5, 7, 269, 0), (5, 55, 5, 8, 270, 0), (6, 7, 6, 0, 776, 0), (6, 91, 6, 1, 777, 0), (6, 98, 6, 2, 778, 0), (6, 13, 6, 3, 779, 0), (6, 83, 6, 4, 780, 0), (6, 116, 6, 5, 781, 0), (6, 16, 6, 6, 782, 0), (6, 19, 6, 7, 783, 0), (6, 22, 6, 8, 784, 0), (6, 131, 6, 9, 785, 0), (6, 25, 6, 10, 786, 0), (6, 28, 6, 11, 787, 0), (6, 31, 6, 12, 788, 0), (6, 34, 6, 13, 789, 0), (6, 37, 6, 14, 790, 0), (6, 40, 6, 15, 791, 0), (6, 43, 6, 16, 792, 0), (6, 46, 6, 17, 793, 0), (6, 49, 6, 18, 794, 0), (6, 52, 6, 19, 795, 0), (6, 228, 6, 20, 796, 0), (6, 55, 6, 21, 797, 0), (6, 58, 6, 22, 798, 0), (6, 61, 6, 23, 799, 0), (6, 64, 6, 24, 800, 0), (6, 67, 6, 25, 801, 0), (6, 71, 6, 26, 802, 0), (6, 74, 6, 27, 803, 0), (6, 77, 6, 28, 804, 0), (6, 80, 6, 29, 805, 0), (6, 249, 6, 30, 806, 0)]
abbrev am_ML : Type := Nat × Nat × Nat × Nat × Nat
def am_vls : List am_ML := [(8, 13, 54, 290, 0), (5, 67, 41, 297, 0), (4, 40, 49, 301, 0), (4, 61, 50, 305, 0), (4, 74, 51, 309, 0), (4, 68, 53, 313, 0), (4, 71, 52, 318, 0), (8, 18, 55, 325, 0), (5, 71, 42, 329, 0), (8, 23, 56, 333, 0), (8, 27, 57, 337, 0), (5, 77, 97, 341, 0), (8, 32, 58, 345, 0), (5, 97, 0, 349, 0), (5, 100, 1, 360, 0), (0, 46, 0, 364, 0), (8, 37, 59, 365, 0), (5, 107, 2, 372, 0), (8, 41, 60, 377, 0), (5, 110, 96, 381, 0), (5, 117, 95, 385, 0), (5, 130, 38, 390, 0), (3, 35, 37, 394, 0), (8, 45, 61, 398, 0), (5, 139, 27, 405, 0), (5, 143, 28, 409, 0), (2, 25, 27, 413, 0), (8, 49, 62, 414, 0), (5, 147, 29, 418, 0), (8, 53, 63, 425, 0), (5, 151, 92, 429, 0), (5, 179, 9, 433, 0), (5, 183, 10, 437, 0), (1, 71, 11, 442, 0), (1, 95, 12, 449, 0), (1, 112, 43, 455, 0), (1, 119, 15, 459, 0), (1, 74, 13, 463, 0), (1, 132, 31, 467, 0), (1, 136, 32, 472, 0), (1, 77, 14, 476, 0), (1, 80, 16, 480, 0), (1, 147, 17, 490, 0), (1, 150, 18, 494, 0), (8, 57, 64, 498, 0), (8, 61, 65, 502, 0), (5, 164, 19, 507, 0), (8, 65, 66, 511, 0), (5, 167, 20, 515, 0), (8, 69, 67, 519, 0), (5, 170, 21, 523, 0), (8, 73, 68, 527, 0), (8, 77, 69, 531, 0), (5, 189, 23, 536, 0), (8, 81, 70, 540, 0), (5, 192, 69, 544, 0), (8, 85, 71, 545, 0), (5, 195, 93, 549, 0), (5, 198, 44, 554, 0), (5, 344, 46, 559, 0), (4, 53, 48, 563, 0), (4, 57, 44, 567, 0), (8, 90, 72, 568, 0), (5, 201, 45, 572, 0), (8, 94, 73, 577, 0), (5, 204, 26, 581, 0), (8, 98, 74, 585, 0), (5, 207, 43, 589, 0), (5, 210, 4, 590, 0), (0, 56, 5, 595, 0), (0, 59, 3, 599, 0), (8, 102, 75, 603, 0), (5, 213, 8, 607, 0), (0, 66, 4, 611, 0), (0, 63, 6, 613, 0), (8, 106, 76, 617, 0), (5, 221, 7, 621, 0), (8, 110, 77, 625, 0), (8, 114, 78, 629, 0), (5, 224, 30, 633, 0), (8, 118, 79, 637, 0), (5, 226, 94, 641, 0), (5, 347, 31, 645, 0), (5, 350, 32, 646, 0), (5, 353, 22, 647, 0), (5, 356, 33, 651, 0), (8, 122, 80, 655, 0), (8, 126, 81, 659, 0), (5, 230, 47, 663, 0), (8, 130, 82, 667, 0), (8, 134, 83, 674, 0), (5, 239, 34, 681, 0), (8, 138, 84, 687, 0), (5, 243, 35, 691, 0), (8, 142, 85, 695, 0), (5, 246, 36, 699, 0), (5, 249, 39, 703, 0), (8, 146, 86, 707, 0), (8, 150, 87, 712, 0), (5, 256, 37, 716, 0), (5, 259, 40, 717, 0), (8, 155, 88, 724, 0), (8, 159, 89, 728, 0), (5, 266, 25, 732, 0), (5, 269, 24, 736, 0), (8, 163, 90, 740, 0), (5, 274, 89, 745, 0), (5, 281, 56, 750, 0), (5, 284, 57, 751, 0), (5, 287, 67, 752, 0), (5, 290, 76, 753, 0), (5, 296, 63, 756, 0), (5, 299, 64, 757, 0), (5, 302, 72, 758, 0), (5, 305, 82, 759, 0), (5, 308, 71, 760, 0), (5, 312, 65, 761, 0), (5, 315, 66, 762, 0), (5, 318, 81, 763, 0), (5, 321, 70, 764, 0), (5, 324, 73, 765, 0), (5, 327, 74, 766, 0), (5, 330, 75, 767, 0), (5, 333, 79, 768, 0), (5, 336, 80, 769, 0), (8, 17, 108, 871, 0), (8, 22, 109, 878, 0), (8, 26, 113, 882, 0), (6, 105, 112, 886, 0), (6, 101, 111, 890, 0), (6, 94, 110, 894, 0), (8, 31, 119, 898, 0), (6, 112, 115, 902, 0), (6, 109, 114, 906, 0), (8, 36, 120, 910, 0), (8, 40, 121, 914, 0), (8, 44, 122, 921, 0), (6, 125, 177, 928, 0), (8, 48, 123, 932, 0), (8, 52, 124, 939, 0), (8, 56, 134, 943, 0), (6, 169, 133, 947, 0), (6, 165, 132, 951, 0), (6, 161, 131, 955, 0), (6, 154, 128, 959, 0), (6, 138, 127, 966, 0), (6, 158, 130, 970, 0), (6, 142, 126, 974, 0), (6, 145, 125, 978, 0), (6, 151, 129, 985, 0), (8, 60, 136, 989, 0), (6, 172, 135, 993, 0), (8, 64, 138, 997, 0), (6, 178, 137, 1004, 0), (8, 68, 140, 1008, 0), (6, 181, 139, 1012, 0), (8, 72, 143, 1016, 0), (6, 187, 142, 1020, 0), (6, 184, 141, 1024, 0), (8, 76, 145, 1028, 0), (6, 190, 144, 1032, 0), (8, 80, 147, 1036, 0), (6, 194, 146, 1040, 0), (8, 84, 149, 1044, 0), (6, 197, 148, 1048, 0), (8, 89, 152, 1052, 0), (6, 203, 151, 1056, 0), (6, 200, 150, 1060, 0), (8, 93, 154, 1064, 0), (6, 207, 153, 1068, 0), (8, 97, 156, 1072, 0), (6, 210, 155, 1076, 0), (8, 101, 160, 1080, 0), (6, 219, 159, 1084, 0), (6, 216, 158, 1088, 0), (6, 213, 157, 1092, 0), (8, 105, 162, 1096, 0), (6, 222, 161, 1100, 0), (8, 109, 164, 1104, 0), (6, 225, 163, 1108, 0), (8, 113, 165, 1112, 0), (8, 117, 166, 1116, 0), (8, 121, 169, 1120, 0), (6, 234, 168, 1124, 0), (6, 231, 167, 1128, 0), (8, 125, 171, 1132, 0), (6, 237, 170, 1136, 0), (8, 129, 174, 1140, 0), (6, 243, 173, 1144, 0), (6, 240, 172, 1148, 0), (8, 133, 176, 1152, 0), (6, 246, 175, 1156, 0), (8, 137, 179, 1160, 0), (8, 141, 180, 1164, 0), (8, 145, 183, 1168, 0), (6, 252, 181, 1172, 0), (6, 255, 182, 1176, 0), (8, 149, 184, 1180, 0), (8, 154, 185, 1185, 0), (8, 158, 186, 1189, 0), (8, 162, 188, 1193, 0), (6, 259, 187, 1197, 0), (8, 167, 190, 1201, 0), (6, 266, 188, 1207, 0), (6, 269, 189, 1208, 0), (6, 273, 174, 1212, 0)]
def am_sls : List am_ML := [(5, 60, 103, 294, 0), (4, 78, 103, 317, 1), (0, 35, 103, 353, 1), (0, 39, 101, 354, 1), (0, 43, 99, 357, 1), (5, 104, 98, 369, 0), (0, 49, 98, 376, 1), (5, 133, 100, 402, 0), (1, 88, 104, 446, 1), (1, 99, 98, 453, 1), (1, 106, 99, 454, 1), (2, 35, 103, 471, 1), (1, 142, 191, 484, 0), (5, 161, 99, 506, 0), (5, 186, 101, 535, 0), (5, 216, 191, 553, 0), (4, 43, 104, 558, 1), (0, 52, 104, 594, 1), (0, 70, 191, 612, 0), (5, 236, 102, 678, 0), (5, 277, 91, 746, 0), (6, 87, 105, 875, 0), (6, 119, 116, 918, 0), (6, 122, 178, 925, 0), (6, 128, 117, 936, 0), (6, 134, 106, 963, 0), (6, 148, 107, 982, 0), (6, 175, 118, 1001, 0)]
def am_cls : List (Nat × Nat × Nat × Nat) := [(7, 265, 1431655765, 487), (7, 266, 858993459, 488), (7, 267, 252645135, 489), (5, 252, 2147483648, 711), (6, 258, 2147483648, 1184)]
def am_lls : List (Nat × Nat × Nat × Nat) := [(5, 272, 17, 744), (5, 339, 31, 749), (6, 264, 17, 1205), (6, 262, 31, 1206)]
def am_kt : List (List (Nat × Nat)) := [[(0, 0), (0, 0), (2, 6), (2, 6), (2, 10), (4, 4)], [(4, 1), (4, 2), (2, 6), (2, 6), (2, 10), (2, 10), (2, 10), (0, 0), (0, 0), (0, 0), (0, 0), (0, 0), (0, 0), (0, 0)], [(2, 8), (2, 8), (2, 8), (0, 0)], [(2, 48), (1, 0), (0, 0), (0, 0)], [(2, 80), (2, 10), (2, 10), (2, 10), (2, 10), (2, 10), (0, 0), (0, 0), (0, 0)], [(4, 1), (4, 2), (4, 3), (4, 5), (4, 6), (4, 7), (5, 4), (1, 0), (0, 0)], [(2, 80), (0, 0), (0, 0), (2, 55), (0, 0), (0, 0), (2, 6), (2, 6), (2, 10), (0, 0), (2, 8), (2, 8), (2, 10), (2, 10), (2, 10), (2, 6), (2, 6), (2, 100), (2, 6), (2, 10), (0, 0), (2, 8), (2, 8), (2, 8), (2, 100), (3, 4), (2, 4), (2, 4), (2, 192), (2, 48), (0, 0)]]
def am_clo : List Nat := [5, 4, 0, 2, 2, 1, 1, 1, 3, 3, 3, 3, 6]
def am_lay : List (List Nat) := [[172, 174, 176, 178, 180, 182], [210, 212, 214, 216, 218, 220, 222, 224, 226, 228, 230, 232, 234, 236], [150, 152, 154, 156], [253, 255, 257, 259], [112, 114, 116, 118, 120, 122, 124, 126, 128], [271, 273, 275, 277, 279, 281, 283, 285, 287], [807, 809, 811, 813, 815, 817, 819, 821, 823, 825, 827, 829, 831, 833, 835, 837, 839, 841, 843, 845, 847, 849, 851, 853, 855, 857, 859, 861, 863, 865, 867]]
def am_tys : List (Nat → FieldType) := [tyX0, tyX1, tyX2, tyX3, tyX4, tyX5, tyX6]
def am_gix : Nat := 293
def am_gpos : Nat := 754
def am_own_law : Nat := 8
def am_nls : List am_ML := [(4, 65, 998, 2, 322), (5, 124, 998, 2, 389), (2, 29, 997, 2, 422), (1, 65, 998, 2, 441), (4, 47, 997, 2, 576), (5, 233, 996, 1, 671), (3, 26, 998, 2, 685), (3, 32, 997, 2, 686), (3, 39, 999, 5, 721)]
def am_npl : List (Nat × Nat × Nat) := [(672, 673, 73), (423, 424, 73), (323, 324, 73), (722, 723, 75)]
