theorem mem_r {big : List Cond} (ws : List Cond) (ps : List Nat) (hp : ws = ps.filterMap (fun i => big[i]?)) : ∀ w ∈ ws, w ∈ big := by
  intro w hw
  rw [hp] at hw
  obtain ⟨i, -, hi⟩ := List.mem_filterMap.mp hw
  exact List.mem_of_getElem? hi
/-- the words of the tables that hold wherever the machine comes to: one list for all methods -/
def wA : List Cond := lw_tbl.filter goodWord
theorem wA_tbl {w : Cond} (h : w ∈ wA) : w ∈ lw_tbl := (List.mem_filter.mp h).1
theorem wA_good {w : Cond} (h : w ∈ wA) : (w.onTables && w.keeps) = true ∨ ∃ ty, w = .arrayClass ty := good_of_word (List.mem_filter.mp h).2
theorem wA_of {w : Cond} (h : w ∈ lw_tbl) (g : goodWord w = true) : w ∈ wA := List.mem_filter.mpr ⟨h, g⟩
theorem wA_p {w : Cond} (h : w ∈ k2_sels lw_privs) (g : goodWord w = true) : w ∈ wA := wA_of (List.mem_append_left _ h) g
theorem wA_t {w : Cond} (h : w ∈ tables_1) (g : goodWord w = true) : w ∈ wA := wA_of (List.mem_append_right _ h) g
theorem wA_t1 {w : Cond} (h : w ∈ tables_1_1) (g : goodWord w = true) : w ∈ wA := wA_t (List.mem_append_left _ h) g
theorem wA_t2 {w : Cond} (h : w ∈ tables_1_2) (g : goodWord w = true) : w ∈ wA := wA_t (List.mem_append_right _ (List.mem_append_left _ h)) g
theorem wA_t3 {w : Cond} (h : w ∈ tables_1_3) (g : goodWord w = true) : w ∈ wA := wA_t (List.mem_append_right _ (List.mem_append_right _ (List.mem_append_left _ h))) g
theorem wA_t4 {w : Cond} (h : w ∈ tables_1_4) (g : goodWord w = true) : w ∈ wA := wA_t (List.mem_append_right _ (List.mem_append_right _ (List.mem_append_right _ (List.mem_append_left _ h)))) g
theorem wA_t5 {w : Cond} (h : w ∈ tables_1_5) (g : goodWord w = true) : w ∈ wA := wA_t (List.mem_append_right _ (List.mem_append_right _ (List.mem_append_right _ (List.mem_append_right _ (List.mem_append_left _ h))))) g
theorem wA_t6 {w : Cond} (h : w ∈ tables_1_6) (g : goodWord w = true) : w ∈ wA := wA_t (List.mem_append_right _ (List.mem_append_right _ (List.mem_append_right _ (List.mem_append_right _ (List.mem_append_right _ h))))) g

def RX0 : String := "MarkedCurves$Deeds"
def TX0 : u_T := fun k => match k with
  | 0 => ("MarkedCurves$Deeds", "desks", "[LMarkedCurves$Desk;", true)
  | 1 => ("MarkedCurves$Deeds", "now", "I", false)
  | _ => ("MarkedCurves$Deeds", "last", "I", false)
def tyX0 : Nat → FieldType := fun k => match k with
  | 0 => .array (.object "MarkedCurves$Desk")
  | 1 => .int
  | _ => .int
abbrev wsX00 : List Cond := u_ws RX0 TX0 3
theorem nmX0 : ∀ a, a < 3 → ∀ b, b < 3 → a ≠ b → (TX0 a).2.1 ≠ (TX0 b).2.1 := by decide +kernel
theorem tyX0_ok : ∀ k, k < 3 → parseFieldDescriptor (TX0 k).2.2.1 = some (tyX0 k) := by decide +kernel
abbrev cX0_init : ByteArray := prog_2_method_1_code
def yX0_init : MethodName := ⟨RX0, "<init>", "()V"⟩
abbrev cX0_undoable : ByteArray := prog_2_method_2_code
def yX0_undoable : MethodName := ⟨RX0, "undoable", "()I"⟩
abbrev cX0_repeatable : ByteArray := prog_2_method_3_code
def yX0_repeatable : MethodName := ⟨RX0, "repeatable", "()I"⟩
abbrev cX0_present : ByteArray := prog_2_method_4_code
def yX0_present : MethodName := ⟨RX0, "present", "()LMarkedCurves$Desk;"⟩
abbrev cX0_settle : ByteArray := prog_2_method_5_code
def yX0_settle : MethodName := ⟨RX0, "settle", "(LMarkedCurves$Desk;)V"⟩
abbrev cX0_stepBack : ByteArray := prog_2_method_6_code
def yX0_stepBack : MethodName := ⟨RX0, "stepBack", "(LMarkedCurves$Desk;)V"⟩
abbrev cX0_stepOn : ByteArray := prog_2_method_7_code
def yX0_stepOn : MethodName := ⟨RX0, "stepOn", "(LMarkedCurves$Desk;)V"⟩
abbrev cX0_startAnew : ByteArray := prog_2_method_8_code
def yX0_startAnew : MethodName := ⟨RX0, "startAnew", "(LMarkedCurves$Desk;)V"⟩
abbrev cX0_dropOldest : ByteArray := prog_2_method_9_code
def yX0_dropOldest : MethodName := ⟨RX0, "dropOldest", "()V"⟩
def RX1 : String := "MarkedCurves$Desk"
def TX1 : u_T := fun k => match k with
  | 0 => ("MarkedCurves$Desk", "genus", "I", false)
  | 1 => ("MarkedCurves$Desk", "size", "I", false)
  | 2 => ("MarkedCurves$Desk", "powers", "[I", true)
  | 3 => ("MarkedCurves$Desk", "limit", "I", false)
  | _ => ("MarkedCurves$Desk", "tree", "J", false)
def tyX1 : Nat → FieldType := fun k => match k with
  | 0 => .int
  | 1 => .int
  | 2 => .array .int
  | 3 => .int
  | _ => .long
abbrev wsX10 : List Cond := u_ws RX1 TX1 5
theorem nmX1 : ∀ a, a < 5 → ∀ b, b < 5 → a ≠ b → (TX1 a).2.1 ≠ (TX1 b).2.1 := by decide +kernel
theorem tyX1_ok : ∀ k, k < 5 → parseFieldDescriptor (TX1 k).2.2.1 = some (tyX1 k) := by decide +kernel
abbrev cX1_init : ByteArray := prog_3_method_1_code
def yX1_init : MethodName := ⟨RX1, "<init>", "()V"⟩
abbrev cX1_copyFrom : ByteArray := prog_3_method_2_code
def yX1_copyFrom : MethodName := ⟨RX1, "copyFrom", "(LMarkedCurves$Desk;)V"⟩
abbrev cX1_isLike : ByteArray := prog_3_method_3_code
def yX1_isLike : MethodName := ⟨RX1, "isLike", "(LMarkedCurves$Desk;)Z"⟩
abbrev cX1_unlikePowers : ByteArray := prog_3_method_4_code
def yX1_unlikePowers : MethodName := ⟨RX1, "unlikePowers", "(LMarkedCurves$Desk;)I"⟩
abbrev cX1_hasMark : ByteArray := prog_3_method_5_code
def yX1_hasMark : MethodName := ⟨RX1, "hasMark", "(I)Z"⟩
abbrev cX1_powerAt : ByteArray := prog_3_method_6_code
def yX1_powerAt : MethodName := ⟨RX1, "powerAt", "(I)I"⟩
abbrev cX1_setPower : ByteArray := prog_3_method_7_code
def yX1_setPower : MethodName := ⟨RX1, "setPower", "(II)V"⟩
abbrev cX1_addMark : ByteArray := prog_3_method_8_code
def yX1_addMark : MethodName := ⟨RX1, "addMark", "(I)V"⟩
abbrev cX1_dropMark : ByteArray := prog_3_method_9_code
def yX1_dropMark : MethodName := ⟨RX1, "dropMark", "(I)V"⟩
abbrev cX1_sortRising : ByteArray := prog_3_method_10_code
def yX1_sortRising : MethodName := ⟨RX1, "sortRising", "()V"⟩
abbrev cX1_turnAbout : ByteArray := prog_3_method_11_code
def yX1_turnAbout : MethodName := ⟨RX1, "turnAbout", "()V"⟩
abbrev cX1_putFirstLast : ByteArray := prog_3_method_12_code
def yX1_putFirstLast : MethodName := ⟨RX1, "putFirstLast", "()V"⟩
abbrev cX1_swap : ByteArray := prog_3_method_13_code
def yX1_swap : MethodName := ⟨RX1, "swap", "(II)V"⟩
def RX2 : String := "MarkedCurves$Holder"
def TX2 : u_T := fun k => match k with
  | 0 => ("MarkedCurves$Holder", "sort", "I", false)
  | 1 => ("MarkedCurves$Holder", "tree", "J", false)
  | 2 => ("MarkedCurves$Holder", "limit", "I", false)
  | 3 => ("MarkedCurves$Holder", "ints", "[I", true)
  | 4 => ("MarkedCurves$Holder", "above", "J", false)
  | _ => ("MarkedCurves$Holder", "size", "I", false)
def tyX2 : Nat → FieldType := fun k => match k with
  | 0 => .int
  | 1 => .long
  | 2 => .int
  | 3 => .array .int
  | 4 => .long
  | _ => .int
abbrev wsX20 : List Cond := u_ws RX2 TX2 6
theorem nmX2 : ∀ a, a < 6 → ∀ b, b < 6 → a ≠ b → (TX2 a).2.1 ≠ (TX2 b).2.1 := by decide +kernel
theorem tyX2_ok : ∀ k, k < 6 → parseFieldDescriptor (TX2 k).2.2.1 = some (tyX2 k) := by decide +kernel
abbrev cX2_init : ByteArray := prog_4_method_1_code
def yX2_init : MethodName := ⟨RX2, "<init>", "()V"⟩
abbrev cX2_holdNumber : ByteArray := prog_4_method_2_code
def yX2_holdNumber : MethodName := ⟨RX2, "holdNumber", "(J)V"⟩
abbrev cX2_holdTree : ByteArray := prog_4_method_3_code
def yX2_holdTree : MethodName := ⟨RX2, "holdTree", "(JI)V"⟩
abbrev cX2_holdRow : ByteArray := prog_4_method_4_code
def yX2_holdRow : MethodName := ⟨RX2, "holdRow", "(I)V"⟩
abbrev cX2_hasPlace : ByteArray := prog_4_method_5_code
def yX2_hasPlace : MethodName := ⟨RX2, "hasPlace", "(I)Z"⟩
abbrev cX2_isOfKind : ByteArray := prog_4_method_6_code
def yX2_isOfKind : MethodName := ⟨RX2, "isOfKind", "(I)Z"⟩
abbrev cX2_takenFor : ByteArray := prog_4_method_7_code
def yX2_takenFor : MethodName := ⟨RX2, "takenFor", "(I)I"⟩
abbrev cX2_firstUnlike : ByteArray := prog_4_method_8_code
def yX2_firstUnlike : MethodName := ⟨RX2, "firstUnlike", "(J)I"⟩
abbrev cX2_isFullTree : ByteArray := prog_4_method_9_code
def yX2_isFullTree : MethodName := ⟨RX2, "isFullTree", "()Z"⟩
def RX3 : String := "MarkedCurves$Numbers"
def TX3 : u_T := fun k => match k with
  | 0 => ("MarkedCurves$Numbers", "keys", "[J", true)
  | 1 => ("MarkedCurves$Numbers", "aboves", "[J", true)
  | 2 => ("MarkedCurves$Numbers", "rounds", "[I", true)
  | 3 => ("MarkedCurves$Numbers", "round", "I", false)
  | 4 => ("MarkedCurves$Numbers", "size", "I", false)
  | 5 => ("MarkedCurves$Numbers", "sum", "I", false)
  | _ => ("MarkedCurves$Numbers", "gathered", "J", false)
def tyX3 : Nat → FieldType := fun k => match k with
  | 0 => .array .long
  | 1 => .array .long
  | 2 => .array .int
  | 3 => .int
  | 4 => .int
  | 5 => .int
  | _ => .long
abbrev wsX30 : List Cond := u_ws RX3 TX3 7
theorem nmX3 : ∀ a, a < 7 → ∀ b, b < 7 → a ≠ b → (TX3 a).2.1 ≠ (TX3 b).2.1 := by decide +kernel
theorem tyX3_ok : ∀ k, k < 7 → parseFieldDescriptor (TX3 k).2.2.1 = some (tyX3 k) := by decide +kernel
abbrev cX3_init : ByteArray := prog_5_method_1_code
def yX3_init : MethodName := ⟨RX3, "<init>", "()V"⟩
abbrev cX3_lineOf : ByteArray := prog_5_method_2_code
def yX3_lineOf : MethodName := ⟨RX3, "lineOf", "(I)J"⟩
abbrev cX3_begin : ByteArray := prog_5_method_3_code
def yX3_begin : MethodName := ⟨RX3, "begin", "()V"⟩
abbrev cX3_add : ByteArray := prog_5_method_4_code
def yX3_add : MethodName := ⟨RX3, "add", "(I)V"⟩
abbrev cX3_keyFor : ByteArray := prog_5_method_5_code
def yX3_keyFor : MethodName := ⟨RX3, "keyFor", "(I)J"⟩
abbrev cX3_ruleOf : ByteArray := prog_5_method_6_code
def yX3_ruleOf : MethodName := ⟨RX3, "ruleOf", "(J)I"⟩
abbrev cX3_baseOf : ByteArray := prog_5_method_7_code
def yX3_baseOf : MethodName := ⟨RX3, "baseOf", "(J)J"⟩
abbrev cX3_timesThere : ByteArray := prog_5_method_8_code
def yX3_timesThere : MethodName := ⟨RX3, "timesThere", "(JI)I"⟩
abbrev cX3_nextKey : ByteArray := prog_5_method_9_code
def yX3_nextKey : MethodName := ⟨RX3, "nextKey", "(JII)J"⟩
abbrev cX3_weightOf : ByteArray := prog_5_method_10_code
def yX3_weightOf : MethodName := ⟨RX3, "weightOf", "(JII)J"⟩
abbrev cX3_aboveOf : ByteArray := prog_5_method_11_code
def yX3_aboveOf : MethodName := ⟨RX3, "aboveOf", "(J)J"⟩
abbrev cX3_workOut : ByteArray := prog_5_method_12_code
def yX3_workOut : MethodName := ⟨RX3, "workOut", "(JI)J"⟩
abbrev cX3_countMet : ByteArray := prog_5_method_13_code
def yX3_countMet : MethodName := ⟨RX3, "countMet", "(J)I"⟩
abbrev cX3_meet : ByteArray := prog_5_method_14_code
def yX3_meet : MethodName := ⟨RX3, "meet", "(JI)I"⟩
abbrev cX3_keep : ByteArray := prog_5_method_15_code
def yX3_keep : MethodName := ⟨RX3, "keep", "(JJ)V"⟩
abbrev cX3_slotOf : ByteArray := prog_5_method_16_code
def yX3_slotOf : MethodName := ⟨RX3, "slotOf", "(J)I"⟩
def RX4 : String := "MarkedCurves$Reader"
def TX4 : u_T := fun k => match k with
  | 0 => ("MarkedCurves$Reader", "tape", "LMarkedCurves$Tape;", true)
  | 1 => ("MarkedCurves$Reader", "told", "LMarkedCurves$Desk;", true)
  | 2 => ("MarkedCurves$Reader", "causes", "[I", true)
  | 3 => ("MarkedCurves$Reader", "refused", "Z", false)
  | 4 => ("MarkedCurves$Reader", "place", "I", false)
  | _ => ("MarkedCurves$Reader", "cannotBe", "I", false)
def tyX4 : Nat → FieldType := fun k => match k with
  | 0 => .object "MarkedCurves$Tape"
  | 1 => .object "MarkedCurves$Desk"
  | 2 => .array .int
  | 3 => .boolean
  | 4 => .int
  | _ => .int
abbrev wsX40 : List Cond := u_ws RX4 TX4 6
theorem nmX4 : ∀ a, a < 6 → ∀ b, b < 6 → a ≠ b → (TX4 a).2.1 ≠ (TX4 b).2.1 := by decide +kernel
theorem tyX4_ok : ∀ k, k < 6 → parseFieldDescriptor (TX4 k).2.2.1 = some (tyX4 k) := by decide +kernel
abbrev cX4_init : ByteArray := prog_6_method_1_code
def yX4_init : MethodName := ⟨RX4, "<init>", "()V"⟩
abbrev cX4_causeAt : ByteArray := prog_6_method_2_code
def yX4_causeAt : MethodName := ⟨RX4, "causeAt", "(II)I"⟩
abbrev cX4_readOver : ByteArray := prog_6_method_3_code
def yX4_readOver : MethodName := ⟨RX4, "readOver", "(LMarkedCurves$Desk;)I"⟩
abbrev cX4_readText : ByteArray := prog_6_method_4_code
def yX4_readText : MethodName := ⟨RX4, "readText", "()Z"⟩
abbrev cX4_readSign : ByteArray := prog_6_method_5_code
def yX4_readSign : MethodName := ⟨RX4, "readSign", "(C)Z"⟩
abbrev cX4_readGenus : ByteArray := prog_6_method_6_code
def yX4_readGenus : MethodName := ⟨RX4, "readGenus", "()Z"⟩
abbrev cX4_readMarks : ByteArray := prog_6_method_7_code
def yX4_readMarks : MethodName := ⟨RX4, "readMarks", "()Z"⟩
abbrev cX4_readPower : ByteArray := prog_6_method_8_code
def yX4_readPower : MethodName := ⟨RX4, "readPower", "()V"⟩
abbrev cX4_readLeafCount : ByteArray := prog_6_method_9_code
def yX4_readLeafCount : MethodName := ⟨RX4, "readLeafCount", "()Z"⟩
abbrev cX4_readSplits : ByteArray := prog_6_method_10_code
def yX4_readSplits : MethodName := ⟨RX4, "readSplits", "()Z"⟩
abbrev cX4_readSplit : ByteArray := prog_6_method_11_code
def yX4_readSplit : MethodName := ⟨RX4, "readSplit", "()Z"⟩
abbrev cX4_noteCannotBe : ByteArray := prog_6_method_12_code
def yX4_noteCannotBe : MethodName := ⟨RX4, "noteCannotBe", "(I)V"⟩
abbrev cX4_keepWhy : ByteArray := prog_6_method_13_code
def yX4_keepWhy : MethodName := ⟨RX4, "keepWhy", "(II)V"⟩
abbrev cX4_sortOf : ByteArray := prog_6_method_14_code
def yX4_sortOf : MethodName := ⟨RX4, "sortOf", "(I)I"⟩
abbrev cX4_signsAhead : ByteArray := prog_6_method_15_code
def yX4_signsAhead : MethodName := ⟨RX4, "signsAhead", "(II)I"⟩
def RX5 : String := "MarkedCurves$Speller"
def TX5 : u_T := fun k => match k with
  | 0 => ("MarkedCurves$Speller", "bytes", "[I", true)
  | _ => ("MarkedCurves$Speller", "size", "I", false)
def tyX5 : Nat → FieldType := fun k => match k with
  | 0 => .array .int
  | _ => .int
abbrev wsX50 : List Cond := u_ws RX5 TX5 2
theorem nmX5 : ∀ a, a < 2 → ∀ b, b < 2 → a ≠ b → (TX5 a).2.1 ≠ (TX5 b).2.1 := by decide +kernel
theorem tyX5_ok : ∀ k, k < 2 → parseFieldDescriptor (TX5 k).2.2.1 = some (tyX5 k) := by decide +kernel
abbrev cX5_init : ByteArray := prog_7_method_1_code
def yX5_init : MethodName := ⟨RX5, "<init>", "()V"⟩
abbrev cX5_byteAt : ByteArray := prog_7_method_2_code
def yX5_byteAt : MethodName := ⟨RX5, "byteAt", "(I)I"⟩
abbrev cX5_tell : ByteArray := prog_7_method_3_code
def yX5_tell : MethodName := ⟨RX5, "tell", "(LMarkedCurves$Desk;)V"⟩
abbrev cX5_addPower : ByteArray := prog_7_method_4_code
def yX5_addPower : MethodName := ⟨RX5, "addPower", "(I)V"⟩
abbrev cX5_addSplit : ByteArray := prog_7_method_5_code
def yX5_addSplit : MethodName := ⟨RX5, "addSplit", "(I)V"⟩
abbrev cX5_addFigure : ByteArray := prog_7_method_6_code
def yX5_addFigure : MethodName := ⟨RX5, "addFigure", "(I)V"⟩
abbrev cX5_addByte : ByteArray := prog_7_method_7_code
def yX5_addByte : MethodName := ⟨RX5, "addByte", "(I)V"⟩
def RX6 : String := "MarkedCurves$Splits"
def TX6 : u_T := fun k => match k with
  | _ => ("", "", "", false)
def tyX6 : Nat → FieldType := fun k => match k with
  | _ => .int
abbrev wsX60 : List Cond := u_ws RX6 TX6 0
theorem nmX6 : ∀ a, a < 0 → ∀ b, b < 0 → a ≠ b → (TX6 a).2.1 ≠ (TX6 b).2.1 := by decide +kernel
theorem tyX6_ok : ∀ k, k < 0 → parseFieldDescriptor (TX6 k).2.2.1 = some (tyX6 k) := by decide +kernel
abbrev cX6_isLeafCount : ByteArray := prog_8_method_2_code
def yX6_isLeafCount : MethodName := ⟨RX6, "isLeafCount", "(I)Z"⟩
abbrev cX6_isSplit : ByteArray := prog_8_method_3_code
def yX6_isSplit : MethodName := ⟨RX6, "isSplit", "(II)Z"⟩
abbrev cX6_has : ByteArray := prog_8_method_4_code
def yX6_has : MethodName := ⟨RX6, "has", "(JI)Z"⟩
abbrev cX6_with : ByteArray := prog_8_method_5_code
def yX6_with : MethodName := ⟨RX6, "with", "(JI)J"⟩
abbrev cX6_without : ByteArray := prog_8_method_6_code
def yX6_without : MethodName := ⟨RX6, "without", "(JI)J"⟩
abbrev cX6_sizeOf : ByteArray := prog_8_method_7_code
def yX6_sizeOf : MethodName := ⟨RX6, "sizeOf", "(J)I"⟩
abbrev cX6_nth : ByteArray := prog_8_method_8_code
def yX6_nth : MethodName := ⟨RX6, "nth", "(JI)I"⟩
abbrev cX6_isWithin : ByteArray := prog_8_method_9_code
def yX6_isWithin : MethodName := ⟨RX6, "isWithin", "(II)Z"⟩
abbrev cX6_goTogether : ByteArray := prog_8_method_10_code
def yX6_goTogether : MethodName := ⟨RX6, "goTogether", "(II)Z"⟩
abbrev cX6_fits : ByteArray := prog_8_method_11_code
def yX6_fits : MethodName := ⟨RX6, "fits", "(JI)Z"⟩
abbrev cX6_under : ByteArray := prog_8_method_12_code
def yX6_under : MethodName := ⟨RX6, "under", "(II)I"⟩
abbrev cX6_lesserWithin : ByteArray := prog_8_method_13_code
def yX6_lesserWithin : MethodName := ⟨RX6, "lesserWithin", "(JI)J"⟩
abbrev cX6_leavesAt : ByteArray := prog_8_method_14_code
def yX6_leavesAt : MethodName := ⟨RX6, "leavesAt", "(JI)I"⟩
abbrev cX6_edgesDown : ByteArray := prog_8_method_15_code
def yX6_edgesDown : MethodName := ⟨RX6, "edgesDown", "(JI)I"⟩
abbrev cX6_isOutermost : ByteArray := prog_8_method_16_code
def yX6_isOutermost : MethodName := ⟨RX6, "isOutermost", "(JI)Z"⟩
abbrev cX6_countTrees : ByteArray := prog_8_method_17_code
def yX6_countTrees : MethodName := ⟨RX6, "countTrees", "(II)I"⟩
abbrev cX6_countMore : ByteArray := prog_8_method_18_code
def yX6_countMore : MethodName := ⟨RX6, "countMore", "(IIJI)I"⟩
abbrev cX6_treeAt : ByteArray := prog_8_method_19_code
def yX6_treeAt : MethodName := ⟨RX6, "treeAt", "(III)J"⟩
abbrev cX6_forgetLeaf : ByteArray := prog_8_method_20_code
def yX6_forgetLeaf : MethodName := ⟨RX6, "forgetLeaf", "(JII)J"⟩
abbrev cX6_leftWithout : ByteArray := prog_8_method_21_code
def yX6_leftWithout : MethodName := ⟨RX6, "leftWithout", "(III)I"⟩
def RX7 : String := "MarkedCurves$Tape"
def TX7 : u_T := fun k => match k with
  | 0 => ("MarkedCurves$Tape", "bytes", "[I", true)
  | _ => ("MarkedCurves$Tape", "size", "I", false)
def tyX7 : Nat → FieldType := fun k => match k with
  | 0 => .array .int
  | _ => .int
abbrev wsX70 : List Cond := u_ws RX7 TX7 2
theorem nmX7 : ∀ a, a < 2 → ∀ b, b < 2 → a ≠ b → (TX7 a).2.1 ≠ (TX7 b).2.1 := by decide +kernel
theorem tyX7_ok : ∀ k, k < 2 → parseFieldDescriptor (TX7 k).2.2.1 = some (tyX7 k) := by decide +kernel
abbrev cX7_init : ByteArray := prog_9_method_1_code
def yX7_init : MethodName := ⟨RX7, "<init>", "()V"⟩
abbrev cX7_add : ByteArray := prog_9_method_2_code
def yX7_add : MethodName := ⟨RX7, "add", "(I)V"⟩
abbrev cX7_byteAt : ByteArray := prog_9_method_3_code
def yX7_byteAt : MethodName := ⟨RX7, "byteAt", "(I)I"⟩
abbrev cX7_isFigure : ByteArray := prog_9_method_4_code
def yX7_isFigure : MethodName := ⟨RX7, "isFigure", "(I)Z"⟩
abbrev cX7_figureAt : ByteArray := prog_9_method_5_code
def yX7_figureAt : MethodName := ⟨RX7, "figureAt", "(I)I"⟩
abbrev cX7_firstOf : ByteArray := prog_9_method_6_code
def yX7_firstOf : MethodName := ⟨RX7, "firstOf", "(CI)I"⟩
abbrev cX7_timesAhead : ByteArray := prog_9_method_7_code
def yX7_timesAhead : MethodName := ⟨RX7, "timesAhead", "(CI)I"⟩
def RX8 : String := "MarkedCurves"
def TX8 : u_T := fun k => match k with
  | 0 => ("MarkedCurves", "desk", "LMarkedCurves$Desk;", true)
  | 1 => ("MarkedCurves", "imageDesk", "LMarkedCurves$Desk;", true)
  | 2 => ("MarkedCurves", "deeds", "LMarkedCurves$Deeds;", true)
  | 3 => ("MarkedCurves", "numbers", "LMarkedCurves$Numbers;", true)
  | 4 => ("MarkedCurves", "tape", "LMarkedCurves$Tape;", true)
  | 5 => ("MarkedCurves", "reader", "LMarkedCurves$Reader;", true)
  | 6 => ("MarkedCurves", "speller", "LMarkedCurves$Speller;", true)
  | 7 => ("MarkedCurves", "holders", "[LMarkedCurves$Holder;", true)
  | _ => ("MarkedCurves", "imageKept", "Z", false)
def tyX8 : Nat → FieldType := fun k => match k with
  | 0 => .object "MarkedCurves$Desk"
  | 1 => .object "MarkedCurves$Desk"
  | 2 => .object "MarkedCurves$Deeds"
  | 3 => .object "MarkedCurves$Numbers"
  | 4 => .object "MarkedCurves$Tape"
  | 5 => .object "MarkedCurves$Reader"
  | 6 => .object "MarkedCurves$Speller"
  | 7 => .array (.object "MarkedCurves$Holder")
  | _ => .boolean
abbrev wsX80 : List Cond := u_ws RX8 TX8 9
theorem nmX8 : ∀ a, a < 9 → ∀ b, b < 9 → a ≠ b → (TX8 a).2.1 ≠ (TX8 b).2.1 := by decide +kernel
theorem tyX8_ok : ∀ k, k < 9 → parseFieldDescriptor (TX8 k).2.2.1 = some (tyX8 k) := by decide +kernel
abbrev cX8_init : ByteArray := prog_1_method_1_code
def yX8_init : MethodName := ⟨RX8, "<init>", "()V"⟩
abbrev cX8_genus : ByteArray := prog_1_method_2_code
def yX8_genus : MethodName := ⟨RX8, "genus", "(I)I"⟩
abbrev cX8_mark : ByteArray := prog_1_method_3_code
def yX8_mark : MethodName := ⟨RX8, "mark", "(I)I"⟩
abbrev cX8_take : ByteArray := prog_1_method_4_code
def yX8_take : MethodName := ⟨RX8, "take", "(I)I"⟩
abbrev cX8_change : ByteArray := prog_1_method_5_code
def yX8_change : MethodName := ⟨RX8, "change", "(II)I"⟩
abbrev cX8_order : ByteArray := prog_1_method_6_code
def yX8_order : MethodName := ⟨RX8, "order", "(I)I"⟩
abbrev cX8_of : ByteArray := prog_1_method_7_code
def yX8_of : MethodName := ⟨RX8, "of", "(I)I"⟩
abbrev cX8_number : ByteArray := prog_1_method_8_code
def yX8_number : MethodName := ⟨RX8, "number", "(I)J"⟩
abbrev cX8_rule : ByteArray := prog_1_method_9_code
def yX8_rule : MethodName := ⟨RX8, "rule", "()I"⟩
abbrev cX8_met : ByteArray := prog_1_method_10_code
def yX8_met : MethodName := ⟨RX8, "met", "()I"⟩
abbrev cX8_kappa : ByteArray := prog_1_method_11_code
def yX8_kappa : MethodName := ⟨RX8, "kappa", "(IIII)J"⟩
abbrev cX8_leaves : ByteArray := prog_1_method_12_code
def yX8_leaves : MethodName := ⟨RX8, "leaves", "(I)I"⟩
abbrev cX8_split : ByteArray := prog_1_method_13_code
def yX8_split : MethodName := ⟨RX8, "split", "(I)I"⟩
abbrev cX8_join : ByteArray := prog_1_method_14_code
def yX8_join : MethodName := ⟨RX8, "join", "(I)I"⟩
abbrev cX8_splitAt : ByteArray := prog_1_method_15_code
def yX8_splitAt : MethodName := ⟨RX8, "splitAt", "(I)I"⟩
abbrev cX8_may : ByteArray := prog_1_method_16_code
def yX8_may : MethodName := ⟨RX8, "may", "(I)I"⟩
abbrev cX8_valence : ByteArray := prog_1_method_17_code
def yX8_valence : MethodName := ⟨RX8, "valence", "(I)I"⟩
abbrev cX8_trees : ByteArray := prog_1_method_18_code
def yX8_trees : MethodName := ⟨RX8, "trees", "(II)I"⟩
abbrev cX8_tree : ByteArray := prog_1_method_19_code
def yX8_tree : MethodName := ⟨RX8, "tree", "(IIII)I"⟩
abbrev cX8_forget : ByteArray := prog_1_method_20_code
def yX8_forget : MethodName := ⟨RX8, "forget", "(I)I"⟩
abbrev cX8_onTree : ByteArray := prog_1_method_21_code
def yX8_onTree : MethodName := ⟨RX8, "onTree", "()J"⟩
abbrev cX8_undo : ByteArray := prog_1_method_22_code
def yX8_undo : MethodName := ⟨RX8, "undo", "()I"⟩
abbrev cX8_again : ByteArray := prog_1_method_23_code
def yX8_again : MethodName := ⟨RX8, "again", "()I"⟩
abbrev cX8_feed : ByteArray := prog_1_method_24_code
def yX8_feed : MethodName := ⟨RX8, "feed", "(II)I"⟩
abbrev cX8_wipe : ByteArray := prog_1_method_25_code
def yX8_wipe : MethodName := ⟨RX8, "wipe", "()I"⟩
abbrev cX8_read : ByteArray := prog_1_method_26_code
def yX8_read : MethodName := ⟨RX8, "read", "()I"⟩
abbrev cX8_why : ByteArray := prog_1_method_27_code
def yX8_why : MethodName := ⟨RX8, "why", "(II)I"⟩
abbrev cX8_spell : ByteArray := prog_1_method_28_code
def yX8_spell : MethodName := ⟨RX8, "spell", "(I)I"⟩
abbrev cX8_hold : ByteArray := prog_1_method_29_code
def yX8_hold : MethodName := ⟨RX8, "hold", "(II)I"⟩
abbrev cX8_lose : ByteArray := prog_1_method_30_code
def yX8_lose : MethodName := ⟨RX8, "lose", "(I)I"⟩
abbrev cX8_taken : ByteArray := prog_1_method_31_code
def yX8_taken : MethodName := ⟨RX8, "taken", "(II)I"⟩
abbrev cX8_common : ByteArray := prog_1_method_32_code
def yX8_common : MethodName := ⟨RX8, "common", "(I)I"⟩
abbrev cX8_row : ByteArray := prog_1_method_33_code
def yX8_row : MethodName := ⟨RX8, "row", "(II)I"⟩
abbrev cX8_set : ByteArray := prog_1_method_34_code
def yX8_set : MethodName := ⟨RX8, "set", "(III)I"⟩
abbrev cX8_get : ByteArray := prog_1_method_35_code
def yX8_get : MethodName := ⟨RX8, "get", "(II)J"⟩
abbrev cX8_judge : ByteArray := prog_1_method_36_code
def yX8_judge : MethodName := ⟨RX8, "judge", "(I)I"⟩
abbrev cX8_image : ByteArray := prog_1_method_37_code
def yX8_image : MethodName := ⟨RX8, "image", "()I"⟩
abbrev cX8_restore : ByteArray := prog_1_method_38_code
def yX8_restore : MethodName := ⟨RX8, "restore", "()I"⟩
abbrev cX8_count : ByteArray := prog_1_method_39_code
def yX8_count : MethodName := ⟨RX8, "count", "(I)I"⟩
abbrev cX8_isPower : ByteArray := prog_1_method_40_code
def yX8_isPower : MethodName := ⟨RX8, "isPower", "(I)Z"⟩
abbrev cX8_isPart : ByteArray := prog_1_method_41_code
def yX8_isPart : MethodName := ⟨RX8, "isPart", "(I)Z"⟩
abbrev cX8_isKappa : ByteArray := prog_1_method_42_code
def yX8_isKappa : MethodName := ⟨RX8, "isKappa", "(I)Z"⟩
abbrev cX8_isSplitCount : ByteArray := prog_1_method_43_code
def yX8_isSplitCount : MethodName := ⟨RX8, "isSplitCount", "(I)Z"⟩
abbrev cX8_holderAt : ByteArray := prog_1_method_44_code
def yX8_holderAt : MethodName := ⟨RX8, "holderAt", "(I)LMarkedCurves$Holder;"⟩
abbrev cX8_refusalOf : ByteArray := prog_1_method_45_code
def yX8_refusalOf : MethodName := ⟨RX8, "refusalOf", "(LMarkedCurves$Holder;I)I"⟩
abbrev cX8_keyWith : ByteArray := prog_1_method_46_code
def yX8_keyWith : MethodName := ⟨RX8, "keyWith", "(III)J"⟩
abbrev cX8_aboveWith : ByteArray := prog_1_method_47_code
def yX8_aboveWith : MethodName := ⟨RX8, "aboveWith", "(III)J"⟩
abbrev cX8_kappaOfTwo : ByteArray := prog_1_method_48_code
def yX8_kappaOfTwo : MethodName := ⟨RX8, "kappaOfTwo", "(II)J"⟩
abbrev cX8_kappaOfThree : ByteArray := prog_1_method_49_code
def yX8_kappaOfThree : MethodName := ⟨RX8, "kappaOfThree", "(III)J"⟩
abbrev cX8_partOf : ByteArray := prog_1_method_50_code
def yX8_partOf : MethodName := ⟨RX8, "partOf", "(JJI)J"⟩
abbrev cX8_greatestDivisor : ByteArray := prog_1_method_51_code
def yX8_greatestDivisor : MethodName := ⟨RX8, "greatestDivisor", "(JJ)J"⟩
abbrev cX8_numberOfNode : ByteArray := prog_1_method_52_code
def yX8_numberOfNode : MethodName := ⟨RX8, "numberOfNode", "(I)J"⟩
def RX9 : String := "MarkedCurvesModel"
def TX9 : u_T := fun k => match k with
  | 0 => ("MarkedCurvesModel", "genus", "I", false)
  | 1 => ("MarkedCurvesModel", "marks", "I", false)
  | 2 => ("MarkedCurvesModel", "powers", "[I", true)
  | 3 => ("MarkedCurvesModel", "leaves", "I", false)
  | 4 => ("MarkedCurvesModel", "splits", "I", false)
  | 5 => ("MarkedCurvesModel", "tree", "[I", true)
  | 6 => ("MarkedCurvesModel", "ahead", "[I", true)
  | 7 => ("MarkedCurvesModel", "behind", "[I", true)
  | 8 => ("MarkedCurvesModel", "before", "[I", true)
  | 9 => ("MarkedCurvesModel", "done", "I", false)
  | 10 => ("MarkedCurvesModel", "undone", "I", false)
  | 11 => ("MarkedCurvesModel", "rows", "[I", true)
  | 12 => ("MarkedCurvesModel", "met", "[I", true)
  | 13 => ("MarkedCurvesModel", "metSizes", "[I", true)
  | 14 => ("MarkedCurvesModel", "metMany", "I", false)
  | 15 => ("MarkedCurvesModel", "treesSeen", "I", false)
  | 16 => ("MarkedCurvesModel", "chosen", "[I", true)
  | 17 => ("MarkedCurvesModel", "tape", "[I", true)
  | 18 => ("MarkedCurvesModel", "taped", "I", false)
  | 19 => ("MarkedCurvesModel", "place", "I", false)
  | 20 => ("MarkedCurvesModel", "isWrong", "Z", false)
  | 21 => ("MarkedCurvesModel", "toldGenus", "I", false)
  | 22 => ("MarkedCurvesModel", "toldMarks", "I", false)
  | 23 => ("MarkedCurvesModel", "toldPowers", "[I", true)
  | 24 => ("MarkedCurvesModel", "powerPlaces", "[I", true)
  | 25 => ("MarkedCurvesModel", "isTree", "Z", false)
  | 26 => ("MarkedCurvesModel", "toldLeaves", "I", false)
  | 27 => ("MarkedCurvesModel", "leavesPlace", "I", false)
  | 28 => ("MarkedCurvesModel", "toldSplits", "I", false)
  | 29 => ("MarkedCurvesModel", "toldTree", "[I", true)
  | 30 => ("MarkedCurvesModel", "splitPlaces", "[I", true)
  | 31 => ("MarkedCurvesModel", "layers", "[I", true)
  | 32 => ("MarkedCurvesModel", "isWhy", "Z", false)
  | 33 => ("MarkedCurvesModel", "paper", "[I", true)
  | 34 => ("MarkedCurvesModel", "papered", "I", false)
  | 35 => ("MarkedCurvesModel", "held", "[I", true)
  | 36 => ("MarkedCurvesModel", "numbers", "[J", true)
  | 37 => ("MarkedCurvesModel", "sizes", "[I", true)
  | 38 => ("MarkedCurvesModel", "heldLeaves", "[I", true)
  | 39 => ("MarkedCurvesModel", "items", "[I", true)
  | 40 => ("MarkedCurvesModel", "kept", "[I", true)
  | _ => ("MarkedCurvesModel", "isKept", "Z", false)
def tyX9 : Nat → FieldType := fun k => match k with
  | 0 => .int
  | 1 => .int
  | 2 => .array .int
  | 3 => .int
  | 4 => .int
  | 5 => .array .int
  | 6 => .array .int
  | 7 => .array .int
  | 8 => .array .int
  | 9 => .int
  | 10 => .int
  | 11 => .array .int
  | 12 => .array .int
  | 13 => .array .int
  | 14 => .int
  | 15 => .int
  | 16 => .array .int
  | 17 => .array .int
  | 18 => .int
  | 19 => .int
  | 20 => .boolean
  | 21 => .int
  | 22 => .int
  | 23 => .array .int
  | 24 => .array .int
  | 25 => .boolean
  | 26 => .int
  | 27 => .int
  | 28 => .int
  | 29 => .array .int
  | 30 => .array .int
  | 31 => .array .int
  | 32 => .boolean
  | 33 => .array .int
  | 34 => .int
  | 35 => .array .int
  | 36 => .array .long
  | 37 => .array .int
  | 38 => .array .int
  | 39 => .array .int
  | 40 => .array .int
  | _ => .boolean
abbrev wsX90 : List Cond := u_ws RX9 TX9 42
theorem nmX9 : ∀ a, a < 42 → ∀ b, b < 42 → a ≠ b → (TX9 a).2.1 ≠ (TX9 b).2.1 := by decide +kernel
theorem tyX9_ok : ∀ k, k < 42 → parseFieldDescriptor (TX9 k).2.2.1 = some (tyX9 k) := by decide +kernel
abbrev cX9_init : ByteArray := prog_11_method_1_code
def yX9_init : MethodName := ⟨RX9, "<init>", "()V"⟩
abbrev cX9_in : ByteArray := prog_11_method_2_code
def yX9_in : MethodName := ⟨RX9, "in", "(JJJ)Z"⟩
abbrev cX9_common : ByteArray := prog_11_method_3_code
def yX9_common : MethodName := ⟨RX9, "common", "(JJ)J"⟩
abbrev cX9_part : ByteArray := prog_11_method_4_code
def yX9_part : MethodName := ⟨RX9, "part", "(JJI)J"⟩
abbrev cX9_bits : ByteArray := prog_11_method_5_code
def yX9_bits : MethodName := ⟨RX9, "bits", "(I)I"⟩
abbrev cX9_lays : ByteArray := prog_11_method_6_code
def yX9_lays : MethodName := ⟨RX9, "lays", "([II)V"⟩
abbrev cX9_takes : ByteArray := prog_11_method_7_code
def yX9_takes : MethodName := ⟨RX9, "takes", "([II)V"⟩
abbrev cX9_begins : ByteArray := prog_11_method_8_code
def yX9_begins : MethodName := ⟨RX9, "begins", "()V"⟩
abbrev cX9_ends : ByteArray := prog_11_method_9_code
def yX9_ends : MethodName := ⟨RX9, "ends", "()V"⟩
abbrev cX9_undo : ByteArray := prog_11_method_10_code
def yX9_undo : MethodName := ⟨RX9, "undo", "()I"⟩
abbrev cX9_again : ByteArray := prog_11_method_11_code
def yX9_again : MethodName := ⟨RX9, "again", "()I"⟩
abbrev cX9_isMark : ByteArray := prog_11_method_12_code
def yX9_isMark : MethodName := ⟨RX9, "isMark", "(I)Z"⟩
abbrev cX9_genus : ByteArray := prog_11_method_13_code
def yX9_genus : MethodName := ⟨RX9, "genus", "(I)I"⟩
abbrev cX9_mark : ByteArray := prog_11_method_14_code
def yX9_mark : MethodName := ⟨RX9, "mark", "(I)I"⟩
abbrev cX9_take : ByteArray := prog_11_method_15_code
def yX9_take : MethodName := ⟨RX9, "take", "(I)I"⟩
abbrev cX9_change : ByteArray := prog_11_method_16_code
def yX9_change : MethodName := ⟨RX9, "change", "(II)I"⟩
abbrev cX9_sorts : ByteArray := prog_11_method_17_code
def yX9_sorts : MethodName := ⟨RX9, "sorts", "([III)V"⟩
abbrev cX9_order : ByteArray := prog_11_method_18_code
def yX9_order : MethodName := ⟨RX9, "order", "(I)I"⟩
abbrev cX9_of : ByteArray := prog_11_method_19_code
def yX9_of : MethodName := ⟨RX9, "of", "(I)I"⟩
abbrev cX9_line : ByteArray := prog_11_method_20_code
def yX9_line : MethodName := ⟨RX9, "line", "(I)J"⟩
abbrev cX9_isNothing : ByteArray := prog_11_method_21_code
def yX9_isNothing : MethodName := ⟨RX9, "isNothing", "(I[III)Z"⟩
abbrev cX9_often : ByteArray := prog_11_method_22_code
def yX9_often : MethodName := ⟨RX9, "often", "([IIII)I"⟩
abbrev cX9_base : ByteArray := prog_11_method_23_code
def yX9_base : MethodName := ⟨RX9, "base", "(I[III)J"⟩
abbrev cX9_leaves : ByteArray := prog_11_method_24_code
def yX9_leaves : MethodName := ⟨RX9, "leaves", "([IIIIII)V"⟩
abbrev cX9_numberAt : ByteArray := prog_11_method_25_code
def yX9_numberAt : MethodName := ⟨RX9, "numberAt", "(III)J"⟩
abbrev cX9_numberOf : ByteArray := prog_11_method_26_code
def yX9_numberOf : MethodName := ⟨RX9, "numberOf", "(II)J"⟩
abbrev cX9_numberOfMarks : ByteArray := prog_11_method_27_code
def yX9_numberOfMarks : MethodName := ⟨RX9, "numberOfMarks", "()J"⟩
abbrev cX9_number : ByteArray := prog_11_method_28_code
def yX9_number : MethodName := ⟨RX9, "number", "(I)J"⟩
abbrev cX9_ruleOf : ByteArray := prog_11_method_29_code
def yX9_ruleOf : MethodName := ⟨RX9, "ruleOf", "()I"⟩
abbrev cX9_rule : ByteArray := prog_11_method_30_code
def yX9_rule : MethodName := ⟨RX9, "rule", "()I"⟩
abbrev cX9_meets : ByteArray := prog_11_method_31_code
def yX9_meets : MethodName := ⟨RX9, "meets", "(II)V"⟩
abbrev cX9_met : ByteArray := prog_11_method_32_code
def yX9_met : MethodName := ⟨RX9, "met", "()I"⟩
abbrev cX9_withMore : ByteArray := prog_11_method_33_code
def yX9_withMore : MethodName := ⟨RX9, "withMore", "(IIII)J"⟩
abbrev cX9_kappaOne : ByteArray := prog_11_method_34_code
def yX9_kappaOne : MethodName := ⟨RX9, "kappaOne", "(I)J"⟩
abbrev cX9_kappaTwo : ByteArray := prog_11_method_35_code
def yX9_kappaTwo : MethodName := ⟨RX9, "kappaTwo", "(II)J"⟩
abbrev cX9_kappa : ByteArray := prog_11_method_36_code
def yX9_kappa : MethodName := ⟨RX9, "kappa", "(IIII)J"⟩
abbrev cX9_isSplit : ByteArray := prog_11_method_37_code
def yX9_isSplit : MethodName := ⟨RX9, "isSplit", "(II)Z"⟩
abbrev cX9_goTogether : ByteArray := prog_11_method_38_code
def yX9_goTogether : MethodName := ⟨RX9, "goTogether", "(II)Z"⟩
abbrev cX9_placeOf : ByteArray := prog_11_method_39_code
def yX9_placeOf : MethodName := ⟨RX9, "placeOf", "(I)I"⟩
abbrev cX9_mayCome : ByteArray := prog_11_method_40_code
def yX9_mayCome : MethodName := ⟨RX9, "mayCome", "(I)Z"⟩
abbrev cX9_leaves_ : ByteArray := prog_11_method_41_code
def yX9_leaves_ : MethodName := ⟨RX9, "leaves", "(I)I"⟩
abbrev cX9_comes : ByteArray := prog_11_method_42_code
def yX9_comes : MethodName := ⟨RX9, "comes", "(I)V"⟩
abbrev cX9_split : ByteArray := prog_11_method_43_code
def yX9_split : MethodName := ⟨RX9, "split", "(I)I"⟩
abbrev cX9_join : ByteArray := prog_11_method_44_code
def yX9_join : MethodName := ⟨RX9, "join", "(I)I"⟩
abbrev cX9_splitAt : ByteArray := prog_11_method_45_code
def yX9_splitAt : MethodName := ⟨RX9, "splitAt", "(I)I"⟩
abbrev cX9_may : ByteArray := prog_11_method_46_code
def yX9_may : MethodName := ⟨RX9, "may", "(I)I"⟩
abbrev cX9_isWithin : ByteArray := prog_11_method_47_code
def yX9_isWithin : MethodName := ⟨RX9, "isWithin", "(II)Z"⟩
abbrev cX9_isBelow : ByteArray := prog_11_method_48_code
def yX9_isBelow : MethodName := ⟨RX9, "isBelow", "(II)I"⟩
abbrev cX9_edges : ByteArray := prog_11_method_49_code
def yX9_edges : MethodName := ⟨RX9, "edges", "(I)I"⟩
abbrev cX9_at : ByteArray := prog_11_method_50_code
def yX9_at : MethodName := ⟨RX9, "at", "(I)I"⟩
abbrev cX9_valence : ByteArray := prog_11_method_51_code
def yX9_valence : MethodName := ⟨RX9, "valence", "(I)I"⟩
abbrev cX9_finds : ByteArray := prog_11_method_52_code
def yX9_finds : MethodName := ⟨RX9, "finds", "(IIIII)Z"⟩
abbrev cX9_trees : ByteArray := prog_11_method_53_code
def yX9_trees : MethodName := ⟨RX9, "trees", "(II)I"⟩
abbrev cX9_tree : ByteArray := prog_11_method_54_code
def yX9_tree : MethodName := ⟨RX9, "tree", "(IIII)I"⟩
abbrev cX9_without : ByteArray := prog_11_method_55_code
def yX9_without : MethodName := ⟨RX9, "without", "(III)I"⟩
abbrev cX9_forget : ByteArray := prog_11_method_56_code
def yX9_forget : MethodName := ⟨RX9, "forget", "(I)I"⟩
abbrev cX9_numberAtNode : ByteArray := prog_11_method_57_code
def yX9_numberAtNode : MethodName := ⟨RX9, "numberAtNode", "(I)J"⟩
abbrev cX9_onTree : ByteArray := prog_11_method_58_code
def yX9_onTree : MethodName := ⟨RX9, "onTree", "()J"⟩
abbrev cX9_feed : ByteArray := prog_11_method_59_code
def yX9_feed : MethodName := ⟨RX9, "feed", "(II)I"⟩
abbrev cX9_wipe : ByteArray := prog_11_method_60_code
def yX9_wipe : MethodName := ⟨RX9, "wipe", "()I"⟩
abbrev cX9_here : ByteArray := prog_11_method_61_code
def yX9_here : MethodName := ⟨RX9, "here", "()I"⟩
abbrev cX9_isFigure : ByteArray := prog_11_method_62_code
def yX9_isFigure : MethodName := ⟨RX9, "isFigure", "()Z"⟩
abbrev cX9_figure : ByteArray := prog_11_method_63_code
def yX9_figure : MethodName := ⟨RX9, "figure", "()I"⟩
abbrev cX9_must : ByteArray := prog_11_method_64_code
def yX9_must : MethodName := ⟨RX9, "must", "(I)V"⟩
abbrev cX9_markHere : ByteArray := prog_11_method_65_code
def yX9_markHere : MethodName := ⟨RX9, "markHere", "()V"⟩
abbrev cX9_splitHere : ByteArray := prog_11_method_66_code
def yX9_splitHere : MethodName := ⟨RX9, "splitHere", "()V"⟩
abbrev cX9_form : ByteArray := prog_11_method_67_code
def yX9_form : MethodName := ⟨RX9, "form", "()V"⟩
abbrev cX9_wrongFigures : ByteArray := prog_11_method_68_code
def yX9_wrongFigures : MethodName := ⟨RX9, "wrongFigures", "()I"⟩
abbrev cX9_because : ByteArray := prog_11_method_69_code
def yX9_because : MethodName := ⟨RX9, "because", "(II)V"⟩
abbrev cX9_read : ByteArray := prog_11_method_70_code
def yX9_read : MethodName := ⟨RX9, "read", "()I"⟩
abbrev cX9_why : ByteArray := prog_11_method_71_code
def yX9_why : MethodName := ⟨RX9, "why", "(II)I"⟩
abbrev cX9_writes : ByteArray := prog_11_method_72_code
def yX9_writes : MethodName := ⟨RX9, "writes", "(I)V"⟩
abbrev cX9_spells : ByteArray := prog_11_method_73_code
def yX9_spells : MethodName := ⟨RX9, "spells", "()V"⟩
abbrev cX9_spell : ByteArray := prog_11_method_74_code
def yX9_spell : MethodName := ⟨RX9, "spell", "(I)I"⟩
abbrev cX9_isHolder : ByteArray := prog_11_method_75_code
def yX9_isHolder : MethodName := ⟨RX9, "isHolder", "(I)Z"⟩
abbrev cX9_hold : ByteArray := prog_11_method_76_code
def yX9_hold : MethodName := ⟨RX9, "hold", "(II)I"⟩
abbrev cX9_lose : ByteArray := prog_11_method_77_code
def yX9_lose : MethodName := ⟨RX9, "lose", "(I)I"⟩
abbrev cX9_isFull : ByteArray := prog_11_method_78_code
def yX9_isFull : MethodName := ⟨RX9, "isFull", "(I)Z"⟩
abbrev cX9_taken : ByteArray := prog_11_method_79_code
def yX9_taken : MethodName := ⟨RX9, "taken", "(II)I"⟩
abbrev cX9_common_ : ByteArray := prog_11_method_80_code
def yX9_common_ : MethodName := ⟨RX9, "common", "(I)I"⟩
abbrev cX9_row : ByteArray := prog_11_method_81_code
def yX9_row : MethodName := ⟨RX9, "row", "(II)I"⟩
abbrev cX9_rowless : ByteArray := prog_11_method_82_code
def yX9_rowless : MethodName := ⟨RX9, "rowless", "(I)I"⟩
abbrev cX9_set : ByteArray := prog_11_method_83_code
def yX9_set : MethodName := ⟨RX9, "set", "(III)I"⟩
abbrev cX9_get : ByteArray := prog_11_method_84_code
def yX9_get : MethodName := ⟨RX9, "get", "(II)J"⟩
abbrev cX9_judge : ByteArray := prog_11_method_85_code
def yX9_judge : MethodName := ⟨RX9, "judge", "(I)I"⟩
abbrev cX9_image : ByteArray := prog_11_method_86_code
def yX9_image : MethodName := ⟨RX9, "image", "()I"⟩
abbrev cX9_restore : ByteArray := prog_11_method_87_code
def yX9_restore : MethodName := ⟨RX9, "restore", "()I"⟩
abbrev cX9_count : ByteArray := prog_11_method_88_code
def yX9_count : MethodName := ⟨RX9, "count", "(I)I"⟩
def RJ6 : String := "java/lang/Integer"
def TJ6 : u_T := fun k => match k with
  | _ => ("", "", "", false)
def tyJ6 : Nat → FieldType := fun k => match k with
  | _ => .int
abbrev wsJ60 : List Cond := u_ws RJ6 TJ6 0
theorem nmJ6 : ∀ a, a < 0 → ∀ b, b < 0 → a ≠ b → (TJ6 a).2.1 ≠ (TJ6 b).2.1 := by decide +kernel
theorem tyJ6_ok : ∀ k, k < 0 → parseFieldDescriptor (TJ6 k).2.2.1 = some (tyJ6 k) := by decide +kernel
abbrev cJ6_bitCount_0f7a4 : ByteArray := prog_12_method_49_code
def yJ6_bitCount_0f7a4 : MethodName := ⟨RJ6, "bitCount", "(I)I"⟩
def RJ13 : String := "java/lang/Long"
def TJ13 : u_T := fun k => match k with
  | _ => ("", "", "", false)
def tyJ13 : Nat → FieldType := fun k => match k with
  | _ => .int
abbrev wsJ130 : List Cond := u_ws RJ13 TJ13 0
theorem nmJ13 : ∀ a, a < 0 → ∀ b, b < 0 → a ≠ b → (TJ13 a).2.1 ≠ (TJ13 b).2.1 := by decide +kernel
theorem tyJ13_ok : ∀ k, k < 0 → parseFieldDescriptor (TJ13 k).2.2.1 = some (tyJ13 k) := by decide +kernel
abbrev cJ13_bitCount_95d88 : ByteArray := prog_13_method_50_code
def yJ13_bitCount_95d88 : MethodName := ⟨RJ13, "bitCount", "(J)I"⟩
def RJ9 : String := "java/lang/Math"
def TJ9 : u_T := fun k => match k with
  | _ => ("", "", "", false)
def tyJ9 : Nat → FieldType := fun k => match k with
  | _ => .int
abbrev wsJ90 : List Cond := u_ws RJ9 TJ9 0
theorem nmJ9 : ∀ a, a < 0 → ∀ b, b < 0 → a ≠ b → (TJ9 a).2.1 ≠ (TJ9 b).2.1 := by decide +kernel
theorem tyJ9_ok : ∀ k, k < 0 → parseFieldDescriptor (TJ9 k).2.2.1 = some (tyJ9 k) := by decide +kernel
abbrev cJ9_floorMod_f86c9 : ByteArray := prog_14_method_52_code
def yJ9_floorMod_f86c9 : MethodName := ⟨RJ9, "floorMod", "(JJ)J"⟩
abbrev cJ9_abs_067f4 : ByteArray := prog_14_method_61_code
def yJ9_abs_067f4 : MethodName := ⟨RJ9, "abs", "(J)J"⟩
abbrev cJ9_max_7cf53 : ByteArray := prog_14_method_65_code
def yJ9_max_7cf53 : MethodName := ⟨RJ9, "max", "(II)I"⟩
def RL : String := "MarkedCurvesLaw"
abbrev cL_law : ByteArray := code
def yL_law : MethodName := ⟨RL, "law", "([I)Z"⟩
def wsX0_init : List Cond := .code yX0_init cX0_init 2 none :: wA
def wsX0_undoable : List Cond := .code yX0_undoable cX0_undoable 1 (some .int) :: wA
def wsX0_repeatable : List Cond := .code yX0_repeatable cX0_repeatable 1 (some .int) :: wA
def wsX0_present : List Cond := .code yX0_present cX0_present 1 (some (.object "MarkedCurves$Desk")) :: wA
def wsX0_settle : List Cond := .code yX0_settle cX0_settle 2 none :: wA
def wsX0_stepBack : List Cond := .code yX0_stepBack cX0_stepBack 2 none :: wA
def wsX0_stepOn : List Cond := .code yX0_stepOn cX0_stepOn 2 none :: wA
def wsX0_startAnew : List Cond := .code yX0_startAnew cX0_startAnew 2 none :: wA
def wsX0_dropOldest : List Cond := .code yX0_dropOldest cX0_dropOldest 3 none :: wA
def wsX1_init : List Cond := .code yX1_init cX1_init 1 none :: wA
def wsX1_copyFrom : List Cond := .code yX1_copyFrom cX1_copyFrom 3 none :: wA
def wsX1_isLike : List Cond := .code yX1_isLike cX1_isLike 2 (some .boolean) :: wA
def wsX1_unlikePowers : List Cond := .code yX1_unlikePowers cX1_unlikePowers 4 (some .int) :: wA
def wsX1_hasMark : List Cond := .code yX1_hasMark cX1_hasMark 2 (some .boolean) :: wA
def wsX1_powerAt : List Cond := .code yX1_powerAt cX1_powerAt 2 (some .int) :: wA
def wsX1_setPower : List Cond := .code yX1_setPower cX1_setPower 3 none :: wA
def wsX1_addMark : List Cond := .code yX1_addMark cX1_addMark 2 none :: wA
def wsX1_dropMark : List Cond := .code yX1_dropMark cX1_dropMark 3 none :: wA
def wsX1_sortRising : List Cond := .code yX1_sortRising cX1_sortRising 3 none :: wA
def wsX1_turnAbout : List Cond := .code yX1_turnAbout cX1_turnAbout 2 none :: wA
def wsX1_putFirstLast : List Cond := .code yX1_putFirstLast cX1_putFirstLast 2 none :: wA
def wsX1_swap : List Cond := .code yX1_swap cX1_swap 4 none :: wA
def wsX2_init : List Cond := .code yX2_init cX2_init 1 none :: wA
def wsX2_holdNumber : List Cond := .code yX2_holdNumber cX2_holdNumber 3 none :: wA
def wsX2_holdTree : List Cond := .code yX2_holdTree cX2_holdTree 4 none :: wA
def wsX2_holdRow : List Cond := .code yX2_holdRow cX2_holdRow 3 none :: wA
def wsX2_hasPlace : List Cond := .code yX2_hasPlace cX2_hasPlace 2 (some .boolean) :: wA
def wsX2_isOfKind : List Cond := .code yX2_isOfKind cX2_isOfKind 2 (some .boolean) :: wA
def wsX2_takenFor : List Cond := .code yX2_takenFor cX2_takenFor 2 (some .int) :: wA
def wsX2_firstUnlike : List Cond := .code yX2_firstUnlike cX2_firstUnlike 6 (some .int) :: wA
def wsX2_isFullTree : List Cond := .code yX2_isFullTree cX2_isFullTree 1 (some .boolean) :: wA
def wsX3_init : List Cond := .code yX3_init cX3_init 1 none :: wA
def wsX3_lineOf : List Cond := .code yX3_lineOf cX3_lineOf 1 (some .long) :: wA
def wsX3_begin : List Cond := .code yX3_begin cX3_begin 1 none :: wA
def wsX3_add : List Cond := .code yX3_add cX3_add 2 none :: wA
def wsX3_keyFor : List Cond := .code yX3_keyFor cX3_keyFor 2 (some .long) :: wA
def wsX3_ruleOf : List Cond := .code yX3_ruleOf cX3_ruleOf 2 (some .int) :: wA
def wsX3_baseOf : List Cond := .code yX3_baseOf cX3_baseOf 2 (some .long) :: wA
def wsX3_timesThere : List Cond := .code yX3_timesThere cX3_timesThere 3 (some .int) :: wA
def wsX3_nextKey : List Cond := .code yX3_nextKey cX3_nextKey 6 (some .long) :: wA
def wsX3_weightOf : List Cond := .code yX3_weightOf cX3_weightOf 6 (some .long) :: wA
def wsX3_aboveOf : List Cond := .code yX3_aboveOf cX3_aboveOf 3 (some .long) :: wA
def wsX3_workOut : List Cond := .code yX3_workOut cX3_workOut 11 (some .long) :: wA
def wsX3_countMet : List Cond := .code yX3_countMet cX3_countMet 3 (some .int) :: wA
def wsX3_meet : List Cond := .code yX3_meet cX3_meet 8 (some .int) :: wA
def wsX3_keep : List Cond := .code yX3_keep cX3_keep 6 none :: wA
def wsX3_slotOf : List Cond := .code yX3_slotOf cX3_slotOf 5 (some .int) :: wA
def wsX4_init : List Cond := .code yX4_init cX4_init 1 none :: wA
def wsX4_causeAt : List Cond := .code yX4_causeAt cX4_causeAt 4 (some .int) :: wA
def wsX4_readOver : List Cond := .code yX4_readOver cX4_readOver 2 (some .int) :: wA
def wsX4_readText : List Cond := .code yX4_readText cX4_readText 1 (some .boolean) :: wA
def wsX4_readSign : List Cond := .code yX4_readSign cX4_readSign 2 (some .boolean) :: wA
def wsX4_readGenus : List Cond := .code yX4_readGenus cX4_readGenus 1 (some .boolean) :: wA
def wsX4_readMarks : List Cond := .code yX4_readMarks cX4_readMarks 3 (some .boolean) :: wA
def wsX4_readPower : List Cond := .code yX4_readPower cX4_readPower 3 none :: wA
def wsX4_readLeafCount : List Cond := .code yX4_readLeafCount cX4_readLeafCount 1 (some .boolean) :: wA
def wsX4_readSplits : List Cond := .code yX4_readSplits cX4_readSplits 2 (some .boolean) :: wA
def wsX4_readSplit : List Cond := .code yX4_readSplit cX4_readSplit 5 (some .boolean) :: wA
def wsX4_noteCannotBe : List Cond := .code yX4_noteCannotBe cX4_noteCannotBe 2 none :: wA
def wsX4_keepWhy : List Cond := .code yX4_keepWhy cX4_keepWhy 3 none :: wA
def wsX4_sortOf : List Cond := .code yX4_sortOf cX4_sortOf 3 (some .int) :: wA
def wsX4_signsAhead : List Cond := .code yX4_signsAhead cX4_signsAhead 3 (some .int) :: wA
def wsX5_init : List Cond := .code yX5_init cX5_init 1 none :: wA
def wsX5_byteAt : List Cond := .code yX5_byteAt cX5_byteAt 2 (some .int) :: wA
def wsX5_tell : List Cond := .code yX5_tell cX5_tell 4 none :: wA
def wsX5_addPower : List Cond := .code yX5_addPower cX5_addPower 2 none :: wA
def wsX5_addSplit : List Cond := .code yX5_addSplit cX5_addSplit 3 none :: wA
def wsX5_addFigure : List Cond := .code yX5_addFigure cX5_addFigure 2 none :: wA
def wsX5_addByte : List Cond := .code yX5_addByte cX5_addByte 2 none :: wA
def wsX6_isLeafCount : List Cond := .code yX6_isLeafCount cX6_isLeafCount 1 (some .boolean) :: wA
def wsX6_isSplit : List Cond := .code yX6_isSplit cX6_isSplit 3 (some .boolean) :: wA
def wsX6_has : List Cond := .code yX6_has cX6_has 3 (some .boolean) :: wA
def wsX6_with : List Cond := .code yX6_with cX6_with 3 (some .long) :: wA
def wsX6_without : List Cond := .code yX6_without cX6_without 3 (some .long) :: wA
def wsX6_sizeOf : List Cond := .code yX6_sizeOf cX6_sizeOf 2 (some .int) :: wA
def wsX6_nth : List Cond := .code yX6_nth cX6_nth 6 (some .int) :: wA
def wsX6_isWithin : List Cond := .code yX6_isWithin cX6_isWithin 2 (some .boolean) :: wA
def wsX6_goTogether : List Cond := .code yX6_goTogether cX6_goTogether 3 (some .boolean) :: wA
def wsX6_fits : List Cond := .code yX6_fits cX6_fits 6 (some .boolean) :: wA
def wsX6_under : List Cond := .code yX6_under cX6_under 2 (some .int) :: wA
def wsX6_lesserWithin : List Cond := .code yX6_lesserWithin cX6_lesserWithin 8 (some .long) :: wA
def wsX6_leavesAt : List Cond := .code yX6_leavesAt cX6_leavesAt 8 (some .int) :: wA
def wsX6_edgesDown : List Cond := .code yX6_edgesDown cX6_edgesDown 8 (some .int) :: wA
def wsX6_isOutermost : List Cond := .code yX6_isOutermost cX6_isOutermost 6 (some .boolean) :: wA
def wsX6_countTrees : List Cond := .code yX6_countTrees cX6_countTrees 2 (some .int) :: wA
def wsX6_countMore : List Cond := .code yX6_countMore cX6_countMore 7 (some .int) :: wA
def wsX6_treeAt : List Cond := .code yX6_treeAt cX6_treeAt 11 (some .long) :: wA
def wsX6_forgetLeaf : List Cond := .code yX6_forgetLeaf cX6_forgetLeaf 9 (some .long) :: wA
def wsX6_leftWithout : List Cond := .code yX6_leftWithout cX6_leftWithout 7 (some .int) :: wA
def wsX7_init : List Cond := .code yX7_init cX7_init 1 none :: wA
def wsX7_add : List Cond := .code yX7_add cX7_add 2 none :: wA
def wsX7_byteAt : List Cond := .code yX7_byteAt cX7_byteAt 2 (some .int) :: wA
def wsX7_isFigure : List Cond := .code yX7_isFigure cX7_isFigure 3 (some .boolean) :: wA
def wsX7_figureAt : List Cond := .code yX7_figureAt cX7_figureAt 2 (some .int) :: wA
def wsX7_firstOf : List Cond := .code yX7_firstOf cX7_firstOf 4 (some .int) :: wA
def wsX7_timesAhead : List Cond := .code yX7_timesAhead cX7_timesAhead 5 (some .int) :: wA
def wsX8_init : List Cond := .code yX8_init cX8_init 2 none :: wA
def wsX8_genus : List Cond := .code yX8_genus cX8_genus 3 (some .int) :: wA
def wsX8_mark : List Cond := .code yX8_mark cX8_mark 2 (some .int) :: wA
def wsX8_take : List Cond := .code yX8_take cX8_take 2 (some .int) :: wA
def wsX8_change : List Cond := .code yX8_change cX8_change 4 (some .int) :: wA
def wsX8_order : List Cond := .code yX8_order cX8_order 3 (some .int) :: wA
def wsX8_of : List Cond := .code yX8_of cX8_of 2 (some .int) :: wA
def wsX8_number : List Cond := .code yX8_number cX8_number 2 (some .long) :: wA
def wsX8_rule : List Cond := .code yX8_rule cX8_rule 1 (some .int) :: wA
def wsX8_met : List Cond := .code yX8_met cX8_met 1 (some .int) :: wA
def wsX8_kappa : List Cond := .code yX8_kappa cX8_kappa 7 (some .long) :: wA
def wsX8_leaves : List Cond := .code yX8_leaves cX8_leaves 3 (some .int) :: wA
def wsX8_split : List Cond := .code yX8_split cX8_split 2 (some .int) :: wA
def wsX8_join : List Cond := .code yX8_join cX8_join 2 (some .int) :: wA
def wsX8_splitAt : List Cond := .code yX8_splitAt cX8_splitAt 3 (some .int) :: wA
def wsX8_may : List Cond := .code yX8_may cX8_may 2 (some .int) :: wA
def wsX8_valence : List Cond := .code yX8_valence cX8_valence 4 (some .int) :: wA
def wsX8_trees : List Cond := .code yX8_trees cX8_trees 3 (some .int) :: wA
def wsX8_tree : List Cond := .code yX8_tree cX8_tree 6 (some .int) :: wA
def wsX8_forget : List Cond := .code yX8_forget cX8_forget 2 (some .int) :: wA
def wsX8_onTree : List Cond := .code yX8_onTree cX8_onTree 5 (some .long) :: wA
def wsX8_undo : List Cond := .code yX8_undo cX8_undo 1 (some .int) :: wA
def wsX8_again : List Cond := .code yX8_again cX8_again 1 (some .int) :: wA
def wsX8_feed : List Cond := .code yX8_feed cX8_feed 4 (some .int) :: wA
def wsX8_wipe : List Cond := .code yX8_wipe cX8_wipe 2 (some .int) :: wA
def wsX8_read : List Cond := .code yX8_read cX8_read 2 (some .int) :: wA
def wsX8_why : List Cond := .code yX8_why cX8_why 3 (some .int) :: wA
def wsX8_spell : List Cond := .code yX8_spell cX8_spell 2 (some .int) :: wA
def wsX8_hold : List Cond := .code yX8_hold cX8_hold 4 (some .int) :: wA
def wsX8_lose : List Cond := .code yX8_lose cX8_lose 4 (some .int) :: wA
def wsX8_taken : List Cond := .code yX8_taken cX8_taken 4 (some .int) :: wA
def wsX8_common : List Cond := .code yX8_common cX8_common 4 (some .int) :: wA
def wsX8_row : List Cond := .code yX8_row cX8_row 4 (some .int) :: wA
def wsX8_set : List Cond := .code yX8_set cX8_set 6 (some .int) :: wA
def wsX8_get : List Cond := .code yX8_get cX8_get 4 (some .long) :: wA
def wsX8_judge : List Cond := .code yX8_judge cX8_judge 5 (some .int) :: wA
def wsX8_image : List Cond := .code yX8_image cX8_image 1 (some .int) :: wA
def wsX8_restore : List Cond := .code yX8_restore cX8_restore 1 (some .int) :: wA
def wsX8_count : List Cond := .code yX8_count cX8_count 2 (some .int) :: wA
def wsX8_isPower : List Cond := .code yX8_isPower cX8_isPower 1 (some .boolean) :: wA
def wsX8_isPart : List Cond := .code yX8_isPart cX8_isPart 1 (some .boolean) :: wA
def wsX8_isKappa : List Cond := .code yX8_isKappa cX8_isKappa 1 (some .boolean) :: wA
def wsX8_isSplitCount : List Cond := .code yX8_isSplitCount cX8_isSplitCount 1 (some .boolean) :: wA
def wsX8_holderAt : List Cond := .code yX8_holderAt cX8_holderAt 2 (some (.object "MarkedCurves$Holder")) :: wA
def wsX8_refusalOf : List Cond := .code yX8_refusalOf cX8_refusalOf 2 (some .int) :: wA
def wsX8_keyWith : List Cond := .code yX8_keyWith cX8_keyWith 5 (some .long) :: wA
def wsX8_aboveWith : List Cond := .code yX8_aboveWith cX8_aboveWith 4 (some .long) :: wA
def wsX8_kappaOfTwo : List Cond := .code yX8_kappaOfTwo cX8_kappaOfTwo 3 (some .long) :: wA
def wsX8_kappaOfThree : List Cond := .code yX8_kappaOfThree cX8_kappaOfThree 4 (some .long) :: wA
def wsX8_partOf : List Cond := .code yX8_partOf cX8_partOf 7 (some .long) :: wA
def wsX8_greatestDivisor : List Cond := .code yX8_greatestDivisor cX8_greatestDivisor 11 (some .long) :: wA
def wsX8_numberOfNode : List Cond := .code yX8_numberOfNode cX8_numberOfNode 6 (some .long) :: wA
def wsX9_init : List Cond := .code yX9_init cX9_init 1 none :: wA
def wsX9_in : List Cond := .code yX9_in cX9_in 6 (some .boolean) :: wA
def wsX9_common : List Cond := .code yX9_common cX9_common 10 (some .long) :: wA
def wsX9_part : List Cond := .code yX9_part cX9_part 7 (some .long) :: wA
def wsX9_bits : List Cond := .code yX9_bits cX9_bits 3 (some .int) :: wA
def wsX9_lays : List Cond := .code yX9_lays cX9_lays 4 none :: wA
def wsX9_takes : List Cond := .code yX9_takes cX9_takes 4 none :: wA
def wsX9_begins : List Cond := .code yX9_begins cX9_begins 1 none :: wA
def wsX9_ends : List Cond := .code yX9_ends cX9_ends 3 none :: wA
def wsX9_undo : List Cond := .code yX9_undo cX9_undo 1 (some .int) :: wA
def wsX9_again : List Cond := .code yX9_again cX9_again 1 (some .int) :: wA
def wsX9_isMark : List Cond := .code yX9_isMark cX9_isMark 2 (some .boolean) :: wA
def wsX9_genus : List Cond := .code yX9_genus cX9_genus 3 (some .int) :: wA
def wsX9_mark : List Cond := .code yX9_mark cX9_mark 2 (some .int) :: wA
def wsX9_take : List Cond := .code yX9_take cX9_take 3 (some .int) :: wA
def wsX9_change : List Cond := .code yX9_change cX9_change 4 (some .int) :: wA
def wsX9_sorts : List Cond := .code yX9_sorts cX9_sorts 6 none :: wA
def wsX9_order : List Cond := .code yX9_order cX9_order 4 (some .int) :: wA
def wsX9_of : List Cond := .code yX9_of cX9_of 2 (some .int) :: wA
def wsX9_line : List Cond := .code yX9_line cX9_line 1 (some .long) :: wA
def wsX9_isNothing : List Cond := .code yX9_isNothing cX9_isNothing 6 (some .boolean) :: wA
def wsX9_often : List Cond := .code yX9_often cX9_often 6 (some .int) :: wA
def wsX9_base : List Cond := .code yX9_base cX9_base 4 (some .long) :: wA
def wsX9_leaves : List Cond := .code yX9_leaves cX9_leaves 11 none :: wA
def wsX9_numberAt : List Cond := .code yX9_numberAt cX9_numberAt 11 (some .long) :: wA
def wsX9_numberOf : List Cond := .code yX9_numberOf cX9_numberOf 3 (some .long) :: wA
def wsX9_numberOfMarks : List Cond := .code yX9_numberOfMarks cX9_numberOfMarks 2 (some .long) :: wA
def wsX9_number : List Cond := .code yX9_number cX9_number 2 (some .long) :: wA
def wsX9_ruleOf : List Cond := .code yX9_ruleOf cX9_ruleOf 2 (some .int) :: wA
def wsX9_rule : List Cond := .code yX9_rule cX9_rule 1 (some .int) :: wA
def wsX9_meets : List Cond := .code yX9_meets cX9_meets 6 none :: wA
def wsX9_met : List Cond := .code yX9_met cX9_met 5 (some .int) :: wA
def wsX9_withMore : List Cond := .code yX9_withMore cX9_withMore 6 (some .long) :: wA
def wsX9_kappaOne : List Cond := .code yX9_kappaOne cX9_kappaOne 2 (some .long) :: wA
def wsX9_kappaTwo : List Cond := .code yX9_kappaTwo cX9_kappaTwo 3 (some .long) :: wA
def wsX9_kappa : List Cond := .code yX9_kappa cX9_kappa 7 (some .long) :: wA
def wsX9_isSplit : List Cond := .code yX9_isSplit cX9_isSplit 2 (some .boolean) :: wA
def wsX9_goTogether : List Cond := .code yX9_goTogether cX9_goTogether 2 (some .boolean) :: wA
def wsX9_placeOf : List Cond := .code yX9_placeOf cX9_placeOf 3 (some .int) :: wA
def wsX9_mayCome : List Cond := .code yX9_mayCome cX9_mayCome 3 (some .boolean) :: wA
def wsX9_leaves_ : List Cond := .code yX9_leaves_ cX9_leaves_ 3 (some .int) :: wA
def wsX9_comes : List Cond := .code yX9_comes cX9_comes 2 none :: wA
def wsX9_split : List Cond := .code yX9_split cX9_split 2 (some .int) :: wA
def wsX9_join : List Cond := .code yX9_join cX9_join 4 (some .int) :: wA
def wsX9_splitAt : List Cond := .code yX9_splitAt cX9_splitAt 2 (some .int) :: wA
def wsX9_may : List Cond := .code yX9_may cX9_may 2 (some .int) :: wA
def wsX9_isWithin : List Cond := .code yX9_isWithin cX9_isWithin 3 (some .boolean) :: wA
def wsX9_isBelow : List Cond := .code yX9_isBelow cX9_isBelow 4 (some .int) :: wA
def wsX9_edges : List Cond := .code yX9_edges cX9_edges 4 (some .int) :: wA
def wsX9_at : List Cond := .code yX9_at cX9_at 4 (some .int) :: wA
def wsX9_valence : List Cond := .code yX9_valence cX9_valence 2 (some .int) :: wA
def wsX9_finds : List Cond := .code yX9_finds cX9_finds 9 (some .boolean) :: wA
def wsX9_trees : List Cond := .code yX9_trees cX9_trees 4 (some .int) :: wA
def wsX9_tree : List Cond := .code yX9_tree cX9_tree 5 (some .int) :: wA
def wsX9_without : List Cond := .code yX9_without cX9_without 5 (some .int) :: wA
def wsX9_forget : List Cond := .code yX9_forget cX9_forget 5 (some .int) :: wA
def wsX9_numberAtNode : List Cond := .code yX9_numberAtNode cX9_numberAtNode 5 (some .long) :: wA
def wsX9_onTree : List Cond := .code yX9_onTree cX9_onTree 4 (some .long) :: wA
def wsX9_feed : List Cond := .code yX9_feed cX9_feed 4 (some .int) :: wA
def wsX9_wipe : List Cond := .code yX9_wipe cX9_wipe 2 (some .int) :: wA
def wsX9_here : List Cond := .code yX9_here cX9_here 1 (some .int) :: wA
def wsX9_isFigure : List Cond := .code yX9_isFigure cX9_isFigure 1 (some .boolean) :: wA
def wsX9_figure : List Cond := .code yX9_figure cX9_figure 1 (some .int) :: wA
def wsX9_must : List Cond := .code yX9_must cX9_must 2 none :: wA
def wsX9_markHere : List Cond := .code yX9_markHere cX9_markHere 2 none :: wA
def wsX9_splitHere : List Cond := .code yX9_splitHere cX9_splitHere 4 none :: wA
def wsX9_form : List Cond := .code yX9_form cX9_form 1 none :: wA
def wsX9_wrongFigures : List Cond := .code yX9_wrongFigures cX9_wrongFigures 3 (some .int) :: wA
def wsX9_because : List Cond := .code yX9_because cX9_because 7 none :: wA
def wsX9_read : List Cond := .code yX9_read cX9_read 3 (some .int) :: wA
def wsX9_why : List Cond := .code yX9_why cX9_why 3 (some .int) :: wA
def wsX9_writes : List Cond := .code yX9_writes cX9_writes 2 none :: wA
def wsX9_spells : List Cond := .code yX9_spells cX9_spells 3 none :: wA
def wsX9_spell : List Cond := .code yX9_spell cX9_spell 2 (some .int) :: wA
def wsX9_isHolder : List Cond := .code yX9_isHolder cX9_isHolder 1 (some .boolean) :: wA
def wsX9_hold : List Cond := .code yX9_hold cX9_hold 4 (some .int) :: wA
def wsX9_lose : List Cond := .code yX9_lose cX9_lose 3 (some .int) :: wA
def wsX9_isFull : List Cond := .code yX9_isFull cX9_isFull 2 (some .boolean) :: wA
def wsX9_taken : List Cond := .code yX9_taken cX9_taken 4 (some .int) :: wA
def wsX9_common_ : List Cond := .code yX9_common_ cX9_common_ 4 (some .int) :: wA
def wsX9_row : List Cond := .code yX9_row cX9_row 4 (some .int) :: wA
def wsX9_rowless : List Cond := .code yX9_rowless cX9_rowless 2 (some .int) :: wA
def wsX9_set : List Cond := .code yX9_set cX9_set 4 (some .int) :: wA
def wsX9_get : List Cond := .code yX9_get cX9_get 3 (some .long) :: wA
def wsX9_judge : List Cond := .code yX9_judge cX9_judge 3 (some .int) :: wA
def wsX9_image : List Cond := .code yX9_image cX9_image 1 (some .int) :: wA
def wsX9_restore : List Cond := .code yX9_restore cX9_restore 1 (some .int) :: wA
def wsX9_count : List Cond := .code yX9_count cX9_count 2 (some .int) :: wA
def wsJ6_bitCount_0f7a4 : List Cond := .code yJ6_bitCount_0f7a4 cJ6_bitCount_0f7a4 1 (some .int) :: wA
def wsJ13_bitCount_95d88 : List Cond := .code yJ13_bitCount_95d88 cJ13_bitCount_95d88 2 (some .int) :: wA
def wsJ9_floorMod_f86c9 : List Cond := .code yJ9_floorMod_f86c9 cJ9_floorMod_f86c9 6 (some .long) :: wA
def wsJ9_abs_067f4 : List Cond := .code yJ9_abs_067f4 cJ9_abs_067f4 2 (some .long) :: wA
def wsJ9_max_7cf53 : List Cond := .code yJ9_max_7cf53 cJ9_max_7cf53 2 (some .int) :: wA
theorem mw_0 : (.code yX0_init cX0_init 2 none : Cond) ∈ wA := wA_t1 (List.mem_of_getElem? (i := 61) rfl) rfl
theorem mw_1 : (.methodLink RX0 1 objectInit : Cond) ∈ wA := wA_t1 (List.mem_of_getElem? (i := 62) rfl) rfl
theorem mw_2 : (.instanceMethod objectInit : Cond) ∈ wA := wA_t1 (List.mem_of_getElem? (i := 20) rfl) rfl
theorem mw_3 : (.code objectInit ⟨#[0xb1]⟩ 1 none : Cond) ∈ wA := wA_t1 (List.mem_of_getElem? (i := 21) rfl) rfl
theorem mw_4 : (.classLink RX0 9 RX1 : Cond) ∈ wA := wA_t1 (List.mem_of_getElem? (i := 63) rfl) rfl
theorem mw_5 : (.fieldLink RX0 11 "MarkedCurves$Deeds" "desks" "[LMarkedCurves$Desk;" : Cond) ∈ wA := wA_t1 (List.mem_of_getElem? (i := 66) rfl) rfl
theorem mw_6 : (.instantiable RX1 5 : Cond) ∈ wA := wA_t1 (List.mem_of_getElem? (i := 23) rfl) rfl
theorem mw_7 : (.initialized RX1 : Cond) ∈ wA := wA_t1 (List.mem_of_getElem? (i := 2) rfl) rfl
theorem mw_8 : (.methodLink RX0 15 yX1_init : Cond) ∈ wA := wA_t1 (List.mem_of_getElem? (i := 65) rfl) rfl
theorem mw_9 : (.instanceMethod yX1_init : Cond) ∈ wA := wA_t1 (List.mem_of_getElem? (i := 25) rfl) rfl
theorem mw_10 : (.code yX1_init cX1_init 1 none : Cond) ∈ wA := wA_t1 (List.mem_of_getElem? (i := 26) rfl) rfl
theorem mw_11 : (.methodLink RX1 3 objectInit : Cond) ∈ wA := wA_t1 (List.mem_of_getElem? (i := 27) rfl) rfl
theorem mw_12 : (.arrayClass .int : Cond) ∈ wA := wA_t1 (List.mem_of_getElem? (i := 56) rfl) rfl
theorem mw_13 : (.fieldLink RX1 9 "MarkedCurves$Desk" "powers" "[I" : Cond) ∈ wA := wA_t1 (List.mem_of_getElem? (i := 36) rfl) rfl
theorem mw_14 : (.fieldLink RX1 15 "MarkedCurves$Desk" "limit" "I" : Cond) ∈ wA := wA_t1 (List.mem_of_getElem? (i := 37) rfl) rfl
theorem mw_15 : (.code yX0_undoable cX0_undoable 1 (some .int) : Cond) ∈ wA := wA_t3 (List.mem_of_getElem? (i := 83) rfl) rfl
theorem mw_16 : (.fieldLink RX0 16 "MarkedCurves$Deeds" "now" "I" : Cond) ∈ wA := wA_t1 (List.mem_of_getElem? (i := 67) rfl) rfl
theorem mw_17 : (.code yX0_repeatable cX0_repeatable 1 (some .int) : Cond) ∈ wA := wA_t3 (List.mem_of_getElem? (i := 95) rfl) rfl
theorem mw_18 : (.fieldLink RX0 20 "MarkedCurves$Deeds" "last" "I" : Cond) ∈ wA := wA_t1 (List.mem_of_getElem? (i := 68) rfl) rfl
theorem mw_19 : (.code yX0_present cX0_present 1 (some (.object "MarkedCurves$Desk")) : Cond) ∈ wA := wA_t1 (List.mem_of_getElem? (i := 232) rfl) rfl
theorem mw_20 : (.code yX0_settle cX0_settle 2 none : Cond) ∈ wA := wA_t1 (List.mem_of_getElem? (i := 228) rfl) rfl
theorem mw_21 : (.methodLink RX0 23 yX0_present : Cond) ∈ wA := wA_t1 (List.mem_of_getElem? (i := 229) rfl) rfl
theorem mw_22 : (.instanceMethod yX0_present : Cond) ∈ wA := wA_t1 (List.mem_of_getElem? (i := 230) rfl) rfl
theorem mw_23 : (.selects RX0 yX0_present yX0_present : Cond) ∈ wA := wA_t1 (List.mem_of_getElem? (i := 231) rfl) rfl
theorem mw_24 : (.initialized RX0 : Cond) ∈ wA := wA_t1 (List.mem_of_getElem? (i := 3) rfl) rfl
theorem mw_25 : (.methodLink RX0 27 yX1_isLike : Cond) ∈ wA := wA_t1 (List.mem_of_getElem? (i := 233) rfl) rfl
theorem mw_26 : (.instanceMethod yX1_isLike : Cond) ∈ wA := wA_t1 (List.mem_of_getElem? (i := 234) rfl) rfl
theorem mw_27 : (.selects RX1 yX1_isLike yX1_isLike : Cond) ∈ wA := wA_t1 (List.mem_of_getElem? (i := 235) rfl) rfl
theorem mw_28 : (.code yX1_isLike cX1_isLike 2 (some .boolean) : Cond) ∈ wA := wA_t1 (List.mem_of_getElem? (i := 236) rfl) rfl
theorem mw_29 : (.fieldLink RX1 19 "MarkedCurves$Desk" "genus" "I" : Cond) ∈ wA := wA_t1 (List.mem_of_getElem? (i := 28) rfl) rfl
theorem mw_30 : (.fieldLink RX1 25 "MarkedCurves$Desk" "tree" "J" : Cond) ∈ wA := wA_t1 (List.mem_of_getElem? (i := 41) rfl) rfl
theorem mw_31 : (.fieldLink RX1 22 "MarkedCurves$Desk" "size" "I" : Cond) ∈ wA := wA_t1 (List.mem_of_getElem? (i := 32) rfl) rfl
theorem mw_32 : (.methodLink RX1 29 yX1_unlikePowers : Cond) ∈ wA := wA_t1 (List.mem_of_getElem? (i := 237) rfl) rfl
theorem mw_33 : (.instanceMethod yX1_unlikePowers : Cond) ∈ wA := wA_t1 (List.mem_of_getElem? (i := 238) rfl) rfl
theorem mw_34 : (.selects RX1 yX1_unlikePowers yX1_unlikePowers : Cond) ∈ wA := wA_t1 (List.mem_of_getElem? (i := 239) rfl) rfl
theorem mw_35 : (.code yX1_unlikePowers cX1_unlikePowers 4 (some .int) : Cond) ∈ wA := wA_t2 (List.mem_of_getElem? (i := 0) rfl) rfl
theorem mw_36 : (.methodLink RX1 33 yX1_powerAt : Cond) ∈ wA := wA_t2 (List.mem_of_getElem? (i := 1) rfl) rfl
theorem mw_37 : (.instanceMethod yX1_powerAt : Cond) ∈ wA := wA_t2 (List.mem_of_getElem? (i := 2) rfl) rfl
theorem mw_38 : (.selects RX1 yX1_powerAt yX1_powerAt : Cond) ∈ wA := wA_t2 (List.mem_of_getElem? (i := 3) rfl) rfl
theorem mw_39 : (.code yX1_powerAt cX1_powerAt 2 (some .int) : Cond) ∈ wA := wA_t2 (List.mem_of_getElem? (i := 4) rfl) rfl
theorem mw_40 : (.methodLink RX0 31 yX0_dropOldest : Cond) ∈ wA := wA_t2 (List.mem_of_getElem? (i := 5) rfl) rfl
theorem mw_41 : (.instanceMethod yX0_dropOldest : Cond) ∈ wA := wA_t2 (List.mem_of_getElem? (i := 7) rfl) rfl
theorem mw_42 : (.selects RX0 yX0_dropOldest yX0_dropOldest : Cond) ∈ wA := wA_p (List.mem_of_getElem? (i := 0) rfl) rfl
theorem mw_43 : (.code yX0_dropOldest cX0_dropOldest 3 none : Cond) ∈ wA := wA_t2 (List.mem_of_getElem? (i := 8) rfl) rfl
theorem mw_44 : (.methodLink RX0 34 yX1_copyFrom : Cond) ∈ wA := wA_t2 (List.mem_of_getElem? (i := 9) rfl) rfl
theorem mw_45 : (.instanceMethod yX1_copyFrom : Cond) ∈ wA := wA_t2 (List.mem_of_getElem? (i := 10) rfl) rfl
theorem mw_46 : (.selects RX1 yX1_copyFrom yX1_copyFrom : Cond) ∈ wA := wA_t2 (List.mem_of_getElem? (i := 11) rfl) rfl
theorem mw_47 : (.code yX1_copyFrom cX1_copyFrom 3 none : Cond) ∈ wA := wA_t2 (List.mem_of_getElem? (i := 12) rfl) rfl
theorem mw_48 : (.code yX0_stepBack cX0_stepBack 2 none : Cond) ∈ wA := wA_t3 (List.mem_of_getElem? (i := 87) rfl) rfl
theorem mw_49 : (.code yX0_stepOn cX0_stepOn 2 none : Cond) ∈ wA := wA_t3 (List.mem_of_getElem? (i := 99) rfl) rfl
theorem mw_50 : (.code yX0_startAnew cX0_startAnew 2 none : Cond) ∈ wA := wA_t4 (List.mem_of_getElem? (i := 88) rfl) rfl
theorem mw_51 : (.code yX1_hasMark cX1_hasMark 2 (some .boolean) : Cond) ∈ wA := wA_t2 (List.mem_of_getElem? (i := 35) rfl) rfl
theorem mw_52 : (.code yX1_setPower cX1_setPower 3 none : Cond) ∈ wA := wA_t2 (List.mem_of_getElem? (i := 27) rfl) rfl
theorem mw_53 : (.code yX1_addMark cX1_addMark 2 none : Cond) ∈ wA := wA_t2 (List.mem_of_getElem? (i := 23) rfl) rfl
theorem mw_54 : (.methodLink RX1 37 yX1_setPower : Cond) ∈ wA := wA_t2 (List.mem_of_getElem? (i := 24) rfl) rfl
theorem mw_55 : (.instanceMethod yX1_setPower : Cond) ∈ wA := wA_t2 (List.mem_of_getElem? (i := 25) rfl) rfl
theorem mw_56 : (.selects RX1 yX1_setPower yX1_setPower : Cond) ∈ wA := wA_t2 (List.mem_of_getElem? (i := 26) rfl) rfl
theorem mw_57 : (.code yX1_dropMark cX1_dropMark 3 none : Cond) ∈ wA := wA_t2 (List.mem_of_getElem? (i := 39) rfl) rfl
theorem mw_58 : (.code yX1_sortRising cX1_sortRising 3 none : Cond) ∈ wA := wA_t2 (List.mem_of_getElem? (i := 53) rfl) rfl
theorem mw_59 : (.methodLink RX1 41 yX1_swap : Cond) ∈ wA := wA_t2 (List.mem_of_getElem? (i := 54) rfl) rfl
theorem mw_60 : (.instanceMethod yX1_swap : Cond) ∈ wA := wA_t2 (List.mem_of_getElem? (i := 56) rfl) rfl
theorem mw_61 : (.selects RX1 yX1_swap yX1_swap : Cond) ∈ wA := wA_p (List.mem_of_getElem? (i := 1) rfl) rfl
theorem mw_62 : (.code yX1_swap cX1_swap 4 none : Cond) ∈ wA := wA_t2 (List.mem_of_getElem? (i := 57) rfl) rfl
theorem mw_63 : (.code yX1_turnAbout cX1_turnAbout 2 none : Cond) ∈ wA := wA_t2 (List.mem_of_getElem? (i := 61) rfl) rfl
theorem mw_64 : (.code yX1_putFirstLast cX1_putFirstLast 2 none : Cond) ∈ wA := wA_t2 (List.mem_of_getElem? (i := 65) rfl) rfl
theorem mw_65 : (.code yX2_init cX2_init 1 none : Cond) ∈ wA := wA_t1 (List.mem_of_getElem? (i := 168) rfl) rfl
theorem mw_66 : (.methodLink RX2 3 objectInit : Cond) ∈ wA := wA_t1 (List.mem_of_getElem? (i := 169) rfl) rfl
theorem mw_67 : (.fieldLink RX2 11 "MarkedCurves$Holder" "ints" "[I" : Cond) ∈ wA := wA_t1 (List.mem_of_getElem? (i := 176) rfl) rfl
theorem mw_68 : (.code yX2_holdNumber cX2_holdNumber 3 none : Cond) ∈ wA := wA_t4 (List.mem_of_getElem? (i := 6) rfl) rfl
theorem mw_69 : (.fieldLink RX2 15 "MarkedCurves$Holder" "sort" "I" : Cond) ∈ wA := wA_t1 (List.mem_of_getElem? (i := 170) rfl) rfl
theorem mw_70 : (.fieldLink RX2 19 "MarkedCurves$Holder" "above" "J" : Cond) ∈ wA := wA_t1 (List.mem_of_getElem? (i := 178) rfl) rfl
theorem mw_71 : (.code yX2_holdTree cX2_holdTree 4 none : Cond) ∈ wA := wA_t4 (List.mem_of_getElem? (i := 10) rfl) rfl
theorem mw_72 : (.fieldLink RX2 23 "MarkedCurves$Holder" "tree" "J" : Cond) ∈ wA := wA_t1 (List.mem_of_getElem? (i := 172) rfl) rfl
theorem mw_73 : (.fieldLink RX2 26 "MarkedCurves$Holder" "limit" "I" : Cond) ∈ wA := wA_t1 (List.mem_of_getElem? (i := 174) rfl) rfl
theorem mw_74 : (.code yX2_holdRow cX2_holdRow 3 none : Cond) ∈ wA := wA_t4 (List.mem_of_getElem? (i := 50) rfl) rfl
theorem mw_75 : (.fieldLink RX2 29 "MarkedCurves$Holder" "size" "I" : Cond) ∈ wA := wA_t1 (List.mem_of_getElem? (i := 179) rfl) rfl
theorem mw_76 : (.code yX2_hasPlace cX2_hasPlace 2 (some .boolean) : Cond) ∈ wA := wA_t4 (List.mem_of_getElem? (i := 58) rfl) rfl
theorem mw_77 : (.code yX2_isOfKind cX2_isOfKind 2 (some .boolean) : Cond) ∈ wA := wA_t4 (List.mem_of_getElem? (i := 22) rfl) rfl
theorem mw_78 : (.methodLink RX2 32 yX2_isFullTree : Cond) ∈ wA := wA_t4 (List.mem_of_getElem? (i := 23) rfl) rfl
theorem mw_79 : (.instanceMethod yX2_isFullTree : Cond) ∈ wA := wA_t4 (List.mem_of_getElem? (i := 25) rfl) rfl
theorem mw_80 : (.selects RX2 yX2_isFullTree yX2_isFullTree : Cond) ∈ wA := wA_p (List.mem_of_getElem? (i := 28) rfl) rfl
theorem mw_81 : (.initialized RX2 : Cond) ∈ wA := wA_t1 (List.mem_of_getElem? (i := 8) rfl) rfl
theorem mw_82 : (.code yX2_isFullTree cX2_isFullTree 1 (some .boolean) : Cond) ∈ wA := wA_t4 (List.mem_of_getElem? (i := 26) rfl) rfl
theorem mw_83 : (.methodLink RX2 44 yX6_sizeOf : Cond) ∈ wA := wA_t4 (List.mem_of_getElem? (i := 27) rfl) rfl
theorem mw_84 : (.static yX6_sizeOf : Cond) ∈ wA := wA_t2 (List.mem_of_getElem? (i := 214) rfl) rfl
theorem mw_85 : (.initialized RX6 : Cond) ∈ wA := wA_t1 (List.mem_of_getElem? (i := 11) rfl) rfl
theorem mw_86 : (.code yX6_sizeOf cX6_sizeOf 2 (some .int) : Cond) ∈ wA := wA_t2 (List.mem_of_getElem? (i := 215) rfl) rfl
theorem mw_87 : (.methodLink RX6 23 yJ13_bitCount_95d88 : Cond) ∈ wA := wA_t2 (List.mem_of_getElem? (i := 216) rfl) rfl
theorem mw_88 : (.static yJ13_bitCount_95d88 : Cond) ∈ wA := wA_t2 (List.mem_of_getElem? (i := 217) rfl) rfl
theorem mw_89 : (.initialized RJ13 : Cond) ∈ wA := wA_t1 (List.mem_of_getElem? (i := 13) rfl) rfl
theorem mw_90 : (.code yJ13_bitCount_95d88 cJ13_bitCount_95d88 2 (some .int) : Cond) ∈ wA := wA_t2 (List.mem_of_getElem? (i := 218) rfl) rfl
theorem mw_91 : (.constantLong RJ13 314 (6148914691236517205) : Cond) ∈ wA := wA_t2 (List.mem_of_getElem? (i := 219) rfl) rfl
theorem mw_92 : (.constantLong RJ13 316 (3689348814741910323) : Cond) ∈ wA := wA_t2 (List.mem_of_getElem? (i := 220) rfl) rfl
theorem mw_93 : (.constantLong RJ13 318 (1085102592571150095) : Cond) ∈ wA := wA_t2 (List.mem_of_getElem? (i := 221) rfl) rfl
theorem mw_94 : (.code yX2_takenFor cX2_takenFor 2 (some .int) : Cond) ∈ wA := wA_t4 (List.mem_of_getElem? (i := 31) rfl) rfl
theorem mw_95 : (.constantLong RX2 36 (1000003) : Cond) ∈ wA := wA_t4 (List.mem_of_getElem? (i := 32) rfl) rfl
theorem mw_96 : (.methodLink RX2 38 yJ9_floorMod_f86c9 : Cond) ∈ wA := wA_t4 (List.mem_of_getElem? (i := 33) rfl) rfl
theorem mw_97 : (.static yJ9_floorMod_f86c9 : Cond) ∈ wA := wA_t4 (List.mem_of_getElem? (i := 34) rfl) rfl
theorem mw_98 : (.initialized RJ9 : Cond) ∈ wA := wA_t1 (List.mem_of_getElem? (i := 10) rfl) rfl
theorem mw_99 : (.code yJ9_floorMod_f86c9 cJ9_floorMod_f86c9 6 (some .long) : Cond) ∈ wA := wA_t4 (List.mem_of_getElem? (i := 35) rfl) rfl
theorem mw_100 : (.code yX2_firstUnlike cX2_firstUnlike 6 (some .int) : Cond) ∈ wA := wA_t4 (List.mem_of_getElem? (i := 70) rfl) rfl
theorem mw_101 : (.methodLink RX2 50 Lib.Math.max.name : Cond) ∈ wA := wA_t4 (List.mem_of_getElem? (i := 71) rfl) rfl
theorem mw_102 : (.static Lib.Math.max.name : Cond) ∈ wA := wA_t4 (List.mem_of_getElem? (i := 72) rfl) rfl
theorem mw_103 : (.initialized "java/lang/Math" : Cond) ∈ wA := wA_t1 (List.mem_of_getElem? (i := 10) rfl) rfl
theorem mw_104 : (.code Lib.Math.max.name Lib.Math.max.code 2 (some .int) : Cond) ∈ wA := wA_t4 (List.mem_of_getElem? (i := 73) rfl) rfl
theorem mw_105 : (.methodLink RX2 54 yX2_hasPlace : Cond) ∈ wA := wA_t4 (List.mem_of_getElem? (i := 74) rfl) rfl
theorem mw_106 : (.instanceMethod yX2_hasPlace : Cond) ∈ wA := wA_t4 (List.mem_of_getElem? (i := 56) rfl) rfl
theorem mw_107 : (.selects RX2 yX2_hasPlace yX2_hasPlace : Cond) ∈ wA := wA_t4 (List.mem_of_getElem? (i := 57) rfl) rfl
theorem mw_108 : (.methodLink RX2 58 yX6_nth : Cond) ∈ wA := wA_t4 (List.mem_of_getElem? (i := 75) rfl) rfl
theorem mw_109 : (.static yX6_nth : Cond) ∈ wA := wA_t2 (List.mem_of_getElem? (i := 223) rfl) rfl
theorem mw_110 : (.code yX6_nth cX6_nth 6 (some .int) : Cond) ∈ wA := wA_t2 (List.mem_of_getElem? (i := 224) rfl) rfl
theorem mw_111 : (.code yX3_init cX3_init 1 none : Cond) ∈ wA := wA_t1 (List.mem_of_getElem? (i := 80) rfl) rfl
theorem mw_112 : (.methodLink RX3 5 objectInit : Cond) ∈ wA := wA_t1 (List.mem_of_getElem? (i := 81) rfl) rfl
theorem mw_113 : (.arrayClass .long : Cond) ∈ wA := wA_t1 (List.mem_of_getElem? (i := 104) rfl) rfl
theorem mw_114 : (.fieldLink RX3 11 "MarkedCurves$Numbers" "keys" "[J" : Cond) ∈ wA := wA_t1 (List.mem_of_getElem? (i := 82) rfl) rfl
theorem mw_115 : (.fieldLink RX3 15 "MarkedCurves$Numbers" "aboves" "[J" : Cond) ∈ wA := wA_t1 (List.mem_of_getElem? (i := 83) rfl) rfl
theorem mw_116 : (.fieldLink RX3 18 "MarkedCurves$Numbers" "rounds" "[I" : Cond) ∈ wA := wA_t1 (List.mem_of_getElem? (i := 84) rfl) rfl
theorem mw_117 : (.code yX3_lineOf cX3_lineOf 1 (some .long) : Cond) ∈ wA := wA_t2 (List.mem_of_getElem? (i := 144) rfl) rfl
theorem mw_118 : (.constantLong RX3 22 (24) : Cond) ∈ wA := wA_t2 (List.mem_of_getElem? (i := 145) rfl) rfl
theorem mw_119 : (.constantLong RX3 24 (5760) : Cond) ∈ wA := wA_t2 (List.mem_of_getElem? (i := 146) rfl) rfl
theorem mw_120 : (.code yX3_begin cX3_begin 1 none : Cond) ∈ wA := wA_t2 (List.mem_of_getElem? (i := 91) rfl) rfl
theorem mw_121 : (.fieldLink RX3 26 "MarkedCurves$Numbers" "size" "I" : Cond) ∈ wA := wA_t1 (List.mem_of_getElem? (i := 86) rfl) rfl
theorem mw_122 : (.fieldLink RX3 30 "MarkedCurves$Numbers" "sum" "I" : Cond) ∈ wA := wA_t1 (List.mem_of_getElem? (i := 87) rfl) rfl
theorem mw_123 : (.fieldLink RX3 33 "MarkedCurves$Numbers" "gathered" "J" : Cond) ∈ wA := wA_t1 (List.mem_of_getElem? (i := 88) rfl) rfl
theorem mw_124 : (.code yX3_add cX3_add 2 none : Cond) ∈ wA := wA_t2 (List.mem_of_getElem? (i := 95) rfl) rfl
theorem mw_125 : (.code yX3_keyFor cX3_keyFor 2 (some .long) : Cond) ∈ wA := wA_t2 (List.mem_of_getElem? (i := 99) rfl) rfl
theorem mw_126 : (.code yX3_ruleOf cX3_ruleOf 2 (some .int) : Cond) ∈ wA := wA_t2 (List.mem_of_getElem? (i := 115) rfl) rfl
theorem mw_127 : (.methodLink RX3 37 yX3_baseOf : Cond) ∈ wA := wA_t2 (List.mem_of_getElem? (i := 116) rfl) rfl
theorem mw_128 : (.static yX3_baseOf : Cond) ∈ wA := wA_t2 (List.mem_of_getElem? (i := 117) rfl) rfl
theorem mw_129 : (.initialized RX3 : Cond) ∈ wA := wA_t1 (List.mem_of_getElem? (i := 4) rfl) rfl
theorem mw_130 : (.code yX3_baseOf cX3_baseOf 2 (some .long) : Cond) ∈ wA := wA_t2 (List.mem_of_getElem? (i := 118) rfl) rfl
theorem mw_131 : (.constantLong RX3 45 (3) : Cond) ∈ wA := wA_t2 (List.mem_of_getElem? (i := 119) rfl) rfl
theorem mw_132 : (.constantLong RX3 47 (1152921504606846992) : Cond) ∈ wA := wA_t2 (List.mem_of_getElem? (i := 120) rfl) rfl
theorem mw_133 : (.constantLong RX3 49 (2305843009213759488) : Cond) ∈ wA := wA_t2 (List.mem_of_getElem? (i := 121) rfl) rfl
theorem mw_134 : (.constantLong RX3 51 (5) : Cond) ∈ wA := wA_t2 (List.mem_of_getElem? (i := 122) rfl) rfl
theorem mw_135 : (.constantLong RX3 53 (2305843009213698304) : Cond) ∈ wA := wA_t2 (List.mem_of_getElem? (i := 123) rfl) rfl
theorem mw_136 : (.constantLong RX3 55 (29) : Cond) ∈ wA := wA_t2 (List.mem_of_getElem? (i := 124) rfl) rfl
theorem mw_137 : (.constantLong RX3 57 (2305843009213694720) : Cond) ∈ wA := wA_t2 (List.mem_of_getElem? (i := 125) rfl) rfl
theorem mw_138 : (.constantLong RX3 59 (168) : Cond) ∈ wA := wA_t2 (List.mem_of_getElem? (i := 126) rfl) rfl
theorem mw_139 : (.methodLink RX3 41 yX3_timesThere : Cond) ∈ wA := wA_t2 (List.mem_of_getElem? (i := 127) rfl) rfl
theorem mw_140 : (.static yX3_timesThere : Cond) ∈ wA := wA_t2 (List.mem_of_getElem? (i := 128) rfl) rfl
theorem mw_141 : (.code yX3_timesThere cX3_timesThere 3 (some .int) : Cond) ∈ wA := wA_t2 (List.mem_of_getElem? (i := 129) rfl) rfl
theorem mw_142 : (.constantLong RX3 61 (15) : Cond) ∈ wA := wA_t2 (List.mem_of_getElem? (i := 130) rfl) rfl
theorem mw_143 : (.code yX3_nextKey cX3_nextKey 6 (some .long) : Cond) ∈ wA := wA_t2 (List.mem_of_getElem? (i := 133) rfl) rfl
theorem mw_144 : (.code yX3_weightOf cX3_weightOf 6 (some .long) : Cond) ∈ wA := wA_t2 (List.mem_of_getElem? (i := 136) rfl) rfl
theorem mw_145 : (.constantLong RX3 63 (2) : Cond) ∈ wA := wA_t2 (List.mem_of_getElem? (i := 137) rfl) rfl
theorem mw_146 : (.code yX3_aboveOf cX3_aboveOf 3 (some .long) : Cond) ∈ wA := wA_t2 (List.mem_of_getElem? (i := 103) rfl) rfl
theorem mw_147 : (.methodLink RX3 65 yX3_workOut : Cond) ∈ wA := wA_t2 (List.mem_of_getElem? (i := 104) rfl) rfl
theorem mw_148 : (.instanceMethod yX3_workOut : Cond) ∈ wA := wA_t2 (List.mem_of_getElem? (i := 106) rfl) rfl
theorem mw_149 : (.selects RX3 yX3_workOut yX3_workOut : Cond) ∈ wA := wA_p (List.mem_of_getElem? (i := 4) rfl) rfl
theorem mw_150 : (.code yX3_workOut cX3_workOut 11 (some .long) : Cond) ∈ wA := wA_t2 (List.mem_of_getElem? (i := 107) rfl) rfl
theorem mw_151 : (.methodLink RX3 69 yX3_slotOf : Cond) ∈ wA := wA_t2 (List.mem_of_getElem? (i := 108) rfl) rfl
theorem mw_152 : (.instanceMethod yX3_slotOf : Cond) ∈ wA := wA_t2 (List.mem_of_getElem? (i := 110) rfl) rfl
theorem mw_153 : (.selects RX3 yX3_slotOf yX3_slotOf : Cond) ∈ wA := wA_p (List.mem_of_getElem? (i := 5) rfl) rfl
theorem mw_154 : (.code yX3_slotOf cX3_slotOf 5 (some .int) : Cond) ∈ wA := wA_t2 (List.mem_of_getElem? (i := 111) rfl) rfl
theorem mw_155 : (.constantLong RX3 93 (-7046029254386353131) : Cond) ∈ wA := wA_t2 (List.mem_of_getElem? (i := 112) rfl) rfl
theorem mw_156 : (.methodLink RX3 73 yX3_ruleOf : Cond) ∈ wA := wA_t2 (List.mem_of_getElem? (i := 113) rfl) rfl
theorem mw_157 : (.static yX3_ruleOf : Cond) ∈ wA := wA_t2 (List.mem_of_getElem? (i := 114) rfl) rfl
theorem mw_158 : (.methodLink RX3 76 yX3_nextKey : Cond) ∈ wA := wA_t2 (List.mem_of_getElem? (i := 131) rfl) rfl
theorem mw_159 : (.static yX3_nextKey : Cond) ∈ wA := wA_t2 (List.mem_of_getElem? (i := 132) rfl) rfl
theorem mw_160 : (.methodLink RX3 80 yX3_weightOf : Cond) ∈ wA := wA_t2 (List.mem_of_getElem? (i := 134) rfl) rfl
theorem mw_161 : (.static yX3_weightOf : Cond) ∈ wA := wA_t2 (List.mem_of_getElem? (i := 135) rfl) rfl
theorem mw_162 : (.methodLink RX3 83 yX3_keep : Cond) ∈ wA := wA_t2 (List.mem_of_getElem? (i := 138) rfl) rfl
theorem mw_163 : (.instanceMethod yX3_keep : Cond) ∈ wA := wA_t2 (List.mem_of_getElem? (i := 140) rfl) rfl
theorem mw_164 : (.selects RX3 yX3_keep yX3_keep : Cond) ∈ wA := wA_p (List.mem_of_getElem? (i := 6) rfl) rfl
theorem mw_165 : (.code yX3_keep cX3_keep 6 none : Cond) ∈ wA := wA_t2 (List.mem_of_getElem? (i := 141) rfl) rfl
theorem mw_166 : (.code yX3_countMet cX3_countMet 3 (some .int) : Cond) ∈ wA := wA_t2 (List.mem_of_getElem? (i := 168) rfl) rfl
theorem mw_167 : (.fieldLink RX3 87 "MarkedCurves$Numbers" "round" "I" : Cond) ∈ wA := wA_t1 (List.mem_of_getElem? (i := 85) rfl) rfl
theorem mw_168 : (.methodLink RX3 90 yX3_meet : Cond) ∈ wA := wA_t2 (List.mem_of_getElem? (i := 169) rfl) rfl
theorem mw_169 : (.instanceMethod yX3_meet : Cond) ∈ wA := wA_t2 (List.mem_of_getElem? (i := 171) rfl) rfl
theorem mw_170 : (.selects RX3 yX3_meet yX3_meet : Cond) ∈ wA := wA_p (List.mem_of_getElem? (i := 7) rfl) rfl
theorem mw_171 : (.code yX3_meet cX3_meet 8 (some .int) : Cond) ∈ wA := wA_t2 (List.mem_of_getElem? (i := 172) rfl) rfl
theorem mw_172 : (.code yX4_init cX4_init 1 none : Cond) ∈ wA := wA_t1 (List.mem_of_getElem? (i := 109) rfl) rfl
theorem mw_173 : (.methodLink RX4 3 objectInit : Cond) ∈ wA := wA_t1 (List.mem_of_getElem? (i := 110) rfl) rfl
theorem mw_174 : (.classLink RX4 9 RX7 : Cond) ∈ wA := wA_t1 (List.mem_of_getElem? (i := 111) rfl) rfl
theorem mw_175 : (.instantiable RX7 2 : Cond) ∈ wA := wA_t1 (List.mem_of_getElem? (i := 112) rfl) rfl
theorem mw_176 : (.initialized RX7 : Cond) ∈ wA := wA_t1 (List.mem_of_getElem? (i := 6) rfl) rfl
theorem mw_177 : (.fieldLink RX4 12 "MarkedCurves$Reader" "tape" "LMarkedCurves$Tape;" : Cond) ∈ wA := wA_t1 (List.mem_of_getElem? (i := 128) rfl) rfl
theorem mw_178 : (.classLink RX4 18 RX1 : Cond) ∈ wA := wA_t1 (List.mem_of_getElem? (i := 126) rfl) rfl
theorem mw_179 : (.fieldLink RX4 21 "MarkedCurves$Reader" "told" "LMarkedCurves$Desk;" : Cond) ∈ wA := wA_t1 (List.mem_of_getElem? (i := 130) rfl) rfl
theorem mw_180 : (.fieldLink RX4 25 "MarkedCurves$Reader" "causes" "[I" : Cond) ∈ wA := wA_t1 (List.mem_of_getElem? (i := 131) rfl) rfl
theorem mw_181 : (.methodLink RX4 11 yX7_init : Cond) ∈ wA := wA_t1 (List.mem_of_getElem? (i := 113) rfl) rfl
theorem mw_182 : (.instanceMethod yX7_init : Cond) ∈ wA := wA_t1 (List.mem_of_getElem? (i := 114) rfl) rfl
theorem mw_183 : (.code yX7_init cX7_init 1 none : Cond) ∈ wA := wA_t1 (List.mem_of_getElem? (i := 115) rfl) rfl
theorem mw_184 : (.methodLink RX7 3 objectInit : Cond) ∈ wA := wA_t1 (List.mem_of_getElem? (i := 116) rfl) rfl
theorem mw_185 : (.fieldLink RX7 11 "MarkedCurves$Tape" "bytes" "[I" : Cond) ∈ wA := wA_t1 (List.mem_of_getElem? (i := 117) rfl) rfl
theorem mw_186 : (.methodLink RX4 20 yX1_init : Cond) ∈ wA := wA_t1 (List.mem_of_getElem? (i := 127) rfl) rfl
theorem mw_187 : (.code yX4_causeAt cX4_causeAt 4 (some .int) : Cond) ∈ wA := wA_t3 (List.mem_of_getElem? (i := 202) rfl) rfl
theorem mw_188 : (.code yX4_readOver cX4_readOver 2 (some .int) : Cond) ∈ wA := wA_t3 (List.mem_of_getElem? (i := 119) rfl) rfl
theorem mw_189 : (.fieldLink RX4 33 "MarkedCurves$Reader" "place" "I" : Cond) ∈ wA := wA_t1 (List.mem_of_getElem? (i := 134) rfl) rfl
theorem mw_190 : (.fieldLink RX4 37 "MarkedCurves$Reader" "cannotBe" "I" : Cond) ∈ wA := wA_t1 (List.mem_of_getElem? (i := 135) rfl) rfl
theorem mw_191 : (.fieldLink RX4 48 "MarkedCurves$Desk" "size" "I" : Cond) ∈ wA := wA_t1 (List.mem_of_getElem? (i := 35) rfl) rfl
theorem mw_192 : (.methodLink RX4 29 yX1_copyFrom : Cond) ∈ wA := wA_t3 (List.mem_of_getElem? (i := 120) rfl) rfl
theorem mw_193 : (.methodLink RX4 40 yX4_readText : Cond) ∈ wA := wA_t3 (List.mem_of_getElem? (i := 121) rfl) rfl
theorem mw_194 : (.instanceMethod yX4_readText : Cond) ∈ wA := wA_t3 (List.mem_of_getElem? (i := 123) rfl) rfl
theorem mw_195 : (.selects RX4 yX4_readText yX4_readText : Cond) ∈ wA := wA_p (List.mem_of_getElem? (i := 11) rfl) rfl
theorem mw_196 : (.initialized RX4 : Cond) ∈ wA := wA_t1 (List.mem_of_getElem? (i := 5) rfl) rfl
theorem mw_197 : (.code yX4_readText cX4_readText 1 (some .boolean) : Cond) ∈ wA := wA_t3 (List.mem_of_getElem? (i := 124) rfl) rfl
theorem mw_198 : (.fieldLink RX4 67 "MarkedCurves$Tape" "size" "I" : Cond) ∈ wA := wA_t1 (List.mem_of_getElem? (i := 119) rfl) rfl
theorem mw_199 : (.methodLink RX4 51 yX4_readGenus : Cond) ∈ wA := wA_t3 (List.mem_of_getElem? (i := 125) rfl) rfl
theorem mw_200 : (.instanceMethod yX4_readGenus : Cond) ∈ wA := wA_t3 (List.mem_of_getElem? (i := 127) rfl) rfl
theorem mw_201 : (.selects RX4 yX4_readGenus yX4_readGenus : Cond) ∈ wA := wA_p (List.mem_of_getElem? (i := 12) rfl) rfl
theorem mw_202 : (.code yX4_readGenus cX4_readGenus 1 (some .boolean) : Cond) ∈ wA := wA_t3 (List.mem_of_getElem? (i := 128) rfl) rfl
theorem mw_203 : (.fieldLink RX4 79 "MarkedCurves$Desk" "genus" "I" : Cond) ∈ wA := wA_t1 (List.mem_of_getElem? (i := 31) rfl) rfl
theorem mw_204 : (.methodLink RX4 72 yX7_isFigure : Cond) ∈ wA := wA_t3 (List.mem_of_getElem? (i := 129) rfl) rfl
theorem mw_205 : (.instanceMethod yX7_isFigure : Cond) ∈ wA := wA_t3 (List.mem_of_getElem? (i := 130) rfl) rfl
theorem mw_206 : (.selects RX7 yX7_isFigure yX7_isFigure : Cond) ∈ wA := wA_t3 (List.mem_of_getElem? (i := 131) rfl) rfl
theorem mw_207 : (.code yX7_isFigure cX7_isFigure 3 (some .boolean) : Cond) ∈ wA := wA_t3 (List.mem_of_getElem? (i := 132) rfl) rfl
theorem mw_208 : (.methodLink RX7 19 yX7_byteAt : Cond) ∈ wA := wA_t3 (List.mem_of_getElem? (i := 133) rfl) rfl
theorem mw_209 : (.instanceMethod yX7_byteAt : Cond) ∈ wA := wA_t3 (List.mem_of_getElem? (i := 134) rfl) rfl
theorem mw_210 : (.selects RX7 yX7_byteAt yX7_byteAt : Cond) ∈ wA := wA_t3 (List.mem_of_getElem? (i := 135) rfl) rfl
theorem mw_211 : (.code yX7_byteAt cX7_byteAt 2 (some .int) : Cond) ∈ wA := wA_t3 (List.mem_of_getElem? (i := 136) rfl) rfl
theorem mw_212 : (.fieldLink RX7 15 "MarkedCurves$Tape" "size" "I" : Cond) ∈ wA := wA_t1 (List.mem_of_getElem? (i := 118) rfl) rfl
theorem mw_213 : (.methodLink RX4 76 yX7_figureAt : Cond) ∈ wA := wA_t3 (List.mem_of_getElem? (i := 137) rfl) rfl
theorem mw_214 : (.instanceMethod yX7_figureAt : Cond) ∈ wA := wA_t3 (List.mem_of_getElem? (i := 138) rfl) rfl
theorem mw_215 : (.selects RX7 yX7_figureAt yX7_figureAt : Cond) ∈ wA := wA_t3 (List.mem_of_getElem? (i := 139) rfl) rfl
theorem mw_216 : (.code yX7_figureAt cX7_figureAt 2 (some .int) : Cond) ∈ wA := wA_t3 (List.mem_of_getElem? (i := 140) rfl) rfl
theorem mw_217 : (.methodLink RX4 82 yX4_noteCannotBe : Cond) ∈ wA := wA_t3 (List.mem_of_getElem? (i := 141) rfl) rfl
theorem mw_218 : (.instanceMethod yX4_noteCannotBe : Cond) ∈ wA := wA_t3 (List.mem_of_getElem? (i := 143) rfl) rfl
theorem mw_219 : (.selects RX4 yX4_noteCannotBe yX4_noteCannotBe : Cond) ∈ wA := wA_p (List.mem_of_getElem? (i := 13) rfl) rfl
theorem mw_220 : (.code yX4_noteCannotBe cX4_noteCannotBe 2 none : Cond) ∈ wA := wA_t3 (List.mem_of_getElem? (i := 144) rfl) rfl
theorem mw_221 : (.methodLink RX4 54 yX4_readSign : Cond) ∈ wA := wA_t3 (List.mem_of_getElem? (i := 145) rfl) rfl
theorem mw_222 : (.instanceMethod yX4_readSign : Cond) ∈ wA := wA_t3 (List.mem_of_getElem? (i := 147) rfl) rfl
theorem mw_223 : (.selects RX4 yX4_readSign yX4_readSign : Cond) ∈ wA := wA_p (List.mem_of_getElem? (i := 14) rfl) rfl
theorem mw_224 : (.code yX4_readSign cX4_readSign 2 (some .boolean) : Cond) ∈ wA := wA_t3 (List.mem_of_getElem? (i := 148) rfl) rfl
theorem mw_225 : (.methodLink RX4 68 yX7_byteAt : Cond) ∈ wA := wA_t3 (List.mem_of_getElem? (i := 149) rfl) rfl
theorem mw_226 : (.methodLink RX4 58 yX4_readMarks : Cond) ∈ wA := wA_t3 (List.mem_of_getElem? (i := 150) rfl) rfl
theorem mw_227 : (.instanceMethod yX4_readMarks : Cond) ∈ wA := wA_t3 (List.mem_of_getElem? (i := 152) rfl) rfl
theorem mw_228 : (.selects RX4 yX4_readMarks yX4_readMarks : Cond) ∈ wA := wA_p (List.mem_of_getElem? (i := 15) rfl) rfl
theorem mw_229 : (.code yX4_readMarks cX4_readMarks 3 (some .boolean) : Cond) ∈ wA := wA_t3 (List.mem_of_getElem? (i := 153) rfl) rfl
theorem mw_230 : (.methodLink RX4 86 yX4_readPower : Cond) ∈ wA := wA_t3 (List.mem_of_getElem? (i := 154) rfl) rfl
theorem mw_231 : (.instanceMethod yX4_readPower : Cond) ∈ wA := wA_t3 (List.mem_of_getElem? (i := 156) rfl) rfl
theorem mw_232 : (.selects RX4 yX4_readPower yX4_readPower : Cond) ∈ wA := wA_p (List.mem_of_getElem? (i := 16) rfl) rfl
theorem mw_233 : (.code yX4_readPower cX4_readPower 3 none : Cond) ∈ wA := wA_t3 (List.mem_of_getElem? (i := 157) rfl) rfl
theorem mw_234 : (.methodLink RX4 89 yX1_addMark : Cond) ∈ wA := wA_t3 (List.mem_of_getElem? (i := 158) rfl) rfl
theorem mw_235 : (.instanceMethod yX1_addMark : Cond) ∈ wA := wA_t2 (List.mem_of_getElem? (i := 21) rfl) rfl
theorem mw_236 : (.selects RX1 yX1_addMark yX1_addMark : Cond) ∈ wA := wA_t2 (List.mem_of_getElem? (i := 22) rfl) rfl
theorem mw_237 : (.methodLink RX4 61 yX4_readLeafCount : Cond) ∈ wA := wA_t3 (List.mem_of_getElem? (i := 159) rfl) rfl
theorem mw_238 : (.instanceMethod yX4_readLeafCount : Cond) ∈ wA := wA_t3 (List.mem_of_getElem? (i := 161) rfl) rfl
theorem mw_239 : (.selects RX4 yX4_readLeafCount yX4_readLeafCount : Cond) ∈ wA := wA_p (List.mem_of_getElem? (i := 17) rfl) rfl
theorem mw_240 : (.code yX4_readLeafCount cX4_readLeafCount 1 (some .boolean) : Cond) ∈ wA := wA_t3 (List.mem_of_getElem? (i := 162) rfl) rfl
theorem mw_241 : (.fieldLink RX4 92 "MarkedCurves$Desk" "limit" "I" : Cond) ∈ wA := wA_t1 (List.mem_of_getElem? (i := 39) rfl) rfl
theorem mw_242 : (.fieldLink RX4 95 "MarkedCurves$Desk" "tree" "J" : Cond) ∈ wA := wA_t1 (List.mem_of_getElem? (i := 43) rfl) rfl
theorem mw_243 : (.methodLink RX4 99 yX6_isLeafCount : Cond) ∈ wA := wA_t3 (List.mem_of_getElem? (i := 163) rfl) rfl
theorem mw_244 : (.static yX6_isLeafCount : Cond) ∈ wA := wA_t2 (List.mem_of_getElem? (i := 194) rfl) rfl
theorem mw_245 : (.code yX6_isLeafCount cX6_isLeafCount 1 (some .boolean) : Cond) ∈ wA := wA_t2 (List.mem_of_getElem? (i := 195) rfl) rfl
theorem mw_246 : (.methodLink RX4 64 yX4_readSplits : Cond) ∈ wA := wA_t3 (List.mem_of_getElem? (i := 164) rfl) rfl
theorem mw_247 : (.instanceMethod yX4_readSplits : Cond) ∈ wA := wA_t3 (List.mem_of_getElem? (i := 166) rfl) rfl
theorem mw_248 : (.selects RX4 yX4_readSplits yX4_readSplits : Cond) ∈ wA := wA_p (List.mem_of_getElem? (i := 18) rfl) rfl
theorem mw_249 : (.code yX4_readSplits cX4_readSplits 2 (some .boolean) : Cond) ∈ wA := wA_t3 (List.mem_of_getElem? (i := 167) rfl) rfl
theorem mw_250 : (.methodLink RX4 104 yX4_readSplit : Cond) ∈ wA := wA_t3 (List.mem_of_getElem? (i := 168) rfl) rfl
theorem mw_251 : (.instanceMethod yX4_readSplit : Cond) ∈ wA := wA_t3 (List.mem_of_getElem? (i := 170) rfl) rfl
theorem mw_252 : (.selects RX4 yX4_readSplit yX4_readSplit : Cond) ∈ wA := wA_p (List.mem_of_getElem? (i := 19) rfl) rfl
theorem mw_253 : (.code yX4_readSplit cX4_readSplit 5 (some .boolean) : Cond) ∈ wA := wA_t3 (List.mem_of_getElem? (i := 171) rfl) rfl
theorem mw_254 : (.methodLink RX4 107 yX6_isSplit : Cond) ∈ wA := wA_t3 (List.mem_of_getElem? (i := 172) rfl) rfl
theorem mw_255 : (.static yX6_isSplit : Cond) ∈ wA := wA_t2 (List.mem_of_getElem? (i := 201) rfl) rfl
theorem mw_256 : (.code yX6_isSplit cX6_isSplit 3 (some .boolean) : Cond) ∈ wA := wA_t2 (List.mem_of_getElem? (i := 202) rfl) rfl
theorem mw_257 : (.methodLink RX6 9 yX6_isLeafCount : Cond) ∈ wA := wA_t2 (List.mem_of_getElem? (i := 203) rfl) rfl
theorem mw_258 : (.methodLink RX6 15 yJ6_bitCount_0f7a4 : Cond) ∈ wA := wA_t2 (List.mem_of_getElem? (i := 204) rfl) rfl
theorem mw_259 : (.static yJ6_bitCount_0f7a4 : Cond) ∈ wA := wA_t2 (List.mem_of_getElem? (i := 205) rfl) rfl
theorem mw_260 : (.initialized RJ6 : Cond) ∈ wA := wA_t1 (List.mem_of_getElem? (i := 12) rfl) rfl
theorem mw_261 : (.code yJ6_bitCount_0f7a4 cJ6_bitCount_0f7a4 1 (some .int) : Cond) ∈ wA := wA_t2 (List.mem_of_getElem? (i := 206) rfl) rfl
theorem mw_262 : (.constant RJ6 265 (1431655765) : Cond) ∈ wA := wA_t2 (List.mem_of_getElem? (i := 207) rfl) rfl
theorem mw_263 : (.constant RJ6 266 (858993459) : Cond) ∈ wA := wA_t2 (List.mem_of_getElem? (i := 208) rfl) rfl
theorem mw_264 : (.constant RJ6 267 (252645135) : Cond) ∈ wA := wA_t2 (List.mem_of_getElem? (i := 209) rfl) rfl
theorem mw_265 : (.methodLink RX4 111 yX6_fits : Cond) ∈ wA := wA_t3 (List.mem_of_getElem? (i := 173) rfl) rfl
theorem mw_266 : (.static yX6_fits : Cond) ∈ wA := wA_t2 (List.mem_of_getElem? (i := 211) rfl) rfl
theorem mw_267 : (.code yX6_fits cX6_fits 6 (some .boolean) : Cond) ∈ wA := wA_t2 (List.mem_of_getElem? (i := 212) rfl) rfl
theorem mw_268 : (.methodLink RX6 28 yX6_sizeOf : Cond) ∈ wA := wA_t2 (List.mem_of_getElem? (i := 213) rfl) rfl
theorem mw_269 : (.methodLink RX6 31 yX6_nth : Cond) ∈ wA := wA_t2 (List.mem_of_getElem? (i := 222) rfl) rfl
theorem mw_270 : (.methodLink RX6 35 yX6_goTogether : Cond) ∈ wA := wA_t2 (List.mem_of_getElem? (i := 225) rfl) rfl
theorem mw_271 : (.static yX6_goTogether : Cond) ∈ wA := wA_t2 (List.mem_of_getElem? (i := 226) rfl) rfl
theorem mw_272 : (.code yX6_goTogether cX6_goTogether 3 (some .boolean) : Cond) ∈ wA := wA_t2 (List.mem_of_getElem? (i := 227) rfl) rfl
theorem mw_273 : (.methodLink RX4 115 yX6_with : Cond) ∈ wA := wA_t3 (List.mem_of_getElem? (i := 174) rfl) rfl
theorem mw_274 : (.static yX6_with : Cond) ∈ wA := wA_t2 (List.mem_of_getElem? (i := 229) rfl) rfl
theorem mw_275 : (.code yX6_with cX6_with 3 (some .long) : Cond) ∈ wA := wA_t2 (List.mem_of_getElem? (i := 230) rfl) rfl
theorem mw_276 : (.methodLink RX4 44 yX4_keepWhy : Cond) ∈ wA := wA_t3 (List.mem_of_getElem? (i := 175) rfl) rfl
theorem mw_277 : (.instanceMethod yX4_keepWhy : Cond) ∈ wA := wA_t3 (List.mem_of_getElem? (i := 177) rfl) rfl
theorem mw_278 : (.selects RX4 yX4_keepWhy yX4_keepWhy : Cond) ∈ wA := wA_p (List.mem_of_getElem? (i := 20) rfl) rfl
theorem mw_279 : (.code yX4_keepWhy cX4_keepWhy 3 none : Cond) ∈ wA := wA_t3 (List.mem_of_getElem? (i := 178) rfl) rfl
theorem mw_280 : (.fieldLink RX4 119 "MarkedCurves$Reader" "refused" "Z" : Cond) ∈ wA := wA_t1 (List.mem_of_getElem? (i := 132) rfl) rfl
theorem mw_281 : (.methodLink RX4 123 yX4_sortOf : Cond) ∈ wA := wA_t3 (List.mem_of_getElem? (i := 179) rfl) rfl
theorem mw_282 : (.instanceMethod yX4_sortOf : Cond) ∈ wA := wA_t3 (List.mem_of_getElem? (i := 181) rfl) rfl
theorem mw_283 : (.selects RX4 yX4_sortOf yX4_sortOf : Cond) ∈ wA := wA_p (List.mem_of_getElem? (i := 21) rfl) rfl
theorem mw_284 : (.code yX4_sortOf cX4_sortOf 3 (some .int) : Cond) ∈ wA := wA_t3 (List.mem_of_getElem? (i := 182) rfl) rfl
theorem mw_285 : (.methodLink RX4 130 yX7_firstOf : Cond) ∈ wA := wA_t3 (List.mem_of_getElem? (i := 183) rfl) rfl
theorem mw_286 : (.instanceMethod yX7_firstOf : Cond) ∈ wA := wA_t3 (List.mem_of_getElem? (i := 184) rfl) rfl
theorem mw_287 : (.selects RX7 yX7_firstOf yX7_firstOf : Cond) ∈ wA := wA_t3 (List.mem_of_getElem? (i := 185) rfl) rfl
theorem mw_288 : (.code yX7_firstOf cX7_firstOf 4 (some .int) : Cond) ∈ wA := wA_t3 (List.mem_of_getElem? (i := 186) rfl) rfl
theorem mw_289 : (.methodLink RX4 126 yX4_signsAhead : Cond) ∈ wA := wA_t3 (List.mem_of_getElem? (i := 187) rfl) rfl
theorem mw_290 : (.instanceMethod yX4_signsAhead : Cond) ∈ wA := wA_t3 (List.mem_of_getElem? (i := 189) rfl) rfl
theorem mw_291 : (.selects RX4 yX4_signsAhead yX4_signsAhead : Cond) ∈ wA := wA_p (List.mem_of_getElem? (i := 22) rfl) rfl
theorem mw_292 : (.code yX4_signsAhead cX4_signsAhead 3 (some .int) : Cond) ∈ wA := wA_t3 (List.mem_of_getElem? (i := 190) rfl) rfl
theorem mw_293 : (.methodLink RX4 134 yX7_timesAhead : Cond) ∈ wA := wA_t3 (List.mem_of_getElem? (i := 191) rfl) rfl
theorem mw_294 : (.instanceMethod yX7_timesAhead : Cond) ∈ wA := wA_t3 (List.mem_of_getElem? (i := 192) rfl) rfl
theorem mw_295 : (.selects RX7 yX7_timesAhead yX7_timesAhead : Cond) ∈ wA := wA_t3 (List.mem_of_getElem? (i := 193) rfl) rfl
theorem mw_296 : (.code yX7_timesAhead cX7_timesAhead 5 (some .int) : Cond) ∈ wA := wA_t3 (List.mem_of_getElem? (i := 194) rfl) rfl
theorem mw_297 : (.code yX5_init cX5_init 1 none : Cond) ∈ wA := wA_t1 (List.mem_of_getElem? (i := 153) rfl) rfl
theorem mw_298 : (.methodLink RX5 3 objectInit : Cond) ∈ wA := wA_t1 (List.mem_of_getElem? (i := 154) rfl) rfl
theorem mw_299 : (.fieldLink RX5 11 "MarkedCurves$Speller" "bytes" "[I" : Cond) ∈ wA := wA_t1 (List.mem_of_getElem? (i := 155) rfl) rfl
theorem mw_300 : (.code yX5_byteAt cX5_byteAt 2 (some .int) : Cond) ∈ wA := wA_t3 (List.mem_of_getElem? (i := 233) rfl) rfl
theorem mw_301 : (.fieldLink RX5 15 "MarkedCurves$Speller" "size" "I" : Cond) ∈ wA := wA_t1 (List.mem_of_getElem? (i := 156) rfl) rfl
theorem mw_302 : (.code yX5_tell cX5_tell 4 none : Cond) ∈ wA := wA_t3 (List.mem_of_getElem? (i := 210) rfl) rfl
theorem mw_303 : (.fieldLink RX5 19 "MarkedCurves$Desk" "genus" "I" : Cond) ∈ wA := wA_t1 (List.mem_of_getElem? (i := 30) rfl) rfl
theorem mw_304 : (.fieldLink RX5 31 "MarkedCurves$Desk" "size" "I" : Cond) ∈ wA := wA_t1 (List.mem_of_getElem? (i := 34) rfl) rfl
theorem mw_305 : (.fieldLink RX5 39 "MarkedCurves$Desk" "limit" "I" : Cond) ∈ wA := wA_t1 (List.mem_of_getElem? (i := 38) rfl) rfl
theorem mw_306 : (.fieldLink RX5 42 "MarkedCurves$Desk" "tree" "J" : Cond) ∈ wA := wA_t1 (List.mem_of_getElem? (i := 42) rfl) rfl
theorem mw_307 : (.methodLink RX5 24 yX5_addFigure : Cond) ∈ wA := wA_t3 (List.mem_of_getElem? (i := 211) rfl) rfl
theorem mw_308 : (.instanceMethod yX5_addFigure : Cond) ∈ wA := wA_t3 (List.mem_of_getElem? (i := 213) rfl) rfl
theorem mw_309 : (.selects RX5 yX5_addFigure yX5_addFigure : Cond) ∈ wA := wA_p (List.mem_of_getElem? (i := 23) rfl) rfl
theorem mw_310 : (.initialized RX5 : Cond) ∈ wA := wA_t1 (List.mem_of_getElem? (i := 7) rfl) rfl
theorem mw_311 : (.code yX5_addFigure cX5_addFigure 2 none : Cond) ∈ wA := wA_t3 (List.mem_of_getElem? (i := 214) rfl) rfl
theorem mw_312 : (.methodLink RX5 28 yX5_addByte : Cond) ∈ wA := wA_t3 (List.mem_of_getElem? (i := 215) rfl) rfl
theorem mw_313 : (.instanceMethod yX5_addByte : Cond) ∈ wA := wA_t3 (List.mem_of_getElem? (i := 217) rfl) rfl
theorem mw_314 : (.selects RX5 yX5_addByte yX5_addByte : Cond) ∈ wA := wA_p (List.mem_of_getElem? (i := 24) rfl) rfl
theorem mw_315 : (.code yX5_addByte cX5_addByte 2 none : Cond) ∈ wA := wA_t3 (List.mem_of_getElem? (i := 218) rfl) rfl
theorem mw_316 : (.methodLink RX5 32 yX1_powerAt : Cond) ∈ wA := wA_t3 (List.mem_of_getElem? (i := 219) rfl) rfl
theorem mw_317 : (.methodLink RX5 36 yX5_addPower : Cond) ∈ wA := wA_t3 (List.mem_of_getElem? (i := 220) rfl) rfl
theorem mw_318 : (.instanceMethod yX5_addPower : Cond) ∈ wA := wA_t3 (List.mem_of_getElem? (i := 222) rfl) rfl
theorem mw_319 : (.selects RX5 yX5_addPower yX5_addPower : Cond) ∈ wA := wA_p (List.mem_of_getElem? (i := 25) rfl) rfl
theorem mw_320 : (.code yX5_addPower cX5_addPower 2 none : Cond) ∈ wA := wA_t3 (List.mem_of_getElem? (i := 223) rfl) rfl
theorem mw_321 : (.methodLink RX5 46 yX6_sizeOf : Cond) ∈ wA := wA_t3 (List.mem_of_getElem? (i := 224) rfl) rfl
theorem mw_322 : (.methodLink RX5 52 yX6_nth : Cond) ∈ wA := wA_t3 (List.mem_of_getElem? (i := 225) rfl) rfl
theorem mw_323 : (.methodLink RX5 56 yX5_addSplit : Cond) ∈ wA := wA_t3 (List.mem_of_getElem? (i := 226) rfl) rfl
theorem mw_324 : (.instanceMethod yX5_addSplit : Cond) ∈ wA := wA_t3 (List.mem_of_getElem? (i := 228) rfl) rfl
theorem mw_325 : (.selects RX5 yX5_addSplit yX5_addSplit : Cond) ∈ wA := wA_p (List.mem_of_getElem? (i := 26) rfl) rfl
theorem mw_326 : (.code yX5_addSplit cX5_addSplit 3 none : Cond) ∈ wA := wA_t3 (List.mem_of_getElem? (i := 229) rfl) rfl
theorem mw_327 : (.code yX6_has cX6_has 3 (some .boolean) : Cond) ∈ wA := wA_t2 (List.mem_of_getElem? (i := 238) rfl) rfl
theorem mw_328 : (.code yX6_without cX6_without 3 (some .long) : Cond) ∈ wA := wA_t3 (List.mem_of_getElem? (i := 1) rfl) rfl
theorem mw_329 : (.constantLong RX6 21 (-1) : Cond) ∈ wA := wA_t3 (List.mem_of_getElem? (i := 2) rfl) rfl
theorem mw_330 : (.code yX6_isWithin cX6_isWithin 2 (some .boolean) : Cond) ∈ wA := wA_t3 (List.mem_of_getElem? (i := 27) rfl) rfl
theorem mw_331 : (.code yX6_under cX6_under 2 (some .int) : Cond) ∈ wA := wA_t3 (List.mem_of_getElem? (i := 18) rfl) rfl
theorem mw_332 : (.code yX6_lesserWithin cX6_lesserWithin 8 (some .long) : Cond) ∈ wA := wA_t3 (List.mem_of_getElem? (i := 24) rfl) rfl
theorem mw_333 : (.methodLink RX6 39 yX6_isWithin : Cond) ∈ wA := wA_t3 (List.mem_of_getElem? (i := 25) rfl) rfl
theorem mw_334 : (.static yX6_isWithin : Cond) ∈ wA := wA_t3 (List.mem_of_getElem? (i := 26) rfl) rfl
theorem mw_335 : (.methodLink RX6 42 yX6_with : Cond) ∈ wA := wA_t3 (List.mem_of_getElem? (i := 28) rfl) rfl
theorem mw_336 : (.code yX6_leavesAt cX6_leavesAt 8 (some .int) : Cond) ∈ wA := wA_t3 (List.mem_of_getElem? (i := 21) rfl) rfl
theorem mw_337 : (.methodLink RX6 46 yX6_lesserWithin : Cond) ∈ wA := wA_t3 (List.mem_of_getElem? (i := 22) rfl) rfl
theorem mw_338 : (.static yX6_lesserWithin : Cond) ∈ wA := wA_t3 (List.mem_of_getElem? (i := 23) rfl) rfl
theorem mw_339 : (.code yX6_edgesDown cX6_edgesDown 8 (some .int) : Cond) ∈ wA := wA_t3 (List.mem_of_getElem? (i := 32) rfl) rfl
theorem mw_340 : (.methodLink RX6 49 yX6_isOutermost : Cond) ∈ wA := wA_t3 (List.mem_of_getElem? (i := 33) rfl) rfl
theorem mw_341 : (.static yX6_isOutermost : Cond) ∈ wA := wA_t3 (List.mem_of_getElem? (i := 34) rfl) rfl
theorem mw_342 : (.code yX6_isOutermost cX6_isOutermost 6 (some .boolean) : Cond) ∈ wA := wA_t3 (List.mem_of_getElem? (i := 35) rfl) rfl
theorem mw_343 : (.code yX6_countTrees cX6_countTrees 2 (some .int) : Cond) ∈ wA := wA_t3 (List.mem_of_getElem? (i := 45) rfl) rfl
theorem mw_344 : (.methodLink RX6 53 yX6_countMore : Cond) ∈ wA := wA_t3 (List.mem_of_getElem? (i := 46) rfl) rfl
theorem mw_345 : (.static yX6_countMore : Cond) ∈ wA := wA_t3 (List.mem_of_getElem? (i := 47) rfl) rfl
theorem mw_346 : (.code yX6_countMore cX6_countMore 7 (some .int) : Cond) ∈ wA := wA_t3 (List.mem_of_getElem? (i := 48) rfl) rfl
theorem mw_347 : (.methodLink RX6 57 yX6_isSplit : Cond) ∈ wA := wA_t3 (List.mem_of_getElem? (i := 49) rfl) rfl
theorem mw_348 : (.methodLink RX6 60 yX6_fits : Cond) ∈ wA := wA_t3 (List.mem_of_getElem? (i := 50) rfl) rfl
theorem mw_349 : (.code yX6_treeAt cX6_treeAt 11 (some .long) : Cond) ∈ wA := wA_t3 (List.mem_of_getElem? (i := 57) rfl) rfl
theorem mw_350 : (.code yX6_forgetLeaf cX6_forgetLeaf 9 (some .long) : Cond) ∈ wA := wA_t3 (List.mem_of_getElem? (i := 64) rfl) rfl
theorem mw_351 : (.methodLink RX6 63 yX6_leftWithout : Cond) ∈ wA := wA_t3 (List.mem_of_getElem? (i := 65) rfl) rfl
theorem mw_352 : (.static yX6_leftWithout : Cond) ∈ wA := wA_t3 (List.mem_of_getElem? (i := 66) rfl) rfl
theorem mw_353 : (.code yX6_leftWithout cX6_leftWithout 7 (some .int) : Cond) ∈ wA := wA_t3 (List.mem_of_getElem? (i := 67) rfl) rfl
theorem mw_354 : (.code yX7_add cX7_add 2 none : Cond) ∈ wA := wA_t3 (List.mem_of_getElem? (i := 107) rfl) rfl
theorem mw_355 : (.code yX8_init cX8_init 2 none : Cond) ∈ wA := wA_t1 (List.mem_of_getElem? (i := 18) rfl) rfl
theorem mw_356 : (.methodLink RX8 3 objectInit : Cond) ∈ wA := wA_t1 (List.mem_of_getElem? (i := 19) rfl) rfl
theorem mw_357 : (.classLink RX8 9 RX1 : Cond) ∈ wA := wA_t1 (List.mem_of_getElem? (i := 22) rfl) rfl
theorem mw_358 : (.fieldLink RX8 12 "MarkedCurves" "desk" "LMarkedCurves$Desk;" : Cond) ∈ wA := wA_t1 (List.mem_of_getElem? (i := 193) rfl) rfl
theorem mw_359 : (.fieldLink RX8 18 "MarkedCurves" "imageDesk" "LMarkedCurves$Desk;" : Cond) ∈ wA := wA_t1 (List.mem_of_getElem? (i := 194) rfl) rfl
theorem mw_360 : (.classLink RX8 21 RX0 : Cond) ∈ wA := wA_t1 (List.mem_of_getElem? (i := 57) rfl) rfl
theorem mw_361 : (.instantiable RX0 3 : Cond) ∈ wA := wA_t1 (List.mem_of_getElem? (i := 58) rfl) rfl
theorem mw_362 : (.fieldLink RX8 24 "MarkedCurves" "deeds" "LMarkedCurves$Deeds;" : Cond) ∈ wA := wA_t1 (List.mem_of_getElem? (i := 195) rfl) rfl
theorem mw_363 : (.classLink RX8 28 RX3 : Cond) ∈ wA := wA_t1 (List.mem_of_getElem? (i := 76) rfl) rfl
theorem mw_364 : (.instantiable RX3 7 : Cond) ∈ wA := wA_t1 (List.mem_of_getElem? (i := 77) rfl) rfl
theorem mw_365 : (.fieldLink RX8 31 "MarkedCurves" "numbers" "LMarkedCurves$Numbers;" : Cond) ∈ wA := wA_t1 (List.mem_of_getElem? (i := 196) rfl) rfl
theorem mw_366 : (.classLink RX8 35 RX4 : Cond) ∈ wA := wA_t1 (List.mem_of_getElem? (i := 105) rfl) rfl
theorem mw_367 : (.instantiable RX4 6 : Cond) ∈ wA := wA_t1 (List.mem_of_getElem? (i := 106) rfl) rfl
theorem mw_368 : (.fieldLink RX8 38 "MarkedCurves" "reader" "LMarkedCurves$Reader;" : Cond) ∈ wA := wA_t1 (List.mem_of_getElem? (i := 198) rfl) rfl
theorem mw_369 : (.fieldLink RX8 42 "MarkedCurves$Reader" "tape" "LMarkedCurves$Tape;" : Cond) ∈ wA := wA_t1 (List.mem_of_getElem? (i := 129) rfl) rfl
theorem mw_370 : (.fieldLink RX8 46 "MarkedCurves" "tape" "LMarkedCurves$Tape;" : Cond) ∈ wA := wA_t1 (List.mem_of_getElem? (i := 197) rfl) rfl
theorem mw_371 : (.classLink RX8 47 RX5 : Cond) ∈ wA := wA_t1 (List.mem_of_getElem? (i := 149) rfl) rfl
theorem mw_372 : (.instantiable RX5 2 : Cond) ∈ wA := wA_t1 (List.mem_of_getElem? (i := 150) rfl) rfl
theorem mw_373 : (.fieldLink RX8 50 "MarkedCurves" "speller" "LMarkedCurves$Speller;" : Cond) ∈ wA := wA_t1 (List.mem_of_getElem? (i := 199) rfl) rfl
theorem mw_374 : (.classLink RX8 54 RX2 : Cond) ∈ wA := wA_t1 (List.mem_of_getElem? (i := 163) rfl) rfl
theorem mw_375 : (.fieldLink RX8 56 "MarkedCurves" "holders" "[LMarkedCurves$Holder;" : Cond) ∈ wA := wA_t1 (List.mem_of_getElem? (i := 200) rfl) rfl
theorem mw_376 : (.instantiable RX2 6 : Cond) ∈ wA := wA_t1 (List.mem_of_getElem? (i := 165) rfl) rfl
theorem mw_377 : (.methodLink RX8 11 yX1_init : Cond) ∈ wA := wA_t1 (List.mem_of_getElem? (i := 24) rfl) rfl
theorem mw_378 : (.methodLink RX8 23 yX0_init : Cond) ∈ wA := wA_t1 (List.mem_of_getElem? (i := 59) rfl) rfl
theorem mw_379 : (.instanceMethod yX0_init : Cond) ∈ wA := wA_t1 (List.mem_of_getElem? (i := 60) rfl) rfl
theorem mw_380 : (.methodLink RX8 30 yX3_init : Cond) ∈ wA := wA_t1 (List.mem_of_getElem? (i := 78) rfl) rfl
theorem mw_381 : (.instanceMethod yX3_init : Cond) ∈ wA := wA_t1 (List.mem_of_getElem? (i := 79) rfl) rfl
theorem mw_382 : (.methodLink RX8 37 yX4_init : Cond) ∈ wA := wA_t1 (List.mem_of_getElem? (i := 107) rfl) rfl
theorem mw_383 : (.instanceMethod yX4_init : Cond) ∈ wA := wA_t1 (List.mem_of_getElem? (i := 108) rfl) rfl
theorem mw_384 : (.methodLink RX8 49 yX5_init : Cond) ∈ wA := wA_t1 (List.mem_of_getElem? (i := 151) rfl) rfl
theorem mw_385 : (.instanceMethod yX5_init : Cond) ∈ wA := wA_t1 (List.mem_of_getElem? (i := 152) rfl) rfl
theorem mw_386 : (.methodLink RX8 60 yX2_init : Cond) ∈ wA := wA_t1 (List.mem_of_getElem? (i := 166) rfl) rfl
theorem mw_387 : (.instanceMethod yX2_init : Cond) ∈ wA := wA_t1 (List.mem_of_getElem? (i := 167) rfl) rfl
theorem mw_388 : (.code yX8_genus cX8_genus 3 (some .int) : Cond) ∈ wA := wA_t1 (List.mem_of_getElem? (i := 224) rfl) rfl
theorem mw_389 : (.fieldLink RX8 61 "MarkedCurves$Desk" "genus" "I" : Cond) ∈ wA := wA_t1 (List.mem_of_getElem? (i := 29) rfl) rfl
theorem mw_390 : (.methodLink RX8 65 yX0_settle : Cond) ∈ wA := wA_t1 (List.mem_of_getElem? (i := 225) rfl) rfl
theorem mw_391 : (.instanceMethod yX0_settle : Cond) ∈ wA := wA_t1 (List.mem_of_getElem? (i := 226) rfl) rfl
theorem mw_392 : (.selects RX0 yX0_settle yX0_settle : Cond) ∈ wA := wA_t1 (List.mem_of_getElem? (i := 227) rfl) rfl
theorem mw_393 : (.code yX8_mark cX8_mark 2 (some .int) : Cond) ∈ wA := wA_t2 (List.mem_of_getElem? (i := 16) rfl) rfl
theorem mw_394 : (.fieldLink RX8 73 "MarkedCurves$Desk" "size" "I" : Cond) ∈ wA := wA_t1 (List.mem_of_getElem? (i := 33) rfl) rfl
theorem mw_395 : (.methodLink RX8 69 yX8_isPower : Cond) ∈ wA := wA_t2 (List.mem_of_getElem? (i := 17) rfl) rfl
theorem mw_396 : (.static yX8_isPower : Cond) ∈ wA := wA_t2 (List.mem_of_getElem? (i := 18) rfl) rfl
theorem mw_397 : (.initialized RX8 : Cond) ∈ wA := wA_t1 (List.mem_of_getElem? (i := 1) rfl) rfl
theorem mw_398 : (.code yX8_isPower cX8_isPower 1 (some .boolean) : Cond) ∈ wA := wA_t2 (List.mem_of_getElem? (i := 19) rfl) rfl
theorem mw_399 : (.methodLink RX8 76 yX1_addMark : Cond) ∈ wA := wA_t2 (List.mem_of_getElem? (i := 20) rfl) rfl
theorem mw_400 : (.code yX8_take cX8_take 2 (some .int) : Cond) ∈ wA := wA_t2 (List.mem_of_getElem? (i := 31) rfl) rfl
theorem mw_401 : (.methodLink RX8 80 yX1_hasMark : Cond) ∈ wA := wA_t2 (List.mem_of_getElem? (i := 32) rfl) rfl
theorem mw_402 : (.instanceMethod yX1_hasMark : Cond) ∈ wA := wA_t2 (List.mem_of_getElem? (i := 33) rfl) rfl
theorem mw_403 : (.selects RX1 yX1_hasMark yX1_hasMark : Cond) ∈ wA := wA_t2 (List.mem_of_getElem? (i := 34) rfl) rfl
theorem mw_404 : (.methodLink RX8 83 yX1_dropMark : Cond) ∈ wA := wA_t2 (List.mem_of_getElem? (i := 36) rfl) rfl
theorem mw_405 : (.instanceMethod yX1_dropMark : Cond) ∈ wA := wA_t2 (List.mem_of_getElem? (i := 37) rfl) rfl
theorem mw_406 : (.selects RX1 yX1_dropMark yX1_dropMark : Cond) ∈ wA := wA_t2 (List.mem_of_getElem? (i := 38) rfl) rfl
theorem mw_407 : (.code yX8_change cX8_change 4 (some .int) : Cond) ∈ wA := wA_t2 (List.mem_of_getElem? (i := 43) rfl) rfl
theorem mw_408 : (.methodLink RX8 86 yX1_powerAt : Cond) ∈ wA := wA_t2 (List.mem_of_getElem? (i := 44) rfl) rfl
theorem mw_409 : (.methodLink RX8 90 yX1_setPower : Cond) ∈ wA := wA_t2 (List.mem_of_getElem? (i := 45) rfl) rfl
theorem mw_410 : (.code yX8_order cX8_order 3 (some .int) : Cond) ∈ wA := wA_t2 (List.mem_of_getElem? (i := 49) rfl) rfl
theorem mw_411 : (.methodLink RX8 94 yX1_sortRising : Cond) ∈ wA := wA_t2 (List.mem_of_getElem? (i := 50) rfl) rfl
theorem mw_412 : (.instanceMethod yX1_sortRising : Cond) ∈ wA := wA_t2 (List.mem_of_getElem? (i := 51) rfl) rfl
theorem mw_413 : (.selects RX1 yX1_sortRising yX1_sortRising : Cond) ∈ wA := wA_t2 (List.mem_of_getElem? (i := 52) rfl) rfl
theorem mw_414 : (.methodLink RX8 97 yX1_turnAbout : Cond) ∈ wA := wA_t2 (List.mem_of_getElem? (i := 58) rfl) rfl
theorem mw_415 : (.instanceMethod yX1_turnAbout : Cond) ∈ wA := wA_t2 (List.mem_of_getElem? (i := 59) rfl) rfl
theorem mw_416 : (.selects RX1 yX1_turnAbout yX1_turnAbout : Cond) ∈ wA := wA_t2 (List.mem_of_getElem? (i := 60) rfl) rfl
theorem mw_417 : (.methodLink RX8 100 yX1_putFirstLast : Cond) ∈ wA := wA_t2 (List.mem_of_getElem? (i := 62) rfl) rfl
theorem mw_418 : (.instanceMethod yX1_putFirstLast : Cond) ∈ wA := wA_t2 (List.mem_of_getElem? (i := 63) rfl) rfl
theorem mw_419 : (.selects RX1 yX1_putFirstLast yX1_putFirstLast : Cond) ∈ wA := wA_t2 (List.mem_of_getElem? (i := 64) rfl) rfl
theorem mw_420 : (.methodLink RX8 103 yX0_present : Cond) ∈ wA := wA_t2 (List.mem_of_getElem? (i := 66) rfl) rfl
theorem mw_421 : (.methodLink RX8 107 yX1_unlikePowers : Cond) ∈ wA := wA_t2 (List.mem_of_getElem? (i := 67) rfl) rfl
theorem mw_422 : (.code yX8_of cX8_of 2 (some .int) : Cond) ∈ wA := wA_t2 (List.mem_of_getElem? (i := 71) rfl) rfl
theorem mw_423 : (.code yX8_number cX8_number 2 (some .long) : Cond) ∈ wA := wA_t2 (List.mem_of_getElem? (i := 75) rfl) rfl
theorem mw_424 : (.constantLong RX8 114 (-9223372036854775808) : Cond) ∈ wA := wA_t2 (List.mem_of_getElem? (i := 79) rfl) rfl
theorem mw_425 : (.methodLink RX8 111 yX8_isPart : Cond) ∈ wA := wA_t2 (List.mem_of_getElem? (i := 76) rfl) rfl
theorem mw_426 : (.static yX8_isPart : Cond) ∈ wA := wA_t2 (List.mem_of_getElem? (i := 77) rfl) rfl
theorem mw_427 : (.code yX8_isPart cX8_isPart 1 (some .boolean) : Cond) ∈ wA := wA_t2 (List.mem_of_getElem? (i := 78) rfl) rfl
theorem mw_428 : (.methodLink RX8 116 yX8_aboveWith : Cond) ∈ wA := wA_t2 (List.mem_of_getElem? (i := 80) rfl) rfl
theorem mw_429 : (.instanceMethod yX8_aboveWith : Cond) ∈ wA := wA_t2 (List.mem_of_getElem? (i := 82) rfl) rfl
theorem mw_430 : (.selects RX8 yX8_aboveWith yX8_aboveWith : Cond) ∈ wA := wA_p (List.mem_of_getElem? (i := 2) rfl) rfl
theorem mw_431 : (.code yX8_aboveWith cX8_aboveWith 4 (some .long) : Cond) ∈ wA := wA_t2 (List.mem_of_getElem? (i := 83) rfl) rfl
theorem mw_432 : (.methodLink RX8 128 yX8_keyWith : Cond) ∈ wA := wA_t2 (List.mem_of_getElem? (i := 84) rfl) rfl
theorem mw_433 : (.instanceMethod yX8_keyWith : Cond) ∈ wA := wA_t2 (List.mem_of_getElem? (i := 86) rfl) rfl
theorem mw_434 : (.selects RX8 yX8_keyWith yX8_keyWith : Cond) ∈ wA := wA_p (List.mem_of_getElem? (i := 3) rfl) rfl
theorem mw_435 : (.code yX8_keyWith cX8_keyWith 5 (some .long) : Cond) ∈ wA := wA_t2 (List.mem_of_getElem? (i := 87) rfl) rfl
theorem mw_436 : (.methodLink RX8 304 yX3_begin : Cond) ∈ wA := wA_t2 (List.mem_of_getElem? (i := 88) rfl) rfl
theorem mw_437 : (.instanceMethod yX3_begin : Cond) ∈ wA := wA_t2 (List.mem_of_getElem? (i := 89) rfl) rfl
theorem mw_438 : (.selects RX3 yX3_begin yX3_begin : Cond) ∈ wA := wA_t2 (List.mem_of_getElem? (i := 90) rfl) rfl
theorem mw_439 : (.methodLink RX8 307 yX3_add : Cond) ∈ wA := wA_t2 (List.mem_of_getElem? (i := 92) rfl) rfl
theorem mw_440 : (.instanceMethod yX3_add : Cond) ∈ wA := wA_t2 (List.mem_of_getElem? (i := 93) rfl) rfl
theorem mw_441 : (.selects RX3 yX3_add yX3_add : Cond) ∈ wA := wA_t2 (List.mem_of_getElem? (i := 94) rfl) rfl
theorem mw_442 : (.methodLink RX8 308 yX3_keyFor : Cond) ∈ wA := wA_t2 (List.mem_of_getElem? (i := 96) rfl) rfl
theorem mw_443 : (.instanceMethod yX3_keyFor : Cond) ∈ wA := wA_t2 (List.mem_of_getElem? (i := 97) rfl) rfl
theorem mw_444 : (.selects RX3 yX3_keyFor yX3_keyFor : Cond) ∈ wA := wA_t2 (List.mem_of_getElem? (i := 98) rfl) rfl
theorem mw_445 : (.methodLink RX8 311 yX3_aboveOf : Cond) ∈ wA := wA_t2 (List.mem_of_getElem? (i := 100) rfl) rfl
theorem mw_446 : (.instanceMethod yX3_aboveOf : Cond) ∈ wA := wA_t2 (List.mem_of_getElem? (i := 101) rfl) rfl
theorem mw_447 : (.selects RX3 yX3_aboveOf yX3_aboveOf : Cond) ∈ wA := wA_t2 (List.mem_of_getElem? (i := 102) rfl) rfl
theorem mw_448 : (.methodLink RX8 120 yX3_lineOf : Cond) ∈ wA := wA_t2 (List.mem_of_getElem? (i := 142) rfl) rfl
theorem mw_449 : (.static yX3_lineOf : Cond) ∈ wA := wA_t2 (List.mem_of_getElem? (i := 143) rfl) rfl
theorem mw_450 : (.methodLink RX8 124 yX8_partOf : Cond) ∈ wA := wA_t2 (List.mem_of_getElem? (i := 147) rfl) rfl
theorem mw_451 : (.static yX8_partOf : Cond) ∈ wA := wA_t2 (List.mem_of_getElem? (i := 148) rfl) rfl
theorem mw_452 : (.code yX8_partOf cX8_partOf 7 (some .long) : Cond) ∈ wA := wA_t2 (List.mem_of_getElem? (i := 149) rfl) rfl
theorem mw_453 : (.methodLink RX8 317 Lib.MathLoose.abs_long.x : Cond) ∈ wA := wA_t2 (List.mem_of_getElem? (i := 150) rfl) rfl
theorem mw_454 : (.static Lib.MathLoose.abs_long.x : Cond) ∈ wA := wA_t2 (List.mem_of_getElem? (i := 151) rfl) rfl
theorem mw_455 : (.code Lib.MathLoose.abs_long.x Lib.MathLoose.abs_long.code 2 (some .long) : Cond) ∈ wA := wA_t2 (List.mem_of_getElem? (i := 152) rfl) rfl
theorem mw_456 : (.methodLink RX8 322 yX8_greatestDivisor : Cond) ∈ wA := wA_t2 (List.mem_of_getElem? (i := 153) rfl) rfl
theorem mw_457 : (.static yX8_greatestDivisor : Cond) ∈ wA := wA_t2 (List.mem_of_getElem? (i := 154) rfl) rfl
theorem mw_458 : (.code yX8_greatestDivisor cX8_greatestDivisor 11 (some .long) : Cond) ∈ wA := wA_t2 (List.mem_of_getElem? (i := 155) rfl) rfl
theorem mw_459 : (.code yX8_rule cX8_rule 1 (some .int) : Cond) ∈ wA := wA_t2 (List.mem_of_getElem? (i := 159) rfl) rfl
theorem mw_460 : (.methodLink RX8 131 yX3_ruleOf : Cond) ∈ wA := wA_t2 (List.mem_of_getElem? (i := 160) rfl) rfl
theorem mw_461 : (.code yX8_met cX8_met 1 (some .int) : Cond) ∈ wA := wA_t2 (List.mem_of_getElem? (i := 164) rfl) rfl
theorem mw_462 : (.methodLink RX8 135 yX3_countMet : Cond) ∈ wA := wA_t2 (List.mem_of_getElem? (i := 165) rfl) rfl
theorem mw_463 : (.instanceMethod yX3_countMet : Cond) ∈ wA := wA_t2 (List.mem_of_getElem? (i := 166) rfl) rfl
theorem mw_464 : (.selects RX3 yX3_countMet yX3_countMet : Cond) ∈ wA := wA_t2 (List.mem_of_getElem? (i := 167) rfl) rfl
theorem mw_465 : (.code yX8_kappa cX8_kappa 7 (some .long) : Cond) ∈ wA := wA_t2 (List.mem_of_getElem? (i := 176) rfl) rfl
theorem mw_466 : (.methodLink RX8 138 yX8_isKappa : Cond) ∈ wA := wA_t2 (List.mem_of_getElem? (i := 177) rfl) rfl
theorem mw_467 : (.static yX8_isKappa : Cond) ∈ wA := wA_t2 (List.mem_of_getElem? (i := 178) rfl) rfl
theorem mw_468 : (.code yX8_isKappa cX8_isKappa 1 (some .boolean) : Cond) ∈ wA := wA_t2 (List.mem_of_getElem? (i := 179) rfl) rfl
theorem mw_469 : (.methodLink RX8 141 yX8_kappaOfThree : Cond) ∈ wA := wA_t2 (List.mem_of_getElem? (i := 180) rfl) rfl
theorem mw_470 : (.instanceMethod yX8_kappaOfThree : Cond) ∈ wA := wA_t2 (List.mem_of_getElem? (i := 182) rfl) rfl
theorem mw_471 : (.selects RX8 yX8_kappaOfThree yX8_kappaOfThree : Cond) ∈ wA := wA_p (List.mem_of_getElem? (i := 8) rfl) rfl
theorem mw_472 : (.code yX8_kappaOfThree cX8_kappaOfThree 4 (some .long) : Cond) ∈ wA := wA_t2 (List.mem_of_getElem? (i := 183) rfl) rfl
theorem mw_473 : (.constantLong RX8 315 (2) : Cond) ∈ wA := wA_t2 (List.mem_of_getElem? (i := 188) rfl) rfl
theorem mw_474 : (.methodLink RX8 144 yX8_kappaOfTwo : Cond) ∈ wA := wA_t2 (List.mem_of_getElem? (i := 184) rfl) rfl
theorem mw_475 : (.instanceMethod yX8_kappaOfTwo : Cond) ∈ wA := wA_t2 (List.mem_of_getElem? (i := 186) rfl) rfl
theorem mw_476 : (.selects RX8 yX8_kappaOfTwo yX8_kappaOfTwo : Cond) ∈ wA := wA_p (List.mem_of_getElem? (i := 9) rfl) rfl
theorem mw_477 : (.code yX8_kappaOfTwo cX8_kappaOfTwo 3 (some .long) : Cond) ∈ wA := wA_t2 (List.mem_of_getElem? (i := 187) rfl) rfl
theorem mw_478 : (.code yX8_leaves cX8_leaves 3 (some .int) : Cond) ∈ wA := wA_t2 (List.mem_of_getElem? (i := 192) rfl) rfl
theorem mw_479 : (.fieldLink RX8 153 "MarkedCurves$Desk" "limit" "I" : Cond) ∈ wA := wA_t1 (List.mem_of_getElem? (i := 40) rfl) rfl
theorem mw_480 : (.fieldLink RX8 156 "MarkedCurves$Desk" "tree" "J" : Cond) ∈ wA := wA_t1 (List.mem_of_getElem? (i := 44) rfl) rfl
theorem mw_481 : (.methodLink RX8 148 yX6_isLeafCount : Cond) ∈ wA := wA_t2 (List.mem_of_getElem? (i := 193) rfl) rfl
theorem mw_482 : (.code yX8_split cX8_split 2 (some .int) : Cond) ∈ wA := wA_t2 (List.mem_of_getElem? (i := 199) rfl) rfl
theorem mw_483 : (.methodLink RX8 160 yX6_isSplit : Cond) ∈ wA := wA_t2 (List.mem_of_getElem? (i := 200) rfl) rfl
theorem mw_484 : (.methodLink RX8 164 yX6_fits : Cond) ∈ wA := wA_t2 (List.mem_of_getElem? (i := 210) rfl) rfl
theorem mw_485 : (.methodLink RX8 168 yX6_with : Cond) ∈ wA := wA_t2 (List.mem_of_getElem? (i := 228) rfl) rfl
theorem mw_486 : (.methodLink RX8 172 yX6_sizeOf : Cond) ∈ wA := wA_t2 (List.mem_of_getElem? (i := 231) rfl) rfl
theorem mw_487 : (.code yX8_join cX8_join 2 (some .int) : Cond) ∈ wA := wA_t2 (List.mem_of_getElem? (i := 235) rfl) rfl
theorem mw_488 : (.methodLink RX8 175 yX6_has : Cond) ∈ wA := wA_t2 (List.mem_of_getElem? (i := 236) rfl) rfl
theorem mw_489 : (.static yX6_has : Cond) ∈ wA := wA_t2 (List.mem_of_getElem? (i := 237) rfl) rfl
theorem mw_490 : (.methodLink RX8 178 yX6_without : Cond) ∈ wA := wA_t2 (List.mem_of_getElem? (i := 239) rfl) rfl
theorem mw_491 : (.static yX6_without : Cond) ∈ wA := wA_t3 (List.mem_of_getElem? (i := 0) rfl) rfl
theorem mw_492 : (.code yX8_splitAt cX8_splitAt 3 (some .int) : Cond) ∈ wA := wA_t3 (List.mem_of_getElem? (i := 6) rfl) rfl
theorem mw_493 : (.methodLink RX8 181 yX6_nth : Cond) ∈ wA := wA_t3 (List.mem_of_getElem? (i := 7) rfl) rfl
theorem mw_494 : (.code yX8_may cX8_may 2 (some .int) : Cond) ∈ wA := wA_t3 (List.mem_of_getElem? (i := 11) rfl) rfl
theorem mw_495 : (.code yX8_valence cX8_valence 4 (some .int) : Cond) ∈ wA := wA_t3 (List.mem_of_getElem? (i := 15) rfl) rfl
theorem mw_496 : (.methodLink RX8 185 yX6_under : Cond) ∈ wA := wA_t3 (List.mem_of_getElem? (i := 16) rfl) rfl
theorem mw_497 : (.static yX6_under : Cond) ∈ wA := wA_t3 (List.mem_of_getElem? (i := 17) rfl) rfl
theorem mw_498 : (.methodLink RX8 189 yX6_leavesAt : Cond) ∈ wA := wA_t3 (List.mem_of_getElem? (i := 19) rfl) rfl
theorem mw_499 : (.static yX6_leavesAt : Cond) ∈ wA := wA_t3 (List.mem_of_getElem? (i := 20) rfl) rfl
theorem mw_500 : (.methodLink RX8 192 yJ6_bitCount_0f7a4 : Cond) ∈ wA := wA_t3 (List.mem_of_getElem? (i := 29) rfl) rfl
theorem mw_501 : (.methodLink RX8 197 yX6_edgesDown : Cond) ∈ wA := wA_t3 (List.mem_of_getElem? (i := 30) rfl) rfl
theorem mw_502 : (.static yX6_edgesDown : Cond) ∈ wA := wA_t3 (List.mem_of_getElem? (i := 31) rfl) rfl
theorem mw_503 : (.code yX8_trees cX8_trees 3 (some .int) : Cond) ∈ wA := wA_t3 (List.mem_of_getElem? (i := 39) rfl) rfl
theorem mw_504 : (.methodLink RX8 200 yX8_isSplitCount : Cond) ∈ wA := wA_t3 (List.mem_of_getElem? (i := 40) rfl) rfl
theorem mw_505 : (.static yX8_isSplitCount : Cond) ∈ wA := wA_t3 (List.mem_of_getElem? (i := 41) rfl) rfl
theorem mw_506 : (.code yX8_isSplitCount cX8_isSplitCount 1 (some .boolean) : Cond) ∈ wA := wA_t3 (List.mem_of_getElem? (i := 42) rfl) rfl
theorem mw_507 : (.methodLink RX8 203 yX6_countTrees : Cond) ∈ wA := wA_t3 (List.mem_of_getElem? (i := 43) rfl) rfl
theorem mw_508 : (.static yX6_countTrees : Cond) ∈ wA := wA_t3 (List.mem_of_getElem? (i := 44) rfl) rfl
theorem mw_509 : (.code yX8_tree cX8_tree 6 (some .int) : Cond) ∈ wA := wA_t3 (List.mem_of_getElem? (i := 54) rfl) rfl
theorem mw_510 : (.methodLink RX8 206 yX6_treeAt : Cond) ∈ wA := wA_t3 (List.mem_of_getElem? (i := 55) rfl) rfl
theorem mw_511 : (.static yX6_treeAt : Cond) ∈ wA := wA_t3 (List.mem_of_getElem? (i := 56) rfl) rfl
theorem mw_512 : (.code yX8_forget cX8_forget 2 (some .int) : Cond) ∈ wA := wA_t3 (List.mem_of_getElem? (i := 61) rfl) rfl
theorem mw_513 : (.methodLink RX8 209 yX6_forgetLeaf : Cond) ∈ wA := wA_t3 (List.mem_of_getElem? (i := 62) rfl) rfl
theorem mw_514 : (.static yX6_forgetLeaf : Cond) ∈ wA := wA_t3 (List.mem_of_getElem? (i := 63) rfl) rfl
theorem mw_515 : (.code yX8_onTree cX8_onTree 5 (some .long) : Cond) ∈ wA := wA_t3 (List.mem_of_getElem? (i := 71) rfl) rfl
theorem mw_516 : (.methodLink RX8 213 yX8_numberOfNode : Cond) ∈ wA := wA_t3 (List.mem_of_getElem? (i := 72) rfl) rfl
theorem mw_517 : (.instanceMethod yX8_numberOfNode : Cond) ∈ wA := wA_t3 (List.mem_of_getElem? (i := 74) rfl) rfl
theorem mw_518 : (.selects RX8 yX8_numberOfNode yX8_numberOfNode : Cond) ∈ wA := wA_p (List.mem_of_getElem? (i := 10) rfl) rfl
theorem mw_519 : (.code yX8_numberOfNode cX8_numberOfNode 6 (some .long) : Cond) ∈ wA := wA_t3 (List.mem_of_getElem? (i := 75) rfl) rfl
theorem mw_520 : (.code yX8_undo cX8_undo 1 (some .int) : Cond) ∈ wA := wA_t3 (List.mem_of_getElem? (i := 79) rfl) rfl
theorem mw_521 : (.methodLink RX8 216 yX0_undoable : Cond) ∈ wA := wA_t3 (List.mem_of_getElem? (i := 80) rfl) rfl
theorem mw_522 : (.instanceMethod yX0_undoable : Cond) ∈ wA := wA_t3 (List.mem_of_getElem? (i := 81) rfl) rfl
theorem mw_523 : (.selects RX0 yX0_undoable yX0_undoable : Cond) ∈ wA := wA_t3 (List.mem_of_getElem? (i := 82) rfl) rfl
theorem mw_524 : (.methodLink RX8 220 yX0_stepBack : Cond) ∈ wA := wA_t3 (List.mem_of_getElem? (i := 84) rfl) rfl
theorem mw_525 : (.instanceMethod yX0_stepBack : Cond) ∈ wA := wA_t3 (List.mem_of_getElem? (i := 85) rfl) rfl
theorem mw_526 : (.selects RX0 yX0_stepBack yX0_stepBack : Cond) ∈ wA := wA_t3 (List.mem_of_getElem? (i := 86) rfl) rfl
theorem mw_527 : (.code yX8_again cX8_again 1 (some .int) : Cond) ∈ wA := wA_t3 (List.mem_of_getElem? (i := 91) rfl) rfl
theorem mw_528 : (.methodLink RX8 223 yX0_repeatable : Cond) ∈ wA := wA_t3 (List.mem_of_getElem? (i := 92) rfl) rfl
theorem mw_529 : (.instanceMethod yX0_repeatable : Cond) ∈ wA := wA_t3 (List.mem_of_getElem? (i := 93) rfl) rfl
theorem mw_530 : (.selects RX0 yX0_repeatable yX0_repeatable : Cond) ∈ wA := wA_t3 (List.mem_of_getElem? (i := 94) rfl) rfl
theorem mw_531 : (.methodLink RX8 226 yX0_stepOn : Cond) ∈ wA := wA_t3 (List.mem_of_getElem? (i := 96) rfl) rfl
theorem mw_532 : (.instanceMethod yX0_stepOn : Cond) ∈ wA := wA_t3 (List.mem_of_getElem? (i := 97) rfl) rfl
theorem mw_533 : (.selects RX0 yX0_stepOn yX0_stepOn : Cond) ∈ wA := wA_t3 (List.mem_of_getElem? (i := 98) rfl) rfl
theorem mw_534 : (.code yX8_feed cX8_feed 4 (some .int) : Cond) ∈ wA := wA_t3 (List.mem_of_getElem? (i := 103) rfl) rfl
theorem mw_535 : (.fieldLink RX8 229 "MarkedCurves$Tape" "size" "I" : Cond) ∈ wA := wA_t1 (List.mem_of_getElem? (i := 120) rfl) rfl
theorem mw_536 : (.methodLink RX8 232 yX7_add : Cond) ∈ wA := wA_t3 (List.mem_of_getElem? (i := 104) rfl) rfl
theorem mw_537 : (.instanceMethod yX7_add : Cond) ∈ wA := wA_t3 (List.mem_of_getElem? (i := 105) rfl) rfl
theorem mw_538 : (.selects RX7 yX7_add yX7_add : Cond) ∈ wA := wA_t3 (List.mem_of_getElem? (i := 106) rfl) rfl
theorem mw_539 : (.code yX8_wipe cX8_wipe 2 (some .int) : Cond) ∈ wA := wA_t3 (List.mem_of_getElem? (i := 111) rfl) rfl
theorem mw_540 : (.code yX8_read cX8_read 2 (some .int) : Cond) ∈ wA := wA_t3 (List.mem_of_getElem? (i := 115) rfl) rfl
theorem mw_541 : (.methodLink RX8 235 yX4_readOver : Cond) ∈ wA := wA_t3 (List.mem_of_getElem? (i := 116) rfl) rfl
theorem mw_542 : (.instanceMethod yX4_readOver : Cond) ∈ wA := wA_t3 (List.mem_of_getElem? (i := 117) rfl) rfl
theorem mw_543 : (.selects RX4 yX4_readOver yX4_readOver : Cond) ∈ wA := wA_t3 (List.mem_of_getElem? (i := 118) rfl) rfl
theorem mw_544 : (.code yX8_why cX8_why 3 (some .int) : Cond) ∈ wA := wA_t3 (List.mem_of_getElem? (i := 198) rfl) rfl
theorem mw_545 : (.fieldLink RX8 238 "MarkedCurves$Reader" "refused" "Z" : Cond) ∈ wA := wA_t1 (List.mem_of_getElem? (i := 133) rfl) rfl
theorem mw_546 : (.methodLink RX8 242 yX4_causeAt : Cond) ∈ wA := wA_t3 (List.mem_of_getElem? (i := 199) rfl) rfl
theorem mw_547 : (.instanceMethod yX4_causeAt : Cond) ∈ wA := wA_t3 (List.mem_of_getElem? (i := 200) rfl) rfl
theorem mw_548 : (.selects RX4 yX4_causeAt yX4_causeAt : Cond) ∈ wA := wA_t3 (List.mem_of_getElem? (i := 201) rfl) rfl
theorem mw_549 : (.code yX8_spell cX8_spell 2 (some .int) : Cond) ∈ wA := wA_t3 (List.mem_of_getElem? (i := 206) rfl) rfl
theorem mw_550 : (.fieldLink RX8 248 "MarkedCurves$Speller" "size" "I" : Cond) ∈ wA := wA_t1 (List.mem_of_getElem? (i := 157) rfl) rfl
theorem mw_551 : (.methodLink RX8 245 yX5_tell : Cond) ∈ wA := wA_t3 (List.mem_of_getElem? (i := 207) rfl) rfl
theorem mw_552 : (.instanceMethod yX5_tell : Cond) ∈ wA := wA_t3 (List.mem_of_getElem? (i := 208) rfl) rfl
theorem mw_553 : (.selects RX5 yX5_tell yX5_tell : Cond) ∈ wA := wA_t3 (List.mem_of_getElem? (i := 209) rfl) rfl
theorem mw_554 : (.methodLink RX8 249 yX5_byteAt : Cond) ∈ wA := wA_t3 (List.mem_of_getElem? (i := 230) rfl) rfl
theorem mw_555 : (.instanceMethod yX5_byteAt : Cond) ∈ wA := wA_t3 (List.mem_of_getElem? (i := 231) rfl) rfl
theorem mw_556 : (.selects RX5 yX5_byteAt yX5_byteAt : Cond) ∈ wA := wA_t3 (List.mem_of_getElem? (i := 232) rfl) rfl
theorem mw_557 : (.code yX8_hold cX8_hold 4 (some .int) : Cond) ∈ wA := wA_t3 (List.mem_of_getElem? (i := 237) rfl) rfl
theorem mw_558 : (.methodLink RX8 252 yX8_holderAt : Cond) ∈ wA := wA_t3 (List.mem_of_getElem? (i := 238) rfl) rfl
theorem mw_559 : (.instanceMethod yX8_holderAt : Cond) ∈ wA := wA_t4 (List.mem_of_getElem? (i := 0) rfl) rfl
theorem mw_560 : (.selects RX8 yX8_holderAt yX8_holderAt : Cond) ∈ wA := wA_p (List.mem_of_getElem? (i := 27) rfl) rfl
theorem mw_561 : (.code yX8_holderAt cX8_holderAt 2 (some (.object "MarkedCurves$Holder")) : Cond) ∈ wA := wA_t4 (List.mem_of_getElem? (i := 1) rfl) rfl
theorem mw_562 : (.methodLink RX8 256 yX8_number : Cond) ∈ wA := wA_t4 (List.mem_of_getElem? (i := 2) rfl) rfl
theorem mw_563 : (.instanceMethod yX8_number : Cond) ∈ wA := wA_t2 (List.mem_of_getElem? (i := 73) rfl) rfl
theorem mw_564 : (.selects RX8 yX8_number yX8_number : Cond) ∈ wA := wA_t2 (List.mem_of_getElem? (i := 74) rfl) rfl
theorem mw_565 : (.methodLink RX8 259 yX2_holdNumber : Cond) ∈ wA := wA_t4 (List.mem_of_getElem? (i := 3) rfl) rfl
theorem mw_566 : (.instanceMethod yX2_holdNumber : Cond) ∈ wA := wA_t4 (List.mem_of_getElem? (i := 4) rfl) rfl
theorem mw_567 : (.selects RX2 yX2_holdNumber yX2_holdNumber : Cond) ∈ wA := wA_t4 (List.mem_of_getElem? (i := 5) rfl) rfl
theorem mw_568 : (.methodLink RX8 263 yX2_holdTree : Cond) ∈ wA := wA_t4 (List.mem_of_getElem? (i := 7) rfl) rfl
theorem mw_569 : (.instanceMethod yX2_holdTree : Cond) ∈ wA := wA_t4 (List.mem_of_getElem? (i := 8) rfl) rfl
theorem mw_570 : (.selects RX2 yX2_holdTree yX2_holdTree : Cond) ∈ wA := wA_t4 (List.mem_of_getElem? (i := 9) rfl) rfl
theorem mw_571 : (.code yX8_lose cX8_lose 4 (some .int) : Cond) ∈ wA := wA_t4 (List.mem_of_getElem? (i := 14) rfl) rfl
theorem mw_572 : (.fieldLink RX8 267 "MarkedCurves$Holder" "sort" "I" : Cond) ∈ wA := wA_t1 (List.mem_of_getElem? (i := 171) rfl) rfl
theorem mw_573 : (.code yX8_taken cX8_taken 4 (some .int) : Cond) ∈ wA := wA_t4 (List.mem_of_getElem? (i := 18) rfl) rfl
theorem mw_574 : (.methodLink RX8 270 yX2_isOfKind : Cond) ∈ wA := wA_t4 (List.mem_of_getElem? (i := 19) rfl) rfl
theorem mw_575 : (.instanceMethod yX2_isOfKind : Cond) ∈ wA := wA_t4 (List.mem_of_getElem? (i := 20) rfl) rfl
theorem mw_576 : (.selects RX2 yX2_isOfKind yX2_isOfKind : Cond) ∈ wA := wA_t4 (List.mem_of_getElem? (i := 21) rfl) rfl
theorem mw_577 : (.methodLink RX8 273 yX2_takenFor : Cond) ∈ wA := wA_t4 (List.mem_of_getElem? (i := 28) rfl) rfl
theorem mw_578 : (.instanceMethod yX2_takenFor : Cond) ∈ wA := wA_t4 (List.mem_of_getElem? (i := 29) rfl) rfl
theorem mw_579 : (.selects RX2 yX2_takenFor yX2_takenFor : Cond) ∈ wA := wA_t4 (List.mem_of_getElem? (i := 30) rfl) rfl
theorem mw_580 : (.code yX8_common cX8_common 4 (some .int) : Cond) ∈ wA := wA_t4 (List.mem_of_getElem? (i := 39) rfl) rfl
theorem mw_581 : (.fieldLink RX8 280 "MarkedCurves$Holder" "limit" "I" : Cond) ∈ wA := wA_t1 (List.mem_of_getElem? (i := 175) rfl) rfl
theorem mw_582 : (.fieldLink RX8 281 "MarkedCurves$Holder" "tree" "J" : Cond) ∈ wA := wA_t1 (List.mem_of_getElem? (i := 173) rfl) rfl
theorem mw_583 : (.methodLink RX8 276 yX8_refusalOf : Cond) ∈ wA := wA_t4 (List.mem_of_getElem? (i := 40) rfl) rfl
theorem mw_584 : (.static yX8_refusalOf : Cond) ∈ wA := wA_t4 (List.mem_of_getElem? (i := 41) rfl) rfl
theorem mw_585 : (.code yX8_refusalOf cX8_refusalOf 2 (some .int) : Cond) ∈ wA := wA_t4 (List.mem_of_getElem? (i := 42) rfl) rfl
theorem mw_586 : (.code yX8_row cX8_row 4 (some .int) : Cond) ∈ wA := wA_t4 (List.mem_of_getElem? (i := 46) rfl) rfl
theorem mw_587 : (.methodLink RX8 282 yX2_holdRow : Cond) ∈ wA := wA_t4 (List.mem_of_getElem? (i := 47) rfl) rfl
theorem mw_588 : (.instanceMethod yX2_holdRow : Cond) ∈ wA := wA_t4 (List.mem_of_getElem? (i := 48) rfl) rfl
theorem mw_589 : (.selects RX2 yX2_holdRow yX2_holdRow : Cond) ∈ wA := wA_t4 (List.mem_of_getElem? (i := 49) rfl) rfl
theorem mw_590 : (.code yX8_set cX8_set 6 (some .int) : Cond) ∈ wA := wA_t4 (List.mem_of_getElem? (i := 54) rfl) rfl
theorem mw_591 : (.fieldLink RX8 288 "MarkedCurves$Holder" "ints" "[I" : Cond) ∈ wA := wA_t1 (List.mem_of_getElem? (i := 177) rfl) rfl
theorem mw_592 : (.methodLink RX8 285 yX2_hasPlace : Cond) ∈ wA := wA_t4 (List.mem_of_getElem? (i := 55) rfl) rfl
theorem mw_593 : (.code yX8_get cX8_get 4 (some .long) : Cond) ∈ wA := wA_t4 (List.mem_of_getElem? (i := 62) rfl) rfl
theorem mw_594 : (.code yX8_judge cX8_judge 5 (some .int) : Cond) ∈ wA := wA_t4 (List.mem_of_getElem? (i := 66) rfl) rfl
theorem mw_595 : (.methodLink RX8 292 yX2_firstUnlike : Cond) ∈ wA := wA_t4 (List.mem_of_getElem? (i := 67) rfl) rfl
theorem mw_596 : (.instanceMethod yX2_firstUnlike : Cond) ∈ wA := wA_t4 (List.mem_of_getElem? (i := 68) rfl) rfl
theorem mw_597 : (.selects RX2 yX2_firstUnlike yX2_firstUnlike : Cond) ∈ wA := wA_t4 (List.mem_of_getElem? (i := 69) rfl) rfl
theorem mw_598 : (.code yX8_image cX8_image 1 (some .int) : Cond) ∈ wA := wA_t4 (List.mem_of_getElem? (i := 79) rfl) rfl
theorem mw_599 : (.fieldLink RX8 298 "MarkedCurves" "imageKept" "Z" : Cond) ∈ wA := wA_t1 (List.mem_of_getElem? (i := 201) rfl) rfl
theorem mw_600 : (.methodLink RX8 295 yX1_copyFrom : Cond) ∈ wA := wA_t4 (List.mem_of_getElem? (i := 80) rfl) rfl
theorem mw_601 : (.code yX8_restore cX8_restore 1 (some .int) : Cond) ∈ wA := wA_t4 (List.mem_of_getElem? (i := 84) rfl) rfl
theorem mw_602 : (.methodLink RX8 301 yX0_startAnew : Cond) ∈ wA := wA_t4 (List.mem_of_getElem? (i := 85) rfl) rfl
theorem mw_603 : (.instanceMethod yX0_startAnew : Cond) ∈ wA := wA_t4 (List.mem_of_getElem? (i := 86) rfl) rfl
theorem mw_604 : (.selects RX0 yX0_startAnew yX0_startAnew : Cond) ∈ wA := wA_t4 (List.mem_of_getElem? (i := 87) rfl) rfl
theorem mw_605 : (.code yX8_count cX8_count 2 (some .int) : Cond) ∈ wA := wA_t4 (List.mem_of_getElem? (i := 92) rfl) rfl
theorem mw_606 : (.code yX9_init cX9_init 1 none : Cond) ∈ wA := wA_t4 (List.mem_of_getElem? (i := 97) rfl) rfl
theorem mw_607 : (.methodLink RX9 3 objectInit : Cond) ∈ wA := wA_t4 (List.mem_of_getElem? (i := 98) rfl) rfl
theorem mw_608 : (.fieldLink RX9 11 "MarkedCurvesModel" "powers" "[I" : Cond) ∈ wA := wA_t4 (List.mem_of_getElem? (i := 102) rfl) rfl
theorem mw_609 : (.fieldLink RX9 15 "MarkedCurvesModel" "leaves" "I" : Cond) ∈ wA := wA_t4 (List.mem_of_getElem? (i := 103) rfl) rfl
theorem mw_610 : (.fieldLink RX9 19 "MarkedCurvesModel" "tree" "[I" : Cond) ∈ wA := wA_t4 (List.mem_of_getElem? (i := 105) rfl) rfl
theorem mw_611 : (.fieldLink RX9 22 "MarkedCurvesModel" "ahead" "[I" : Cond) ∈ wA := wA_t4 (List.mem_of_getElem? (i := 106) rfl) rfl
theorem mw_612 : (.fieldLink RX9 25 "MarkedCurvesModel" "behind" "[I" : Cond) ∈ wA := wA_t4 (List.mem_of_getElem? (i := 107) rfl) rfl
theorem mw_613 : (.fieldLink RX9 28 "MarkedCurvesModel" "before" "[I" : Cond) ∈ wA := wA_t4 (List.mem_of_getElem? (i := 108) rfl) rfl
theorem mw_614 : (.fieldLink RX9 31 "MarkedCurvesModel" "rows" "[I" : Cond) ∈ wA := wA_t4 (List.mem_of_getElem? (i := 111) rfl) rfl
theorem mw_615 : (.constant RX9 34 (36000) : Cond) ∈ wA := wA_t4 (List.mem_of_getElem? (i := 99) rfl) rfl
theorem mw_616 : (.fieldLink RX9 35 "MarkedCurvesModel" "met" "[I" : Cond) ∈ wA := wA_t4 (List.mem_of_getElem? (i := 112) rfl) rfl
theorem mw_617 : (.fieldLink RX9 38 "MarkedCurvesModel" "metSizes" "[I" : Cond) ∈ wA := wA_t4 (List.mem_of_getElem? (i := 113) rfl) rfl
theorem mw_618 : (.fieldLink RX9 41 "MarkedCurvesModel" "chosen" "[I" : Cond) ∈ wA := wA_t4 (List.mem_of_getElem? (i := 116) rfl) rfl
theorem mw_619 : (.fieldLink RX9 44 "MarkedCurvesModel" "tape" "[I" : Cond) ∈ wA := wA_t4 (List.mem_of_getElem? (i := 117) rfl) rfl
theorem mw_620 : (.fieldLink RX9 47 "MarkedCurvesModel" "toldPowers" "[I" : Cond) ∈ wA := wA_t4 (List.mem_of_getElem? (i := 123) rfl) rfl
theorem mw_621 : (.fieldLink RX9 50 "MarkedCurvesModel" "powerPlaces" "[I" : Cond) ∈ wA := wA_t4 (List.mem_of_getElem? (i := 124) rfl) rfl
theorem mw_622 : (.fieldLink RX9 53 "MarkedCurvesModel" "toldTree" "[I" : Cond) ∈ wA := wA_t4 (List.mem_of_getElem? (i := 129) rfl) rfl
theorem mw_623 : (.fieldLink RX9 56 "MarkedCurvesModel" "splitPlaces" "[I" : Cond) ∈ wA := wA_t4 (List.mem_of_getElem? (i := 130) rfl) rfl
theorem mw_624 : (.fieldLink RX9 59 "MarkedCurvesModel" "layers" "[I" : Cond) ∈ wA := wA_t4 (List.mem_of_getElem? (i := 131) rfl) rfl
theorem mw_625 : (.fieldLink RX9 62 "MarkedCurvesModel" "paper" "[I" : Cond) ∈ wA := wA_t4 (List.mem_of_getElem? (i := 133) rfl) rfl
theorem mw_626 : (.fieldLink RX9 65 "MarkedCurvesModel" "held" "[I" : Cond) ∈ wA := wA_t4 (List.mem_of_getElem? (i := 135) rfl) rfl
theorem mw_627 : (.fieldLink RX9 68 "MarkedCurvesModel" "numbers" "[J" : Cond) ∈ wA := wA_t4 (List.mem_of_getElem? (i := 136) rfl) rfl
theorem mw_628 : (.fieldLink RX9 72 "MarkedCurvesModel" "sizes" "[I" : Cond) ∈ wA := wA_t4 (List.mem_of_getElem? (i := 137) rfl) rfl
theorem mw_629 : (.fieldLink RX9 75 "MarkedCurvesModel" "heldLeaves" "[I" : Cond) ∈ wA := wA_t4 (List.mem_of_getElem? (i := 138) rfl) rfl
theorem mw_630 : (.fieldLink RX9 78 "MarkedCurvesModel" "items" "[I" : Cond) ∈ wA := wA_t4 (List.mem_of_getElem? (i := 139) rfl) rfl
theorem mw_631 : (.fieldLink RX9 81 "MarkedCurvesModel" "kept" "[I" : Cond) ∈ wA := wA_t4 (List.mem_of_getElem? (i := 140) rfl) rfl
theorem mw_632 : (.code yX9_in cX9_in 6 (some .boolean) : Cond) ∈ wA := wA_t5 (List.mem_of_getElem? (i := 10) rfl) rfl
theorem mw_633 : (.code yX9_common cX9_common 10 (some .long) : Cond) ∈ wA := wA_t5 (List.mem_of_getElem? (i := 90) rfl) rfl
theorem mw_634 : (.code yX9_part cX9_part 7 (some .long) : Cond) ∈ wA := wA_t5 (List.mem_of_getElem? (i := 87) rfl) rfl
theorem mw_635 : (.methodLink RX9 84 yX9_common : Cond) ∈ wA := wA_t5 (List.mem_of_getElem? (i := 88) rfl) rfl
theorem mw_636 : (.static yX9_common : Cond) ∈ wA := wA_t5 (List.mem_of_getElem? (i := 89) rfl) rfl
theorem mw_637 : (.initialized RX9 : Cond) ∈ wA := wA_t1 (List.mem_of_getElem? (i := 9) rfl) rfl
theorem mw_638 : (.code yX9_bits cX9_bits 3 (some .int) : Cond) ∈ wA := wA_t5 (List.mem_of_getElem? (i := 139) rfl) rfl
theorem mw_639 : (.code yX9_lays cX9_lays 4 none : Cond) ∈ wA := wA_t4 (List.mem_of_getElem? (i := 234) rfl) rfl
theorem mw_640 : (.fieldLink RX9 88 "MarkedCurvesModel" "genus" "I" : Cond) ∈ wA := wA_t4 (List.mem_of_getElem? (i := 100) rfl) rfl
theorem mw_641 : (.fieldLink RX9 91 "MarkedCurvesModel" "marks" "I" : Cond) ∈ wA := wA_t4 (List.mem_of_getElem? (i := 101) rfl) rfl
theorem mw_642 : (.fieldLink RX9 94 "MarkedCurvesModel" "splits" "I" : Cond) ∈ wA := wA_t4 (List.mem_of_getElem? (i := 104) rfl) rfl
theorem mw_643 : (.code yX9_takes cX9_takes 4 none : Cond) ∈ wA := wA_t4 (List.mem_of_getElem? (i := 238) rfl) rfl
theorem mw_644 : (.code yX9_begins cX9_begins 1 none : Cond) ∈ wA := wA_t5 (List.mem_of_getElem? (i := 14) rfl) rfl
theorem mw_645 : (.methodLink RX9 97 yX9_lays : Cond) ∈ wA := wA_t4 (List.mem_of_getElem? (i := 231) rfl) rfl
theorem mw_646 : (.instanceMethod yX9_lays : Cond) ∈ wA := wA_t4 (List.mem_of_getElem? (i := 233) rfl) rfl
theorem mw_647 : (.selects RX9 yX9_lays yX9_lays : Cond) ∈ wA := wA_p (List.mem_of_getElem? (i := 29) rfl) rfl
theorem mw_648 : (.code yX9_ends cX9_ends 3 none : Cond) ∈ wA := wA_t5 (List.mem_of_getElem? (i := 18) rfl) rfl
theorem mw_649 : (.fieldLink RX9 101 "MarkedCurvesModel" "done" "I" : Cond) ∈ wA := wA_t4 (List.mem_of_getElem? (i := 109) rfl) rfl
theorem mw_650 : (.fieldLink RX9 104 "MarkedCurvesModel" "undone" "I" : Cond) ∈ wA := wA_t4 (List.mem_of_getElem? (i := 110) rfl) rfl
theorem mw_651 : (.code yX9_undo cX9_undo 1 (some .int) : Cond) ∈ wA := wA_t4 (List.mem_of_getElem? (i := 230) rfl) rfl
theorem mw_652 : (.methodLink RX9 107 yX9_takes : Cond) ∈ wA := wA_t4 (List.mem_of_getElem? (i := 235) rfl) rfl
theorem mw_653 : (.instanceMethod yX9_takes : Cond) ∈ wA := wA_t4 (List.mem_of_getElem? (i := 237) rfl) rfl
theorem mw_654 : (.selects RX9 yX9_takes yX9_takes : Cond) ∈ wA := wA_p (List.mem_of_getElem? (i := 30) rfl) rfl
theorem mw_655 : (.code yX9_again cX9_again 1 (some .int) : Cond) ∈ wA := wA_t5 (List.mem_of_getElem? (i := 2) rfl) rfl
theorem mw_656 : (.code yX9_isMark cX9_isMark 2 (some .boolean) : Cond) ∈ wA := wA_t5 (List.mem_of_getElem? (i := 31) rfl) rfl
theorem mw_657 : (.methodLink RX9 110 yX9_in : Cond) ∈ wA := wA_t5 (List.mem_of_getElem? (i := 8) rfl) rfl
theorem mw_658 : (.static yX9_in : Cond) ∈ wA := wA_t5 (List.mem_of_getElem? (i := 9) rfl) rfl
theorem mw_659 : (.code yX9_genus cX9_genus 3 (some .int) : Cond) ∈ wA := wA_t5 (List.mem_of_getElem? (i := 6) rfl) rfl
theorem mw_660 : (.constantLong RX9 114 (2) : Cond) ∈ wA := wA_t5 (List.mem_of_getElem? (i := 7) rfl) rfl
theorem mw_661 : (.methodLink RX9 116 yX9_begins : Cond) ∈ wA := wA_t5 (List.mem_of_getElem? (i := 11) rfl) rfl
theorem mw_662 : (.instanceMethod yX9_begins : Cond) ∈ wA := wA_t5 (List.mem_of_getElem? (i := 13) rfl) rfl
theorem mw_663 : (.selects RX9 yX9_begins yX9_begins : Cond) ∈ wA := wA_p (List.mem_of_getElem? (i := 31) rfl) rfl
theorem mw_664 : (.methodLink RX9 119 yX9_ends : Cond) ∈ wA := wA_t5 (List.mem_of_getElem? (i := 15) rfl) rfl
theorem mw_665 : (.instanceMethod yX9_ends : Cond) ∈ wA := wA_t5 (List.mem_of_getElem? (i := 17) rfl) rfl
theorem mw_666 : (.selects RX9 yX9_ends yX9_ends : Cond) ∈ wA := wA_p (List.mem_of_getElem? (i := 32) rfl) rfl
theorem mw_667 : (.code yX9_mark cX9_mark 2 (some .int) : Cond) ∈ wA := wA_t5 (List.mem_of_getElem? (i := 22) rfl) rfl
theorem mw_668 : (.constantLong RX9 122 (12) : Cond) ∈ wA := wA_t5 (List.mem_of_getElem? (i := 23) rfl) rfl
theorem mw_669 : (.code yX9_take cX9_take 3 (some .int) : Cond) ∈ wA := wA_t5 (List.mem_of_getElem? (i := 27) rfl) rfl
theorem mw_670 : (.methodLink RX9 124 yX9_isMark : Cond) ∈ wA := wA_t5 (List.mem_of_getElem? (i := 28) rfl) rfl
theorem mw_671 : (.instanceMethod yX9_isMark : Cond) ∈ wA := wA_t5 (List.mem_of_getElem? (i := 30) rfl) rfl
theorem mw_672 : (.selects RX9 yX9_isMark yX9_isMark : Cond) ∈ wA := wA_p (List.mem_of_getElem? (i := 33) rfl) rfl
theorem mw_673 : (.code yX9_change cX9_change 4 (some .int) : Cond) ∈ wA := wA_t5 (List.mem_of_getElem? (i := 35) rfl) rfl
theorem mw_674 : (.code yX9_sorts cX9_sorts 6 none : Cond) ∈ wA := wA_t5 (List.mem_of_getElem? (i := 43) rfl) rfl
theorem mw_675 : (.code yX9_order cX9_order 4 (some .int) : Cond) ∈ wA := wA_t5 (List.mem_of_getElem? (i := 39) rfl) rfl
theorem mw_676 : (.constantLong RX9 128 (3) : Cond) ∈ wA := wA_t5 (List.mem_of_getElem? (i := 40) rfl) rfl
theorem mw_677 : (.methodLink RX9 130 yX9_sorts : Cond) ∈ wA := wA_t5 (List.mem_of_getElem? (i := 41) rfl) rfl
theorem mw_678 : (.static yX9_sorts : Cond) ∈ wA := wA_t5 (List.mem_of_getElem? (i := 42) rfl) rfl
theorem mw_679 : (.code yX9_of cX9_of 2 (some .int) : Cond) ∈ wA := wA_t5 (List.mem_of_getElem? (i := 47) rfl) rfl
theorem mw_680 : (.code yX9_line cX9_line 1 (some .long) : Cond) ∈ wA := wA_t5 (List.mem_of_getElem? (i := 82) rfl) rfl
theorem mw_681 : (.constantLong RX9 134 (24) : Cond) ∈ wA := wA_t5 (List.mem_of_getElem? (i := 83) rfl) rfl
theorem mw_682 : (.constantLong RX9 136 (5760) : Cond) ∈ wA := wA_t5 (List.mem_of_getElem? (i := 84) rfl) rfl
theorem mw_683 : (.code yX9_isNothing cX9_isNothing 6 (some .boolean) : Cond) ∈ wA := wA_t5 (List.mem_of_getElem? (i := 62) rfl) rfl
theorem mw_684 : (.code yX9_often cX9_often 6 (some .int) : Cond) ∈ wA := wA_t5 (List.mem_of_getElem? (i := 72) rfl) rfl
theorem mw_685 : (.code yX9_base cX9_base 4 (some .long) : Cond) ∈ wA := wA_t5 (List.mem_of_getElem? (i := 69) rfl) rfl
theorem mw_686 : (.constantLong RX9 142 (-1) : Cond) ∈ wA := wA_t5 (List.mem_of_getElem? (i := 73) rfl) rfl
theorem mw_687 : (.constantLong RX9 144 (5) : Cond) ∈ wA := wA_t5 (List.mem_of_getElem? (i := 74) rfl) rfl
theorem mw_688 : (.constantLong RX9 146 (29) : Cond) ∈ wA := wA_t5 (List.mem_of_getElem? (i := 75) rfl) rfl
theorem mw_689 : (.constantLong RX9 148 (168) : Cond) ∈ wA := wA_t5 (List.mem_of_getElem? (i := 76) rfl) rfl
theorem mw_690 : (.methodLink RX9 138 yX9_often : Cond) ∈ wA := wA_t5 (List.mem_of_getElem? (i := 70) rfl) rfl
theorem mw_691 : (.static yX9_often : Cond) ∈ wA := wA_t5 (List.mem_of_getElem? (i := 71) rfl) rfl
theorem mw_692 : (.code yX9_leaves cX9_leaves 11 none : Cond) ∈ wA := wA_t5 (List.mem_of_getElem? (i := 79) rfl) rfl
theorem mw_693 : (.code yX9_numberAt cX9_numberAt 11 (some .long) : Cond) ∈ wA := wA_t5 (List.mem_of_getElem? (i := 66) rfl) rfl
theorem mw_694 : (.methodLink RX9 150 yX9_base : Cond) ∈ wA := wA_t5 (List.mem_of_getElem? (i := 67) rfl) rfl
theorem mw_695 : (.static yX9_base : Cond) ∈ wA := wA_t5 (List.mem_of_getElem? (i := 68) rfl) rfl
theorem mw_696 : (.methodLink RX9 154 yX9_leaves : Cond) ∈ wA := wA_t5 (List.mem_of_getElem? (i := 77) rfl) rfl
theorem mw_697 : (.static yX9_leaves : Cond) ∈ wA := wA_t5 (List.mem_of_getElem? (i := 78) rfl) rfl
theorem mw_698 : (.methodLink RX9 157 yX9_numberAt : Cond) ∈ wA := wA_t5 (List.mem_of_getElem? (i := 63) rfl) rfl
theorem mw_699 : (.instanceMethod yX9_numberAt : Cond) ∈ wA := wA_t5 (List.mem_of_getElem? (i := 65) rfl) rfl
theorem mw_700 : (.selects RX9 yX9_numberAt yX9_numberAt : Cond) ∈ wA := wA_p (List.mem_of_getElem? (i := 36) rfl) rfl
theorem mw_701 : (.code yX9_numberOf cX9_numberOf 3 (some .long) : Cond) ∈ wA := wA_t5 (List.mem_of_getElem? (i := 59) rfl) rfl
theorem mw_702 : (.methodLink RX9 161 yX9_isNothing : Cond) ∈ wA := wA_t5 (List.mem_of_getElem? (i := 60) rfl) rfl
theorem mw_703 : (.static yX9_isNothing : Cond) ∈ wA := wA_t5 (List.mem_of_getElem? (i := 61) rfl) rfl
theorem mw_704 : (.code yX9_numberOfMarks cX9_numberOfMarks 2 (some .long) : Cond) ∈ wA := wA_t5 (List.mem_of_getElem? (i := 55) rfl) rfl
theorem mw_705 : (.methodLink RX9 165 yX9_numberOf : Cond) ∈ wA := wA_t5 (List.mem_of_getElem? (i := 56) rfl) rfl
theorem mw_706 : (.instanceMethod yX9_numberOf : Cond) ∈ wA := wA_t5 (List.mem_of_getElem? (i := 58) rfl) rfl
theorem mw_707 : (.selects RX9 yX9_numberOf yX9_numberOf : Cond) ∈ wA := wA_p (List.mem_of_getElem? (i := 35) rfl) rfl
theorem mw_708 : (.code yX9_number cX9_number 2 (some .long) : Cond) ∈ wA := wA_t5 (List.mem_of_getElem? (i := 51) rfl) rfl
theorem mw_709 : (.constantLong RX9 181 (-9223372036854775808) : Cond) ∈ wA := wA_t5 (List.mem_of_getElem? (i := 91) rfl) rfl
theorem mw_710 : (.methodLink RX9 169 yX9_numberOfMarks : Cond) ∈ wA := wA_t5 (List.mem_of_getElem? (i := 52) rfl) rfl
theorem mw_711 : (.instanceMethod yX9_numberOfMarks : Cond) ∈ wA := wA_t5 (List.mem_of_getElem? (i := 54) rfl) rfl
theorem mw_712 : (.selects RX9 yX9_numberOfMarks yX9_numberOfMarks : Cond) ∈ wA := wA_p (List.mem_of_getElem? (i := 34) rfl) rfl
theorem mw_713 : (.methodLink RX9 173 yX9_line : Cond) ∈ wA := wA_t5 (List.mem_of_getElem? (i := 80) rfl) rfl
theorem mw_714 : (.static yX9_line : Cond) ∈ wA := wA_t5 (List.mem_of_getElem? (i := 81) rfl) rfl
theorem mw_715 : (.methodLink RX9 177 yX9_part : Cond) ∈ wA := wA_t5 (List.mem_of_getElem? (i := 85) rfl) rfl
theorem mw_716 : (.static yX9_part : Cond) ∈ wA := wA_t5 (List.mem_of_getElem? (i := 86) rfl) rfl
theorem mw_717 : (.code yX9_ruleOf cX9_ruleOf 2 (some .int) : Cond) ∈ wA := wA_t5 (List.mem_of_getElem? (i := 99) rfl) rfl
theorem mw_718 : (.code yX9_rule cX9_rule 1 (some .int) : Cond) ∈ wA := wA_t5 (List.mem_of_getElem? (i := 95) rfl) rfl
theorem mw_719 : (.methodLink RX9 183 yX9_ruleOf : Cond) ∈ wA := wA_t5 (List.mem_of_getElem? (i := 96) rfl) rfl
theorem mw_720 : (.instanceMethod yX9_ruleOf : Cond) ∈ wA := wA_t5 (List.mem_of_getElem? (i := 98) rfl) rfl
theorem mw_721 : (.selects RX9 yX9_ruleOf yX9_ruleOf : Cond) ∈ wA := wA_p (List.mem_of_getElem? (i := 37) rfl) rfl
theorem mw_722 : (.code yX9_meets cX9_meets 6 none : Cond) ∈ wA := wA_t5 (List.mem_of_getElem? (i := 107) rfl) rfl
theorem mw_723 : (.fieldLink RX9 187 "MarkedCurvesModel" "metMany" "I" : Cond) ∈ wA := wA_t4 (List.mem_of_getElem? (i := 114) rfl) rfl
theorem mw_724 : (.code yX9_met cX9_met 5 (some .int) : Cond) ∈ wA := wA_t5 (List.mem_of_getElem? (i := 103) rfl) rfl
theorem mw_725 : (.methodLink RX9 190 yX9_meets : Cond) ∈ wA := wA_t5 (List.mem_of_getElem? (i := 104) rfl) rfl
theorem mw_726 : (.instanceMethod yX9_meets : Cond) ∈ wA := wA_t5 (List.mem_of_getElem? (i := 106) rfl) rfl
theorem mw_727 : (.selects RX9 yX9_meets yX9_meets : Cond) ∈ wA := wA_p (List.mem_of_getElem? (i := 38) rfl) rfl
theorem mw_728 : (.code yX9_withMore cX9_withMore 6 (some .long) : Cond) ∈ wA := wA_t5 (List.mem_of_getElem? (i := 120) rfl) rfl
theorem mw_729 : (.code yX9_kappaOne cX9_kappaOne 2 (some .long) : Cond) ∈ wA := wA_t5 (List.mem_of_getElem? (i := 116) rfl) rfl
theorem mw_730 : (.methodLink RX9 194 yX9_withMore : Cond) ∈ wA := wA_t5 (List.mem_of_getElem? (i := 117) rfl) rfl
theorem mw_731 : (.instanceMethod yX9_withMore : Cond) ∈ wA := wA_t5 (List.mem_of_getElem? (i := 119) rfl) rfl
theorem mw_732 : (.selects RX9 yX9_withMore yX9_withMore : Cond) ∈ wA := wA_p (List.mem_of_getElem? (i := 40) rfl) rfl
theorem mw_733 : (.code yX9_kappaTwo cX9_kappaTwo 3 (some .long) : Cond) ∈ wA := wA_t5 (List.mem_of_getElem? (i := 124) rfl) rfl
theorem mw_734 : (.methodLink RX9 198 yX9_kappaOne : Cond) ∈ wA := wA_t5 (List.mem_of_getElem? (i := 113) rfl) rfl
theorem mw_735 : (.instanceMethod yX9_kappaOne : Cond) ∈ wA := wA_t5 (List.mem_of_getElem? (i := 115) rfl) rfl
theorem mw_736 : (.selects RX9 yX9_kappaOne yX9_kappaOne : Cond) ∈ wA := wA_p (List.mem_of_getElem? (i := 39) rfl) rfl
theorem mw_737 : (.code yX9_kappa cX9_kappa 7 (some .long) : Cond) ∈ wA := wA_t5 (List.mem_of_getElem? (i := 111) rfl) rfl
theorem mw_738 : (.constantLong RX9 201 (9) : Cond) ∈ wA := wA_t5 (List.mem_of_getElem? (i := 112) rfl) rfl
theorem mw_739 : (.methodLink RX9 203 yX9_kappaTwo : Cond) ∈ wA := wA_t5 (List.mem_of_getElem? (i := 121) rfl) rfl
theorem mw_740 : (.instanceMethod yX9_kappaTwo : Cond) ∈ wA := wA_t5 (List.mem_of_getElem? (i := 123) rfl) rfl
theorem mw_741 : (.selects RX9 yX9_kappaTwo yX9_kappaTwo : Cond) ∈ wA := wA_p (List.mem_of_getElem? (i := 41) rfl) rfl
theorem mw_742 : (.code yX9_isSplit cX9_isSplit 2 (some .boolean) : Cond) ∈ wA := wA_t5 (List.mem_of_getElem? (i := 136) rfl) rfl
theorem mw_743 : (.methodLink RX9 206 yX9_bits : Cond) ∈ wA := wA_t5 (List.mem_of_getElem? (i := 137) rfl) rfl
theorem mw_744 : (.static yX9_bits : Cond) ∈ wA := wA_t5 (List.mem_of_getElem? (i := 138) rfl) rfl
theorem mw_745 : (.code yX9_goTogether cX9_goTogether 2 (some .boolean) : Cond) ∈ wA := wA_t5 (List.mem_of_getElem? (i := 146) rfl) rfl
theorem mw_746 : (.code yX9_placeOf cX9_placeOf 3 (some .int) : Cond) ∈ wA := wA_t5 (List.mem_of_getElem? (i := 158) rfl) rfl
theorem mw_747 : (.code yX9_mayCome cX9_mayCome 3 (some .boolean) : Cond) ∈ wA := wA_t5 (List.mem_of_getElem? (i := 143) rfl) rfl
theorem mw_748 : (.methodLink RX9 210 yX9_goTogether : Cond) ∈ wA := wA_t5 (List.mem_of_getElem? (i := 144) rfl) rfl
theorem mw_749 : (.static yX9_goTogether : Cond) ∈ wA := wA_t5 (List.mem_of_getElem? (i := 145) rfl) rfl
theorem mw_750 : (.code yX9_leaves_ cX9_leaves_ 3 (some .int) : Cond) ∈ wA := wA_t5 (List.mem_of_getElem? (i := 128) rfl) rfl
theorem mw_751 : (.constantLong RX9 214 (6) : Cond) ∈ wA := wA_t5 (List.mem_of_getElem? (i := 129) rfl) rfl
theorem mw_752 : (.code yX9_comes cX9_comes 2 none : Cond) ∈ wA := wA_t5 (List.mem_of_getElem? (i := 150) rfl) rfl
theorem mw_753 : (.code yX9_split cX9_split 2 (some .int) : Cond) ∈ wA := wA_t5 (List.mem_of_getElem? (i := 133) rfl) rfl
theorem mw_754 : (.methodLink RX9 216 yX9_isSplit : Cond) ∈ wA := wA_t5 (List.mem_of_getElem? (i := 134) rfl) rfl
theorem mw_755 : (.static yX9_isSplit : Cond) ∈ wA := wA_t5 (List.mem_of_getElem? (i := 135) rfl) rfl
theorem mw_756 : (.methodLink RX9 219 yX9_mayCome : Cond) ∈ wA := wA_t5 (List.mem_of_getElem? (i := 140) rfl) rfl
theorem mw_757 : (.instanceMethod yX9_mayCome : Cond) ∈ wA := wA_t5 (List.mem_of_getElem? (i := 142) rfl) rfl
theorem mw_758 : (.selects RX9 yX9_mayCome yX9_mayCome : Cond) ∈ wA := wA_p (List.mem_of_getElem? (i := 42) rfl) rfl
theorem mw_759 : (.methodLink RX9 222 yX9_comes : Cond) ∈ wA := wA_t5 (List.mem_of_getElem? (i := 147) rfl) rfl
theorem mw_760 : (.instanceMethod yX9_comes : Cond) ∈ wA := wA_t5 (List.mem_of_getElem? (i := 149) rfl) rfl
theorem mw_761 : (.selects RX9 yX9_comes yX9_comes : Cond) ∈ wA := wA_p (List.mem_of_getElem? (i := 43) rfl) rfl
theorem mw_762 : (.code yX9_join cX9_join 4 (some .int) : Cond) ∈ wA := wA_t5 (List.mem_of_getElem? (i := 154) rfl) rfl
theorem mw_763 : (.methodLink RX9 226 yX9_placeOf : Cond) ∈ wA := wA_t5 (List.mem_of_getElem? (i := 155) rfl) rfl
theorem mw_764 : (.instanceMethod yX9_placeOf : Cond) ∈ wA := wA_t5 (List.mem_of_getElem? (i := 157) rfl) rfl
theorem mw_765 : (.selects RX9 yX9_placeOf yX9_placeOf : Cond) ∈ wA := wA_p (List.mem_of_getElem? (i := 44) rfl) rfl
theorem mw_766 : (.code yX9_splitAt cX9_splitAt 2 (some .int) : Cond) ∈ wA := wA_t5 (List.mem_of_getElem? (i := 162) rfl) rfl
theorem mw_767 : (.code yX9_may cX9_may 2 (some .int) : Cond) ∈ wA := wA_t5 (List.mem_of_getElem? (i := 166) rfl) rfl
theorem mw_768 : (.code yX9_isWithin cX9_isWithin 3 (some .boolean) : Cond) ∈ wA := wA_t5 (List.mem_of_getElem? (i := 182) rfl) rfl
theorem mw_769 : (.code yX9_isBelow cX9_isBelow 4 (some .int) : Cond) ∈ wA := wA_t5 (List.mem_of_getElem? (i := 178) rfl) rfl
theorem mw_770 : (.methodLink RX9 229 yX9_isWithin : Cond) ∈ wA := wA_t5 (List.mem_of_getElem? (i := 179) rfl) rfl
theorem mw_771 : (.instanceMethod yX9_isWithin : Cond) ∈ wA := wA_t5 (List.mem_of_getElem? (i := 181) rfl) rfl
theorem mw_772 : (.selects RX9 yX9_isWithin yX9_isWithin : Cond) ∈ wA := wA_p (List.mem_of_getElem? (i := 47) rfl) rfl
theorem mw_773 : (.code yX9_edges cX9_edges 4 (some .int) : Cond) ∈ wA := wA_t5 (List.mem_of_getElem? (i := 186) rfl) rfl
theorem mw_774 : (.methodLink RX9 232 yX9_isBelow : Cond) ∈ wA := wA_t5 (List.mem_of_getElem? (i := 175) rfl) rfl
theorem mw_775 : (.instanceMethod yX9_isBelow : Cond) ∈ wA := wA_t5 (List.mem_of_getElem? (i := 177) rfl) rfl
theorem mw_776 : (.selects RX9 yX9_isBelow yX9_isBelow : Cond) ∈ wA := wA_p (List.mem_of_getElem? (i := 46) rfl) rfl
theorem mw_777 : (.code yX9_at cX9_at 4 (some .int) : Cond) ∈ wA := wA_t5 (List.mem_of_getElem? (i := 174) rfl) rfl
theorem mw_778 : (.code yX9_valence cX9_valence 2 (some .int) : Cond) ∈ wA := wA_t5 (List.mem_of_getElem? (i := 170) rfl) rfl
theorem mw_779 : (.methodLink RX9 236 yX9_at : Cond) ∈ wA := wA_t5 (List.mem_of_getElem? (i := 171) rfl) rfl
theorem mw_780 : (.instanceMethod yX9_at : Cond) ∈ wA := wA_t5 (List.mem_of_getElem? (i := 173) rfl) rfl
theorem mw_781 : (.selects RX9 yX9_at yX9_at : Cond) ∈ wA := wA_p (List.mem_of_getElem? (i := 45) rfl) rfl
theorem mw_782 : (.methodLink RX9 239 yX9_edges : Cond) ∈ wA := wA_t5 (List.mem_of_getElem? (i := 183) rfl) rfl
theorem mw_783 : (.instanceMethod yX9_edges : Cond) ∈ wA := wA_t5 (List.mem_of_getElem? (i := 185) rfl) rfl
theorem mw_784 : (.selects RX9 yX9_edges yX9_edges : Cond) ∈ wA := wA_p (List.mem_of_getElem? (i := 48) rfl) rfl
theorem mw_785 : (.code yX9_finds cX9_finds 9 (some .boolean) : Cond) ∈ wA := wA_t5 (List.mem_of_getElem? (i := 194) rfl) rfl
theorem mw_786 : (.fieldLink RX9 242 "MarkedCurvesModel" "treesSeen" "I" : Cond) ∈ wA := wA_t4 (List.mem_of_getElem? (i := 115) rfl) rfl
theorem mw_787 : (.methodLink RX9 245 yX9_finds : Cond) ∈ wA := wA_t5 (List.mem_of_getElem? (i := 191) rfl) rfl
theorem mw_788 : (.instanceMethod yX9_finds : Cond) ∈ wA := wA_t5 (List.mem_of_getElem? (i := 193) rfl) rfl
theorem mw_789 : (.selects RX9 yX9_finds yX9_finds : Cond) ∈ wA := wA_p (List.mem_of_getElem? (i := 49) rfl) rfl
theorem mw_790 : (.code yX9_trees cX9_trees 4 (some .int) : Cond) ∈ wA := wA_t5 (List.mem_of_getElem? (i := 190) rfl) rfl
theorem mw_791 : (.code yX9_tree cX9_tree 5 (some .int) : Cond) ∈ wA := wA_t5 (List.mem_of_getElem? (i := 198) rfl) rfl
theorem mw_792 : (.code yX9_without cX9_without 5 (some .int) : Cond) ∈ wA := wA_t5 (List.mem_of_getElem? (i := 205) rfl) rfl
theorem mw_793 : (.code yX9_forget cX9_forget 5 (some .int) : Cond) ∈ wA := wA_t5 (List.mem_of_getElem? (i := 202) rfl) rfl
theorem mw_794 : (.methodLink RX9 249 yX9_without : Cond) ∈ wA := wA_t5 (List.mem_of_getElem? (i := 203) rfl) rfl
theorem mw_795 : (.static yX9_without : Cond) ∈ wA := wA_t5 (List.mem_of_getElem? (i := 204) rfl) rfl
theorem mw_796 : (.code yX9_numberAtNode cX9_numberAtNode 5 (some .long) : Cond) ∈ wA := wA_t5 (List.mem_of_getElem? (i := 213) rfl) rfl
theorem mw_797 : (.code yX9_onTree cX9_onTree 4 (some .long) : Cond) ∈ wA := wA_t5 (List.mem_of_getElem? (i := 209) rfl) rfl
theorem mw_798 : (.methodLink RX9 253 yX9_numberAtNode : Cond) ∈ wA := wA_t5 (List.mem_of_getElem? (i := 210) rfl) rfl
theorem mw_799 : (.instanceMethod yX9_numberAtNode : Cond) ∈ wA := wA_t5 (List.mem_of_getElem? (i := 212) rfl) rfl
theorem mw_800 : (.selects RX9 yX9_numberAtNode yX9_numberAtNode : Cond) ∈ wA := wA_p (List.mem_of_getElem? (i := 50) rfl) rfl
theorem mw_801 : (.code yX9_feed cX9_feed 4 (some .int) : Cond) ∈ wA := wA_t5 (List.mem_of_getElem? (i := 217) rfl) rfl
theorem mw_802 : (.constantLong RX9 256 (4) : Cond) ∈ wA := wA_t5 (List.mem_of_getElem? (i := 218) rfl) rfl
theorem mw_803 : (.fieldLink RX9 258 "MarkedCurvesModel" "taped" "I" : Cond) ∈ wA := wA_t4 (List.mem_of_getElem? (i := 118) rfl) rfl
theorem mw_804 : (.code yX9_wipe cX9_wipe 2 (some .int) : Cond) ∈ wA := wA_t5 (List.mem_of_getElem? (i := 222) rfl) rfl
theorem mw_805 : (.code yX9_here cX9_here 1 (some .int) : Cond) ∈ wA := wA_t6 (List.mem_of_getElem? (i := 2) rfl) rfl
theorem mw_806 : (.fieldLink RX9 261 "MarkedCurvesModel" "place" "I" : Cond) ∈ wA := wA_t4 (List.mem_of_getElem? (i := 119) rfl) rfl
theorem mw_807 : (.code yX9_isFigure cX9_isFigure 1 (some .boolean) : Cond) ∈ wA := wA_t5 (List.mem_of_getElem? (i := 238) rfl) rfl
theorem mw_808 : (.constantLong RX9 267 (48) : Cond) ∈ wA := wA_t6 (List.mem_of_getElem? (i := 3) rfl) rfl
theorem mw_809 : (.constantLong RX9 269 (57) : Cond) ∈ wA := wA_t6 (List.mem_of_getElem? (i := 4) rfl) rfl
theorem mw_810 : (.methodLink RX9 264 yX9_here : Cond) ∈ wA := wA_t5 (List.mem_of_getElem? (i := 239) rfl) rfl
theorem mw_811 : (.instanceMethod yX9_here : Cond) ∈ wA := wA_t6 (List.mem_of_getElem? (i := 1) rfl) rfl
theorem mw_812 : (.selects RX9 yX9_here yX9_here : Cond) ∈ wA := wA_p (List.mem_of_getElem? (i := 54) rfl) rfl
theorem mw_813 : (.code yX9_figure cX9_figure 1 (some .int) : Cond) ∈ wA := wA_t5 (List.mem_of_getElem? (i := 234) rfl) rfl
theorem mw_814 : (.fieldLink RX9 271 "MarkedCurvesModel" "isWrong" "Z" : Cond) ∈ wA := wA_t4 (List.mem_of_getElem? (i := 120) rfl) rfl
theorem mw_815 : (.methodLink RX9 275 yX9_isFigure : Cond) ∈ wA := wA_t5 (List.mem_of_getElem? (i := 235) rfl) rfl
theorem mw_816 : (.instanceMethod yX9_isFigure : Cond) ∈ wA := wA_t5 (List.mem_of_getElem? (i := 237) rfl) rfl
theorem mw_817 : (.selects RX9 yX9_isFigure yX9_isFigure : Cond) ∈ wA := wA_p (List.mem_of_getElem? (i := 53) rfl) rfl
theorem mw_818 : (.code yX9_must cX9_must 2 none : Cond) ∈ wA := wA_t6 (List.mem_of_getElem? (i := 8) rfl) rfl
theorem mw_819 : (.code yX9_markHere cX9_markHere 2 none : Cond) ∈ wA := wA_t6 (List.mem_of_getElem? (i := 12) rfl) rfl
theorem mw_820 : (.fieldLink RX9 279 "MarkedCurvesModel" "toldMarks" "I" : Cond) ∈ wA := wA_t4 (List.mem_of_getElem? (i := 122) rfl) rfl
theorem mw_821 : (.methodLink RX9 282 yX9_figure : Cond) ∈ wA := wA_t5 (List.mem_of_getElem? (i := 231) rfl) rfl
theorem mw_822 : (.instanceMethod yX9_figure : Cond) ∈ wA := wA_t5 (List.mem_of_getElem? (i := 233) rfl) rfl
theorem mw_823 : (.selects RX9 yX9_figure yX9_figure : Cond) ∈ wA := wA_p (List.mem_of_getElem? (i := 52) rfl) rfl
theorem mw_824 : (.code yX9_splitHere cX9_splitHere 4 none : Cond) ∈ wA := wA_t6 (List.mem_of_getElem? (i := 16) rfl) rfl
theorem mw_825 : (.fieldLink RX9 285 "MarkedCurvesModel" "toldSplits" "I" : Cond) ∈ wA := wA_t4 (List.mem_of_getElem? (i := 128) rfl) rfl
theorem mw_826 : (.code yX9_form cX9_form 1 none : Cond) ∈ wA := wA_t5 (List.mem_of_getElem? (i := 230) rfl) rfl
theorem mw_827 : (.fieldLink RX9 288 "MarkedCurvesModel" "isTree" "Z" : Cond) ∈ wA := wA_t4 (List.mem_of_getElem? (i := 125) rfl) rfl
theorem mw_828 : (.fieldLink RX9 291 "MarkedCurvesModel" "toldGenus" "I" : Cond) ∈ wA := wA_t4 (List.mem_of_getElem? (i := 121) rfl) rfl
theorem mw_829 : (.fieldLink RX9 300 "MarkedCurvesModel" "leavesPlace" "I" : Cond) ∈ wA := wA_t4 (List.mem_of_getElem? (i := 127) rfl) rfl
theorem mw_830 : (.fieldLink RX9 303 "MarkedCurvesModel" "toldLeaves" "I" : Cond) ∈ wA := wA_t4 (List.mem_of_getElem? (i := 126) rfl) rfl
theorem mw_831 : (.methodLink RX9 294 yX9_must : Cond) ∈ wA := wA_t6 (List.mem_of_getElem? (i := 5) rfl) rfl
theorem mw_832 : (.instanceMethod yX9_must : Cond) ∈ wA := wA_t6 (List.mem_of_getElem? (i := 7) rfl) rfl
theorem mw_833 : (.selects RX9 yX9_must yX9_must : Cond) ∈ wA := wA_p (List.mem_of_getElem? (i := 55) rfl) rfl
theorem mw_834 : (.methodLink RX9 297 yX9_markHere : Cond) ∈ wA := wA_t6 (List.mem_of_getElem? (i := 9) rfl) rfl
theorem mw_835 : (.instanceMethod yX9_markHere : Cond) ∈ wA := wA_t6 (List.mem_of_getElem? (i := 11) rfl) rfl
theorem mw_836 : (.selects RX9 yX9_markHere yX9_markHere : Cond) ∈ wA := wA_p (List.mem_of_getElem? (i := 56) rfl) rfl
theorem mw_837 : (.methodLink RX9 306 yX9_splitHere : Cond) ∈ wA := wA_t6 (List.mem_of_getElem? (i := 13) rfl) rfl
theorem mw_838 : (.instanceMethod yX9_splitHere : Cond) ∈ wA := wA_t6 (List.mem_of_getElem? (i := 15) rfl) rfl
theorem mw_839 : (.selects RX9 yX9_splitHere yX9_splitHere : Cond) ∈ wA := wA_p (List.mem_of_getElem? (i := 57) rfl) rfl
theorem mw_840 : (.code yX9_wrongFigures cX9_wrongFigures 3 (some .int) : Cond) ∈ wA := wA_t6 (List.mem_of_getElem? (i := 24) rfl) rfl
theorem mw_841 : (.code yX9_because cX9_because 7 none : Cond) ∈ wA := wA_t6 (List.mem_of_getElem? (i := 20) rfl) rfl
theorem mw_842 : (.fieldLink RX9 309 "MarkedCurvesModel" "isWhy" "Z" : Cond) ∈ wA := wA_t4 (List.mem_of_getElem? (i := 132) rfl) rfl
theorem mw_843 : (.code yX9_read cX9_read 3 (some .int) : Cond) ∈ wA := wA_t5 (List.mem_of_getElem? (i := 226) rfl) rfl
theorem mw_844 : (.methodLink RX9 312 yX9_form : Cond) ∈ wA := wA_t5 (List.mem_of_getElem? (i := 227) rfl) rfl
theorem mw_845 : (.instanceMethod yX9_form : Cond) ∈ wA := wA_t5 (List.mem_of_getElem? (i := 229) rfl) rfl
theorem mw_846 : (.selects RX9 yX9_form yX9_form : Cond) ∈ wA := wA_p (List.mem_of_getElem? (i := 51) rfl) rfl
theorem mw_847 : (.methodLink RX9 315 yX9_because : Cond) ∈ wA := wA_t6 (List.mem_of_getElem? (i := 17) rfl) rfl
theorem mw_848 : (.instanceMethod yX9_because : Cond) ∈ wA := wA_t6 (List.mem_of_getElem? (i := 19) rfl) rfl
theorem mw_849 : (.selects RX9 yX9_because yX9_because : Cond) ∈ wA := wA_p (List.mem_of_getElem? (i := 58) rfl) rfl
theorem mw_850 : (.methodLink RX9 318 yX9_wrongFigures : Cond) ∈ wA := wA_t6 (List.mem_of_getElem? (i := 21) rfl) rfl
theorem mw_851 : (.instanceMethod yX9_wrongFigures : Cond) ∈ wA := wA_t6 (List.mem_of_getElem? (i := 23) rfl) rfl
theorem mw_852 : (.selects RX9 yX9_wrongFigures yX9_wrongFigures : Cond) ∈ wA := wA_p (List.mem_of_getElem? (i := 59) rfl) rfl
theorem mw_853 : (.code yX9_why cX9_why 3 (some .int) : Cond) ∈ wA := wA_t6 (List.mem_of_getElem? (i := 28) rfl) rfl
theorem mw_854 : (.code yX9_writes cX9_writes 2 none : Cond) ∈ wA := wA_t6 (List.mem_of_getElem? (i := 40) rfl) rfl
theorem mw_855 : (.fieldLink RX9 321 "MarkedCurvesModel" "papered" "I" : Cond) ∈ wA := wA_t4 (List.mem_of_getElem? (i := 134) rfl) rfl
theorem mw_856 : (.code yX9_spells cX9_spells 3 none : Cond) ∈ wA := wA_t6 (List.mem_of_getElem? (i := 36) rfl) rfl
theorem mw_857 : (.methodLink RX9 324 yX9_writes : Cond) ∈ wA := wA_t6 (List.mem_of_getElem? (i := 37) rfl) rfl
theorem mw_858 : (.instanceMethod yX9_writes : Cond) ∈ wA := wA_t6 (List.mem_of_getElem? (i := 39) rfl) rfl
theorem mw_859 : (.selects RX9 yX9_writes yX9_writes : Cond) ∈ wA := wA_p (List.mem_of_getElem? (i := 61) rfl) rfl
theorem mw_860 : (.code yX9_spell cX9_spell 2 (some .int) : Cond) ∈ wA := wA_t6 (List.mem_of_getElem? (i := 32) rfl) rfl
theorem mw_861 : (.methodLink RX9 327 yX9_spells : Cond) ∈ wA := wA_t6 (List.mem_of_getElem? (i := 33) rfl) rfl
theorem mw_862 : (.instanceMethod yX9_spells : Cond) ∈ wA := wA_t6 (List.mem_of_getElem? (i := 35) rfl) rfl
theorem mw_863 : (.selects RX9 yX9_spells yX9_spells : Cond) ∈ wA := wA_p (List.mem_of_getElem? (i := 60) rfl) rfl
theorem mw_864 : (.code yX9_isHolder cX9_isHolder 1 (some .boolean) : Cond) ∈ wA := wA_t6 (List.mem_of_getElem? (i := 47) rfl) rfl
theorem mw_865 : (.code yX9_hold cX9_hold 4 (some .int) : Cond) ∈ wA := wA_t6 (List.mem_of_getElem? (i := 44) rfl) rfl
theorem mw_866 : (.constantLong RX9 336 (1000003) : Cond) ∈ wA := wA_t6 (List.mem_of_getElem? (i := 49) rfl) rfl
theorem mw_867 : (.methodLink RX9 330 yX9_isHolder : Cond) ∈ wA := wA_t6 (List.mem_of_getElem? (i := 45) rfl) rfl
theorem mw_868 : (.static yX9_isHolder : Cond) ∈ wA := wA_t6 (List.mem_of_getElem? (i := 46) rfl) rfl
theorem mw_869 : (.methodLink RX9 333 yX9_number : Cond) ∈ wA := wA_t6 (List.mem_of_getElem? (i := 48) rfl) rfl
theorem mw_870 : (.instanceMethod yX9_number : Cond) ∈ wA := wA_t5 (List.mem_of_getElem? (i := 49) rfl) rfl
theorem mw_871 : (.selects RX9 yX9_number yX9_number : Cond) ∈ wA := wA_t5 (List.mem_of_getElem? (i := 50) rfl) rfl
theorem mw_872 : (.code yX9_lose cX9_lose 3 (some .int) : Cond) ∈ wA := wA_t6 (List.mem_of_getElem? (i := 53) rfl) rfl
theorem mw_873 : (.code yX9_isFull cX9_isFull 2 (some .boolean) : Cond) ∈ wA := wA_t6 (List.mem_of_getElem? (i := 61) rfl) rfl
theorem mw_874 : (.code yX9_taken cX9_taken 4 (some .int) : Cond) ∈ wA := wA_t6 (List.mem_of_getElem? (i := 57) rfl) rfl
theorem mw_875 : (.methodLink RX9 338 yX9_isFull : Cond) ∈ wA := wA_t6 (List.mem_of_getElem? (i := 58) rfl) rfl
theorem mw_876 : (.instanceMethod yX9_isFull : Cond) ∈ wA := wA_t6 (List.mem_of_getElem? (i := 60) rfl) rfl
theorem mw_877 : (.selects RX9 yX9_isFull yX9_isFull : Cond) ∈ wA := wA_p (List.mem_of_getElem? (i := 62) rfl) rfl
theorem mw_878 : (.code yX9_common_ cX9_common_ 4 (some .int) : Cond) ∈ wA := wA_t6 (List.mem_of_getElem? (i := 65) rfl) rfl
theorem mw_879 : (.code yX9_row cX9_row 4 (some .int) : Cond) ∈ wA := wA_t6 (List.mem_of_getElem? (i := 69) rfl) rfl
theorem mw_880 : (.code yX9_rowless cX9_rowless 2 (some .int) : Cond) ∈ wA := wA_t6 (List.mem_of_getElem? (i := 77) rfl) rfl
theorem mw_881 : (.code yX9_set cX9_set 4 (some .int) : Cond) ∈ wA := wA_t6 (List.mem_of_getElem? (i := 73) rfl) rfl
theorem mw_882 : (.methodLink RX9 341 yX9_rowless : Cond) ∈ wA := wA_t6 (List.mem_of_getElem? (i := 74) rfl) rfl
theorem mw_883 : (.instanceMethod yX9_rowless : Cond) ∈ wA := wA_t6 (List.mem_of_getElem? (i := 76) rfl) rfl
theorem mw_884 : (.selects RX9 yX9_rowless yX9_rowless : Cond) ∈ wA := wA_p (List.mem_of_getElem? (i := 63) rfl) rfl
theorem mw_885 : (.code yX9_get cX9_get 3 (some .long) : Cond) ∈ wA := wA_t6 (List.mem_of_getElem? (i := 81) rfl) rfl
theorem mw_886 : (.code yX9_judge cX9_judge 3 (some .int) : Cond) ∈ wA := wA_t6 (List.mem_of_getElem? (i := 85) rfl) rfl
theorem mw_887 : (.code yX9_image cX9_image 1 (some .int) : Cond) ∈ wA := wA_t6 (List.mem_of_getElem? (i := 89) rfl) rfl
theorem mw_888 : (.fieldLink RX9 344 "MarkedCurvesModel" "isKept" "Z" : Cond) ∈ wA := wA_t4 (List.mem_of_getElem? (i := 141) rfl) rfl
theorem mw_889 : (.code yX9_restore cX9_restore 1 (some .int) : Cond) ∈ wA := wA_t6 (List.mem_of_getElem? (i := 93) rfl) rfl
theorem mw_890 : (.code yX9_count cX9_count 2 (some .int) : Cond) ∈ wA := wA_t6 (List.mem_of_getElem? (i := 97) rfl) rfl
theorem mw_891 : (.code yJ9_abs_067f4 cJ9_abs_067f4 2 (some .long) : Cond) ∈ wA := wA_t2 (List.mem_of_getElem? (i := 152) rfl) rfl
theorem mw_892 : (.code yJ9_max_7cf53 cJ9_max_7cf53 2 (some .int) : Cond) ∈ wA := wA_t4 (List.mem_of_getElem? (i := 73) rfl) rfl
theorem mw_893 : (.classLink RL 10 RX9 : Cond) ∈ wA := wA_t4 (List.mem_of_getElem? (i := 93) rfl) rfl
theorem mw_894 : (.classLink RL 7 RX8 : Cond) ∈ wA := wA_t1 (List.mem_of_getElem? (i := 14) rfl) rfl
theorem mw_895 : (.instanceMethod yX8_again : Cond) ∈ wA := wA_t3 (List.mem_of_getElem? (i := 89) rfl) rfl
theorem mw_896 : (.instanceMethod yX8_change : Cond) ∈ wA := wA_t2 (List.mem_of_getElem? (i := 41) rfl) rfl
theorem mw_897 : (.instanceMethod yX8_common : Cond) ∈ wA := wA_t4 (List.mem_of_getElem? (i := 37) rfl) rfl
theorem mw_898 : (.instanceMethod yX8_count : Cond) ∈ wA := wA_t4 (List.mem_of_getElem? (i := 90) rfl) rfl
theorem mw_899 : (.instanceMethod yX8_feed : Cond) ∈ wA := wA_t3 (List.mem_of_getElem? (i := 101) rfl) rfl
theorem mw_900 : (.instanceMethod yX8_forget : Cond) ∈ wA := wA_t3 (List.mem_of_getElem? (i := 59) rfl) rfl
theorem mw_901 : (.instanceMethod yX8_genus : Cond) ∈ wA := wA_t1 (List.mem_of_getElem? (i := 222) rfl) rfl
theorem mw_902 : (.instanceMethod yX8_get : Cond) ∈ wA := wA_t4 (List.mem_of_getElem? (i := 60) rfl) rfl
theorem mw_903 : (.instanceMethod yX8_hold : Cond) ∈ wA := wA_t3 (List.mem_of_getElem? (i := 235) rfl) rfl
theorem mw_904 : (.instanceMethod yX8_image : Cond) ∈ wA := wA_t4 (List.mem_of_getElem? (i := 77) rfl) rfl
theorem mw_905 : (.instanceMethod yX8_init : Cond) ∈ wA := wA_t1 (List.mem_of_getElem? (i := 17) rfl) rfl
theorem mw_906 : (.instanceMethod yX8_join : Cond) ∈ wA := wA_t2 (List.mem_of_getElem? (i := 233) rfl) rfl
theorem mw_907 : (.instanceMethod yX8_judge : Cond) ∈ wA := wA_t4 (List.mem_of_getElem? (i := 64) rfl) rfl
theorem mw_908 : (.instanceMethod yX8_kappa : Cond) ∈ wA := wA_t2 (List.mem_of_getElem? (i := 174) rfl) rfl
theorem mw_909 : (.instanceMethod yX8_leaves : Cond) ∈ wA := wA_t2 (List.mem_of_getElem? (i := 190) rfl) rfl
theorem mw_910 : (.instanceMethod yX8_lose : Cond) ∈ wA := wA_t4 (List.mem_of_getElem? (i := 12) rfl) rfl
theorem mw_911 : (.instanceMethod yX8_mark : Cond) ∈ wA := wA_t2 (List.mem_of_getElem? (i := 14) rfl) rfl
theorem mw_912 : (.instanceMethod yX8_may : Cond) ∈ wA := wA_t3 (List.mem_of_getElem? (i := 9) rfl) rfl
theorem mw_913 : (.instanceMethod yX8_met : Cond) ∈ wA := wA_t2 (List.mem_of_getElem? (i := 162) rfl) rfl
theorem mw_914 : (.instanceMethod yX8_of : Cond) ∈ wA := wA_t2 (List.mem_of_getElem? (i := 69) rfl) rfl
theorem mw_915 : (.instanceMethod yX8_onTree : Cond) ∈ wA := wA_t3 (List.mem_of_getElem? (i := 69) rfl) rfl
theorem mw_916 : (.instanceMethod yX8_order : Cond) ∈ wA := wA_t2 (List.mem_of_getElem? (i := 47) rfl) rfl
theorem mw_917 : (.instanceMethod yX8_read : Cond) ∈ wA := wA_t3 (List.mem_of_getElem? (i := 113) rfl) rfl
theorem mw_918 : (.instanceMethod yX8_restore : Cond) ∈ wA := wA_t4 (List.mem_of_getElem? (i := 82) rfl) rfl
theorem mw_919 : (.instanceMethod yX8_row : Cond) ∈ wA := wA_t4 (List.mem_of_getElem? (i := 44) rfl) rfl
theorem mw_920 : (.instanceMethod yX8_rule : Cond) ∈ wA := wA_t2 (List.mem_of_getElem? (i := 157) rfl) rfl
theorem mw_921 : (.instanceMethod yX8_set : Cond) ∈ wA := wA_t4 (List.mem_of_getElem? (i := 52) rfl) rfl
theorem mw_922 : (.instanceMethod yX8_spell : Cond) ∈ wA := wA_t3 (List.mem_of_getElem? (i := 204) rfl) rfl
theorem mw_923 : (.instanceMethod yX8_split : Cond) ∈ wA := wA_t2 (List.mem_of_getElem? (i := 197) rfl) rfl
theorem mw_924 : (.instanceMethod yX8_splitAt : Cond) ∈ wA := wA_t3 (List.mem_of_getElem? (i := 4) rfl) rfl
theorem mw_925 : (.instanceMethod yX8_take : Cond) ∈ wA := wA_t2 (List.mem_of_getElem? (i := 29) rfl) rfl
theorem mw_926 : (.instanceMethod yX8_taken : Cond) ∈ wA := wA_t4 (List.mem_of_getElem? (i := 16) rfl) rfl
theorem mw_927 : (.instanceMethod yX8_tree : Cond) ∈ wA := wA_t3 (List.mem_of_getElem? (i := 52) rfl) rfl
theorem mw_928 : (.instanceMethod yX8_trees : Cond) ∈ wA := wA_t3 (List.mem_of_getElem? (i := 37) rfl) rfl
theorem mw_929 : (.instanceMethod yX8_undo : Cond) ∈ wA := wA_t3 (List.mem_of_getElem? (i := 77) rfl) rfl
theorem mw_930 : (.instanceMethod yX8_valence : Cond) ∈ wA := wA_t3 (List.mem_of_getElem? (i := 13) rfl) rfl
theorem mw_931 : (.instanceMethod yX8_why : Cond) ∈ wA := wA_t3 (List.mem_of_getElem? (i := 196) rfl) rfl
theorem mw_932 : (.instanceMethod yX8_wipe : Cond) ∈ wA := wA_t3 (List.mem_of_getElem? (i := 109) rfl) rfl
theorem mw_933 : (.instanceMethod yX9_again : Cond) ∈ wA := wA_t5 (List.mem_of_getElem? (i := 0) rfl) rfl
theorem mw_934 : (.instanceMethod yX9_change : Cond) ∈ wA := wA_t5 (List.mem_of_getElem? (i := 33) rfl) rfl
theorem mw_935 : (.instanceMethod yX9_common_ : Cond) ∈ wA := wA_t6 (List.mem_of_getElem? (i := 63) rfl) rfl
theorem mw_936 : (.instanceMethod yX9_count : Cond) ∈ wA := wA_t6 (List.mem_of_getElem? (i := 95) rfl) rfl
theorem mw_937 : (.instanceMethod yX9_feed : Cond) ∈ wA := wA_t5 (List.mem_of_getElem? (i := 215) rfl) rfl
theorem mw_938 : (.instanceMethod yX9_forget : Cond) ∈ wA := wA_t5 (List.mem_of_getElem? (i := 200) rfl) rfl
theorem mw_939 : (.instanceMethod yX9_genus : Cond) ∈ wA := wA_t5 (List.mem_of_getElem? (i := 4) rfl) rfl
theorem mw_940 : (.instanceMethod yX9_get : Cond) ∈ wA := wA_t6 (List.mem_of_getElem? (i := 79) rfl) rfl
theorem mw_941 : (.instanceMethod yX9_hold : Cond) ∈ wA := wA_t6 (List.mem_of_getElem? (i := 42) rfl) rfl
theorem mw_942 : (.instanceMethod yX9_image : Cond) ∈ wA := wA_t6 (List.mem_of_getElem? (i := 87) rfl) rfl
theorem mw_943 : (.instanceMethod yX9_init : Cond) ∈ wA := wA_t4 (List.mem_of_getElem? (i := 96) rfl) rfl
theorem mw_944 : (.instanceMethod yX9_join : Cond) ∈ wA := wA_t5 (List.mem_of_getElem? (i := 152) rfl) rfl
theorem mw_945 : (.instanceMethod yX9_judge : Cond) ∈ wA := wA_t6 (List.mem_of_getElem? (i := 83) rfl) rfl
theorem mw_946 : (.instanceMethod yX9_kappa : Cond) ∈ wA := wA_t5 (List.mem_of_getElem? (i := 109) rfl) rfl
theorem mw_947 : (.instanceMethod yX9_leaves_ : Cond) ∈ wA := wA_t5 (List.mem_of_getElem? (i := 126) rfl) rfl
theorem mw_948 : (.instanceMethod yX9_lose : Cond) ∈ wA := wA_t6 (List.mem_of_getElem? (i := 51) rfl) rfl
theorem mw_949 : (.instanceMethod yX9_mark : Cond) ∈ wA := wA_t5 (List.mem_of_getElem? (i := 20) rfl) rfl
theorem mw_950 : (.instanceMethod yX9_may : Cond) ∈ wA := wA_t5 (List.mem_of_getElem? (i := 164) rfl) rfl
theorem mw_951 : (.instanceMethod yX9_met : Cond) ∈ wA := wA_t5 (List.mem_of_getElem? (i := 101) rfl) rfl
theorem mw_952 : (.instanceMethod yX9_of : Cond) ∈ wA := wA_t5 (List.mem_of_getElem? (i := 45) rfl) rfl
theorem mw_953 : (.instanceMethod yX9_onTree : Cond) ∈ wA := wA_t5 (List.mem_of_getElem? (i := 207) rfl) rfl
theorem mw_954 : (.instanceMethod yX9_order : Cond) ∈ wA := wA_t5 (List.mem_of_getElem? (i := 37) rfl) rfl
theorem mw_955 : (.instanceMethod yX9_read : Cond) ∈ wA := wA_t5 (List.mem_of_getElem? (i := 224) rfl) rfl
theorem mw_956 : (.instanceMethod yX9_restore : Cond) ∈ wA := wA_t6 (List.mem_of_getElem? (i := 91) rfl) rfl
theorem mw_957 : (.instanceMethod yX9_row : Cond) ∈ wA := wA_t6 (List.mem_of_getElem? (i := 67) rfl) rfl
theorem mw_958 : (.instanceMethod yX9_rule : Cond) ∈ wA := wA_t5 (List.mem_of_getElem? (i := 93) rfl) rfl
theorem mw_959 : (.instanceMethod yX9_set : Cond) ∈ wA := wA_t6 (List.mem_of_getElem? (i := 71) rfl) rfl
theorem mw_960 : (.instanceMethod yX9_spell : Cond) ∈ wA := wA_t6 (List.mem_of_getElem? (i := 30) rfl) rfl
theorem mw_961 : (.instanceMethod yX9_split : Cond) ∈ wA := wA_t5 (List.mem_of_getElem? (i := 131) rfl) rfl
theorem mw_962 : (.instanceMethod yX9_splitAt : Cond) ∈ wA := wA_t5 (List.mem_of_getElem? (i := 160) rfl) rfl
theorem mw_963 : (.instanceMethod yX9_take : Cond) ∈ wA := wA_t5 (List.mem_of_getElem? (i := 25) rfl) rfl
theorem mw_964 : (.instanceMethod yX9_taken : Cond) ∈ wA := wA_t6 (List.mem_of_getElem? (i := 55) rfl) rfl
theorem mw_965 : (.instanceMethod yX9_tree : Cond) ∈ wA := wA_t5 (List.mem_of_getElem? (i := 196) rfl) rfl
theorem mw_966 : (.instanceMethod yX9_trees : Cond) ∈ wA := wA_t5 (List.mem_of_getElem? (i := 188) rfl) rfl
theorem mw_967 : (.instanceMethod yX9_undo : Cond) ∈ wA := wA_t4 (List.mem_of_getElem? (i := 228) rfl) rfl
theorem mw_968 : (.instanceMethod yX9_valence : Cond) ∈ wA := wA_t5 (List.mem_of_getElem? (i := 168) rfl) rfl
theorem mw_969 : (.instanceMethod yX9_why : Cond) ∈ wA := wA_t6 (List.mem_of_getElem? (i := 26) rfl) rfl
theorem mw_970 : (.instanceMethod yX9_wipe : Cond) ∈ wA := wA_t5 (List.mem_of_getElem? (i := 220) rfl) rfl
theorem mw_971 : (.instantiable RX8 9 : Cond) ∈ wA := wA_t1 (List.mem_of_getElem? (i := 15) rfl) rfl
theorem mw_972 : (.instantiable RX9 42 : Cond) ∈ wA := wA_t4 (List.mem_of_getElem? (i := 94) rfl) rfl
theorem mw_973 : (.methodLink RL 100 yX8_undo : Cond) ∈ wA := wA_t3 (List.mem_of_getElem? (i := 76) rfl) rfl
theorem mw_974 : (.methodLink RL 103 yX9_undo : Cond) ∈ wA := wA_t4 (List.mem_of_getElem? (i := 227) rfl) rfl
theorem mw_975 : (.methodLink RL 104 yX8_again : Cond) ∈ wA := wA_t3 (List.mem_of_getElem? (i := 88) rfl) rfl
theorem mw_976 : (.methodLink RL 107 yX9_again : Cond) ∈ wA := wA_t4 (List.mem_of_getElem? (i := 239) rfl) rfl
theorem mw_977 : (.methodLink RL 108 yX8_feed : Cond) ∈ wA := wA_t3 (List.mem_of_getElem? (i := 100) rfl) rfl
theorem mw_978 : (.methodLink RL 111 yX9_feed : Cond) ∈ wA := wA_t5 (List.mem_of_getElem? (i := 214) rfl) rfl
theorem mw_979 : (.methodLink RL 112 yX8_wipe : Cond) ∈ wA := wA_t3 (List.mem_of_getElem? (i := 108) rfl) rfl
theorem mw_980 : (.methodLink RL 115 yX9_wipe : Cond) ∈ wA := wA_t5 (List.mem_of_getElem? (i := 219) rfl) rfl
theorem mw_981 : (.methodLink RL 116 yX8_read : Cond) ∈ wA := wA_t3 (List.mem_of_getElem? (i := 112) rfl) rfl
theorem mw_982 : (.methodLink RL 119 yX9_read : Cond) ∈ wA := wA_t5 (List.mem_of_getElem? (i := 223) rfl) rfl
theorem mw_983 : (.methodLink RL 12 yX9_init : Cond) ∈ wA := wA_t4 (List.mem_of_getElem? (i := 95) rfl) rfl
theorem mw_984 : (.methodLink RL 120 yX8_why : Cond) ∈ wA := wA_t3 (List.mem_of_getElem? (i := 195) rfl) rfl
theorem mw_985 : (.methodLink RL 123 yX9_why : Cond) ∈ wA := wA_t6 (List.mem_of_getElem? (i := 25) rfl) rfl
theorem mw_986 : (.methodLink RL 124 yX8_spell : Cond) ∈ wA := wA_t3 (List.mem_of_getElem? (i := 203) rfl) rfl
theorem mw_987 : (.methodLink RL 127 yX9_spell : Cond) ∈ wA := wA_t6 (List.mem_of_getElem? (i := 29) rfl) rfl
theorem mw_988 : (.methodLink RL 128 yX8_hold : Cond) ∈ wA := wA_t3 (List.mem_of_getElem? (i := 234) rfl) rfl
theorem mw_989 : (.methodLink RL 13 yX8_genus : Cond) ∈ wA := wA_t1 (List.mem_of_getElem? (i := 221) rfl) rfl
theorem mw_990 : (.methodLink RL 131 yX9_hold : Cond) ∈ wA := wA_t6 (List.mem_of_getElem? (i := 41) rfl) rfl
theorem mw_991 : (.methodLink RL 132 yX8_lose : Cond) ∈ wA := wA_t4 (List.mem_of_getElem? (i := 11) rfl) rfl
theorem mw_992 : (.methodLink RL 135 yX9_lose : Cond) ∈ wA := wA_t6 (List.mem_of_getElem? (i := 50) rfl) rfl
theorem mw_993 : (.methodLink RL 136 yX8_taken : Cond) ∈ wA := wA_t4 (List.mem_of_getElem? (i := 15) rfl) rfl
theorem mw_994 : (.methodLink RL 139 yX9_taken : Cond) ∈ wA := wA_t6 (List.mem_of_getElem? (i := 54) rfl) rfl
theorem mw_995 : (.methodLink RL 140 yX8_common : Cond) ∈ wA := wA_t4 (List.mem_of_getElem? (i := 36) rfl) rfl
theorem mw_996 : (.methodLink RL 143 yX9_common_ : Cond) ∈ wA := wA_t6 (List.mem_of_getElem? (i := 62) rfl) rfl
theorem mw_997 : (.methodLink RL 144 yX8_row : Cond) ∈ wA := wA_t4 (List.mem_of_getElem? (i := 43) rfl) rfl
theorem mw_998 : (.methodLink RL 147 yX9_row : Cond) ∈ wA := wA_t6 (List.mem_of_getElem? (i := 66) rfl) rfl
theorem mw_999 : (.methodLink RL 148 yX8_set : Cond) ∈ wA := wA_t4 (List.mem_of_getElem? (i := 51) rfl) rfl
theorem mw_1000 : (.methodLink RL 152 yX9_set : Cond) ∈ wA := wA_t6 (List.mem_of_getElem? (i := 70) rfl) rfl
theorem mw_1001 : (.methodLink RL 153 yX8_get : Cond) ∈ wA := wA_t4 (List.mem_of_getElem? (i := 59) rfl) rfl
theorem mw_1002 : (.methodLink RL 157 yX9_get : Cond) ∈ wA := wA_t6 (List.mem_of_getElem? (i := 78) rfl) rfl
theorem mw_1003 : (.methodLink RL 158 yX8_judge : Cond) ∈ wA := wA_t4 (List.mem_of_getElem? (i := 63) rfl) rfl
theorem mw_1004 : (.methodLink RL 161 yX9_judge : Cond) ∈ wA := wA_t6 (List.mem_of_getElem? (i := 82) rfl) rfl
theorem mw_1005 : (.methodLink RL 162 yX8_image : Cond) ∈ wA := wA_t4 (List.mem_of_getElem? (i := 76) rfl) rfl
theorem mw_1006 : (.methodLink RL 165 yX9_image : Cond) ∈ wA := wA_t6 (List.mem_of_getElem? (i := 86) rfl) rfl
theorem mw_1007 : (.methodLink RL 166 yX8_restore : Cond) ∈ wA := wA_t4 (List.mem_of_getElem? (i := 81) rfl) rfl
theorem mw_1008 : (.methodLink RL 169 yX9_restore : Cond) ∈ wA := wA_t6 (List.mem_of_getElem? (i := 90) rfl) rfl
theorem mw_1009 : (.methodLink RL 17 yX9_genus : Cond) ∈ wA := wA_t5 (List.mem_of_getElem? (i := 3) rfl) rfl
theorem mw_1010 : (.methodLink RL 170 yX8_count : Cond) ∈ wA := wA_t4 (List.mem_of_getElem? (i := 89) rfl) rfl
theorem mw_1011 : (.methodLink RL 173 yX9_count : Cond) ∈ wA := wA_t6 (List.mem_of_getElem? (i := 94) rfl) rfl
theorem mw_1012 : (.methodLink RL 18 yX8_mark : Cond) ∈ wA := wA_t2 (List.mem_of_getElem? (i := 13) rfl) rfl
theorem mw_1013 : (.methodLink RL 21 yX9_mark : Cond) ∈ wA := wA_t5 (List.mem_of_getElem? (i := 19) rfl) rfl
theorem mw_1014 : (.methodLink RL 22 yX8_take : Cond) ∈ wA := wA_t2 (List.mem_of_getElem? (i := 28) rfl) rfl
theorem mw_1015 : (.methodLink RL 25 yX9_take : Cond) ∈ wA := wA_t5 (List.mem_of_getElem? (i := 24) rfl) rfl
theorem mw_1016 : (.methodLink RL 26 yX8_change : Cond) ∈ wA := wA_t2 (List.mem_of_getElem? (i := 40) rfl) rfl
theorem mw_1017 : (.methodLink RL 30 yX9_change : Cond) ∈ wA := wA_t5 (List.mem_of_getElem? (i := 32) rfl) rfl
theorem mw_1018 : (.methodLink RL 31 yX8_order : Cond) ∈ wA := wA_t2 (List.mem_of_getElem? (i := 46) rfl) rfl
theorem mw_1019 : (.methodLink RL 34 yX9_order : Cond) ∈ wA := wA_t5 (List.mem_of_getElem? (i := 36) rfl) rfl
theorem mw_1020 : (.methodLink RL 35 yX8_of : Cond) ∈ wA := wA_t2 (List.mem_of_getElem? (i := 68) rfl) rfl
theorem mw_1021 : (.methodLink RL 38 yX9_of : Cond) ∈ wA := wA_t5 (List.mem_of_getElem? (i := 44) rfl) rfl
theorem mw_1022 : (.methodLink RL 39 yX8_number : Cond) ∈ wA := wA_t2 (List.mem_of_getElem? (i := 72) rfl) rfl
theorem mw_1023 : (.methodLink RL 43 yX9_number : Cond) ∈ wA := wA_t5 (List.mem_of_getElem? (i := 48) rfl) rfl
theorem mw_1024 : (.methodLink RL 44 yX8_rule : Cond) ∈ wA := wA_t2 (List.mem_of_getElem? (i := 156) rfl) rfl
theorem mw_1025 : (.methodLink RL 48 yX9_rule : Cond) ∈ wA := wA_t5 (List.mem_of_getElem? (i := 92) rfl) rfl
theorem mw_1026 : (.methodLink RL 49 yX8_met : Cond) ∈ wA := wA_t2 (List.mem_of_getElem? (i := 161) rfl) rfl
theorem mw_1027 : (.methodLink RL 52 yX9_met : Cond) ∈ wA := wA_t5 (List.mem_of_getElem? (i := 100) rfl) rfl
theorem mw_1028 : (.methodLink RL 53 yX8_kappa : Cond) ∈ wA := wA_t2 (List.mem_of_getElem? (i := 173) rfl) rfl
theorem mw_1029 : (.methodLink RL 57 yX9_kappa : Cond) ∈ wA := wA_t5 (List.mem_of_getElem? (i := 108) rfl) rfl
theorem mw_1030 : (.methodLink RL 58 yX8_leaves : Cond) ∈ wA := wA_t2 (List.mem_of_getElem? (i := 189) rfl) rfl
theorem mw_1031 : (.methodLink RL 61 yX9_leaves_ : Cond) ∈ wA := wA_t5 (List.mem_of_getElem? (i := 125) rfl) rfl
theorem mw_1032 : (.methodLink RL 62 yX8_split : Cond) ∈ wA := wA_t2 (List.mem_of_getElem? (i := 196) rfl) rfl
theorem mw_1033 : (.methodLink RL 65 yX9_split : Cond) ∈ wA := wA_t5 (List.mem_of_getElem? (i := 130) rfl) rfl
theorem mw_1034 : (.methodLink RL 66 yX8_join : Cond) ∈ wA := wA_t2 (List.mem_of_getElem? (i := 232) rfl) rfl
theorem mw_1035 : (.methodLink RL 69 yX9_join : Cond) ∈ wA := wA_t5 (List.mem_of_getElem? (i := 151) rfl) rfl
theorem mw_1036 : (.methodLink RL 70 yX8_splitAt : Cond) ∈ wA := wA_t3 (List.mem_of_getElem? (i := 3) rfl) rfl
theorem mw_1037 : (.methodLink RL 73 yX9_splitAt : Cond) ∈ wA := wA_t5 (List.mem_of_getElem? (i := 159) rfl) rfl
theorem mw_1038 : (.methodLink RL 74 yX8_may : Cond) ∈ wA := wA_t3 (List.mem_of_getElem? (i := 8) rfl) rfl
theorem mw_1039 : (.methodLink RL 77 yX9_may : Cond) ∈ wA := wA_t5 (List.mem_of_getElem? (i := 163) rfl) rfl
theorem mw_1040 : (.methodLink RL 78 yX8_valence : Cond) ∈ wA := wA_t3 (List.mem_of_getElem? (i := 12) rfl) rfl
theorem mw_1041 : (.methodLink RL 81 yX9_valence : Cond) ∈ wA := wA_t5 (List.mem_of_getElem? (i := 167) rfl) rfl
theorem mw_1042 : (.methodLink RL 82 yX8_trees : Cond) ∈ wA := wA_t3 (List.mem_of_getElem? (i := 36) rfl) rfl
theorem mw_1043 : (.methodLink RL 85 yX9_trees : Cond) ∈ wA := wA_t5 (List.mem_of_getElem? (i := 187) rfl) rfl
theorem mw_1044 : (.methodLink RL 86 yX8_tree : Cond) ∈ wA := wA_t3 (List.mem_of_getElem? (i := 51) rfl) rfl
theorem mw_1045 : (.methodLink RL 9 yX8_init : Cond) ∈ wA := wA_t1 (List.mem_of_getElem? (i := 16) rfl) rfl
theorem mw_1046 : (.methodLink RL 90 yX9_tree : Cond) ∈ wA := wA_t5 (List.mem_of_getElem? (i := 195) rfl) rfl
theorem mw_1047 : (.methodLink RL 91 yX8_forget : Cond) ∈ wA := wA_t3 (List.mem_of_getElem? (i := 58) rfl) rfl
theorem mw_1048 : (.methodLink RL 94 yX9_forget : Cond) ∈ wA := wA_t5 (List.mem_of_getElem? (i := 199) rfl) rfl
theorem mw_1049 : (.methodLink RL 95 yX8_onTree : Cond) ∈ wA := wA_t3 (List.mem_of_getElem? (i := 68) rfl) rfl
theorem mw_1050 : (.methodLink RL 99 yX9_onTree : Cond) ∈ wA := wA_t5 (List.mem_of_getElem? (i := 206) rfl) rfl
theorem mw_1051 : (.selects RX8 yX8_again yX8_again : Cond) ∈ wA := wA_t3 (List.mem_of_getElem? (i := 90) rfl) rfl
theorem mw_1052 : (.selects RX8 yX8_change yX8_change : Cond) ∈ wA := wA_t2 (List.mem_of_getElem? (i := 42) rfl) rfl
theorem mw_1053 : (.selects RX8 yX8_common yX8_common : Cond) ∈ wA := wA_t4 (List.mem_of_getElem? (i := 38) rfl) rfl
theorem mw_1054 : (.selects RX8 yX8_count yX8_count : Cond) ∈ wA := wA_t4 (List.mem_of_getElem? (i := 91) rfl) rfl
theorem mw_1055 : (.selects RX8 yX8_feed yX8_feed : Cond) ∈ wA := wA_t3 (List.mem_of_getElem? (i := 102) rfl) rfl
theorem mw_1056 : (.selects RX8 yX8_forget yX8_forget : Cond) ∈ wA := wA_t3 (List.mem_of_getElem? (i := 60) rfl) rfl
theorem mw_1057 : (.selects RX8 yX8_genus yX8_genus : Cond) ∈ wA := wA_t1 (List.mem_of_getElem? (i := 223) rfl) rfl
theorem mw_1058 : (.selects RX8 yX8_get yX8_get : Cond) ∈ wA := wA_t4 (List.mem_of_getElem? (i := 61) rfl) rfl
theorem mw_1059 : (.selects RX8 yX8_hold yX8_hold : Cond) ∈ wA := wA_t3 (List.mem_of_getElem? (i := 236) rfl) rfl
theorem mw_1060 : (.selects RX8 yX8_image yX8_image : Cond) ∈ wA := wA_t4 (List.mem_of_getElem? (i := 78) rfl) rfl
theorem mw_1061 : (.selects RX8 yX8_join yX8_join : Cond) ∈ wA := wA_t2 (List.mem_of_getElem? (i := 234) rfl) rfl
theorem mw_1062 : (.selects RX8 yX8_judge yX8_judge : Cond) ∈ wA := wA_t4 (List.mem_of_getElem? (i := 65) rfl) rfl
theorem mw_1063 : (.selects RX8 yX8_kappa yX8_kappa : Cond) ∈ wA := wA_t2 (List.mem_of_getElem? (i := 175) rfl) rfl
theorem mw_1064 : (.selects RX8 yX8_leaves yX8_leaves : Cond) ∈ wA := wA_t2 (List.mem_of_getElem? (i := 191) rfl) rfl
theorem mw_1065 : (.selects RX8 yX8_lose yX8_lose : Cond) ∈ wA := wA_t4 (List.mem_of_getElem? (i := 13) rfl) rfl
theorem mw_1066 : (.selects RX8 yX8_mark yX8_mark : Cond) ∈ wA := wA_t2 (List.mem_of_getElem? (i := 15) rfl) rfl
theorem mw_1067 : (.selects RX8 yX8_may yX8_may : Cond) ∈ wA := wA_t3 (List.mem_of_getElem? (i := 10) rfl) rfl
theorem mw_1068 : (.selects RX8 yX8_met yX8_met : Cond) ∈ wA := wA_t2 (List.mem_of_getElem? (i := 163) rfl) rfl
theorem mw_1069 : (.selects RX8 yX8_of yX8_of : Cond) ∈ wA := wA_t2 (List.mem_of_getElem? (i := 70) rfl) rfl
theorem mw_1070 : (.selects RX8 yX8_onTree yX8_onTree : Cond) ∈ wA := wA_t3 (List.mem_of_getElem? (i := 70) rfl) rfl
theorem mw_1071 : (.selects RX8 yX8_order yX8_order : Cond) ∈ wA := wA_t2 (List.mem_of_getElem? (i := 48) rfl) rfl
theorem mw_1072 : (.selects RX8 yX8_read yX8_read : Cond) ∈ wA := wA_t3 (List.mem_of_getElem? (i := 114) rfl) rfl
theorem mw_1073 : (.selects RX8 yX8_restore yX8_restore : Cond) ∈ wA := wA_t4 (List.mem_of_getElem? (i := 83) rfl) rfl
theorem mw_1074 : (.selects RX8 yX8_row yX8_row : Cond) ∈ wA := wA_t4 (List.mem_of_getElem? (i := 45) rfl) rfl
theorem mw_1075 : (.selects RX8 yX8_rule yX8_rule : Cond) ∈ wA := wA_t2 (List.mem_of_getElem? (i := 158) rfl) rfl
theorem mw_1076 : (.selects RX8 yX8_set yX8_set : Cond) ∈ wA := wA_t4 (List.mem_of_getElem? (i := 53) rfl) rfl
theorem mw_1077 : (.selects RX8 yX8_spell yX8_spell : Cond) ∈ wA := wA_t3 (List.mem_of_getElem? (i := 205) rfl) rfl
theorem mw_1078 : (.selects RX8 yX8_split yX8_split : Cond) ∈ wA := wA_t2 (List.mem_of_getElem? (i := 198) rfl) rfl
theorem mw_1079 : (.selects RX8 yX8_splitAt yX8_splitAt : Cond) ∈ wA := wA_t3 (List.mem_of_getElem? (i := 5) rfl) rfl
theorem mw_1080 : (.selects RX8 yX8_take yX8_take : Cond) ∈ wA := wA_t2 (List.mem_of_getElem? (i := 30) rfl) rfl
theorem mw_1081 : (.selects RX8 yX8_taken yX8_taken : Cond) ∈ wA := wA_t4 (List.mem_of_getElem? (i := 17) rfl) rfl
theorem mw_1082 : (.selects RX8 yX8_tree yX8_tree : Cond) ∈ wA := wA_t3 (List.mem_of_getElem? (i := 53) rfl) rfl
theorem mw_1083 : (.selects RX8 yX8_trees yX8_trees : Cond) ∈ wA := wA_t3 (List.mem_of_getElem? (i := 38) rfl) rfl
theorem mw_1084 : (.selects RX8 yX8_undo yX8_undo : Cond) ∈ wA := wA_t3 (List.mem_of_getElem? (i := 78) rfl) rfl
theorem mw_1085 : (.selects RX8 yX8_valence yX8_valence : Cond) ∈ wA := wA_t3 (List.mem_of_getElem? (i := 14) rfl) rfl
theorem mw_1086 : (.selects RX8 yX8_why yX8_why : Cond) ∈ wA := wA_t3 (List.mem_of_getElem? (i := 197) rfl) rfl
theorem mw_1087 : (.selects RX8 yX8_wipe yX8_wipe : Cond) ∈ wA := wA_t3 (List.mem_of_getElem? (i := 110) rfl) rfl
theorem mw_1088 : (.selects RX9 yX9_again yX9_again : Cond) ∈ wA := wA_t5 (List.mem_of_getElem? (i := 1) rfl) rfl
theorem mw_1089 : (.selects RX9 yX9_change yX9_change : Cond) ∈ wA := wA_t5 (List.mem_of_getElem? (i := 34) rfl) rfl
theorem mw_1090 : (.selects RX9 yX9_common_ yX9_common_ : Cond) ∈ wA := wA_t6 (List.mem_of_getElem? (i := 64) rfl) rfl
theorem mw_1091 : (.selects RX9 yX9_count yX9_count : Cond) ∈ wA := wA_t6 (List.mem_of_getElem? (i := 96) rfl) rfl
theorem mw_1092 : (.selects RX9 yX9_feed yX9_feed : Cond) ∈ wA := wA_t5 (List.mem_of_getElem? (i := 216) rfl) rfl
theorem mw_1093 : (.selects RX9 yX9_forget yX9_forget : Cond) ∈ wA := wA_t5 (List.mem_of_getElem? (i := 201) rfl) rfl
theorem mw_1094 : (.selects RX9 yX9_genus yX9_genus : Cond) ∈ wA := wA_t5 (List.mem_of_getElem? (i := 5) rfl) rfl
theorem mw_1095 : (.selects RX9 yX9_get yX9_get : Cond) ∈ wA := wA_t6 (List.mem_of_getElem? (i := 80) rfl) rfl
theorem mw_1096 : (.selects RX9 yX9_hold yX9_hold : Cond) ∈ wA := wA_t6 (List.mem_of_getElem? (i := 43) rfl) rfl
theorem mw_1097 : (.selects RX9 yX9_image yX9_image : Cond) ∈ wA := wA_t6 (List.mem_of_getElem? (i := 88) rfl) rfl
theorem mw_1098 : (.selects RX9 yX9_join yX9_join : Cond) ∈ wA := wA_t5 (List.mem_of_getElem? (i := 153) rfl) rfl
theorem mw_1099 : (.selects RX9 yX9_judge yX9_judge : Cond) ∈ wA := wA_t6 (List.mem_of_getElem? (i := 84) rfl) rfl
theorem mw_1100 : (.selects RX9 yX9_kappa yX9_kappa : Cond) ∈ wA := wA_t5 (List.mem_of_getElem? (i := 110) rfl) rfl
theorem mw_1101 : (.selects RX9 yX9_leaves_ yX9_leaves_ : Cond) ∈ wA := wA_t5 (List.mem_of_getElem? (i := 127) rfl) rfl
theorem mw_1102 : (.selects RX9 yX9_lose yX9_lose : Cond) ∈ wA := wA_t6 (List.mem_of_getElem? (i := 52) rfl) rfl
theorem mw_1103 : (.selects RX9 yX9_mark yX9_mark : Cond) ∈ wA := wA_t5 (List.mem_of_getElem? (i := 21) rfl) rfl
theorem mw_1104 : (.selects RX9 yX9_may yX9_may : Cond) ∈ wA := wA_t5 (List.mem_of_getElem? (i := 165) rfl) rfl
theorem mw_1105 : (.selects RX9 yX9_met yX9_met : Cond) ∈ wA := wA_t5 (List.mem_of_getElem? (i := 102) rfl) rfl
theorem mw_1106 : (.selects RX9 yX9_of yX9_of : Cond) ∈ wA := wA_t5 (List.mem_of_getElem? (i := 46) rfl) rfl
theorem mw_1107 : (.selects RX9 yX9_onTree yX9_onTree : Cond) ∈ wA := wA_t5 (List.mem_of_getElem? (i := 208) rfl) rfl
theorem mw_1108 : (.selects RX9 yX9_order yX9_order : Cond) ∈ wA := wA_t5 (List.mem_of_getElem? (i := 38) rfl) rfl
theorem mw_1109 : (.selects RX9 yX9_read yX9_read : Cond) ∈ wA := wA_t5 (List.mem_of_getElem? (i := 225) rfl) rfl
theorem mw_1110 : (.selects RX9 yX9_restore yX9_restore : Cond) ∈ wA := wA_t6 (List.mem_of_getElem? (i := 92) rfl) rfl
theorem mw_1111 : (.selects RX9 yX9_row yX9_row : Cond) ∈ wA := wA_t6 (List.mem_of_getElem? (i := 68) rfl) rfl
theorem mw_1112 : (.selects RX9 yX9_rule yX9_rule : Cond) ∈ wA := wA_t5 (List.mem_of_getElem? (i := 94) rfl) rfl
theorem mw_1113 : (.selects RX9 yX9_set yX9_set : Cond) ∈ wA := wA_t6 (List.mem_of_getElem? (i := 72) rfl) rfl
theorem mw_1114 : (.selects RX9 yX9_spell yX9_spell : Cond) ∈ wA := wA_t6 (List.mem_of_getElem? (i := 31) rfl) rfl
theorem mw_1115 : (.selects RX9 yX9_split yX9_split : Cond) ∈ wA := wA_t5 (List.mem_of_getElem? (i := 132) rfl) rfl
theorem mw_1116 : (.selects RX9 yX9_splitAt yX9_splitAt : Cond) ∈ wA := wA_t5 (List.mem_of_getElem? (i := 161) rfl) rfl
theorem mw_1117 : (.selects RX9 yX9_take yX9_take : Cond) ∈ wA := wA_t5 (List.mem_of_getElem? (i := 26) rfl) rfl
theorem mw_1118 : (.selects RX9 yX9_taken yX9_taken : Cond) ∈ wA := wA_t6 (List.mem_of_getElem? (i := 56) rfl) rfl
theorem mw_1119 : (.selects RX9 yX9_tree yX9_tree : Cond) ∈ wA := wA_t5 (List.mem_of_getElem? (i := 197) rfl) rfl
theorem mw_1120 : (.selects RX9 yX9_trees yX9_trees : Cond) ∈ wA := wA_t5 (List.mem_of_getElem? (i := 189) rfl) rfl
theorem mw_1121 : (.selects RX9 yX9_undo yX9_undo : Cond) ∈ wA := wA_t4 (List.mem_of_getElem? (i := 229) rfl) rfl
theorem mw_1122 : (.selects RX9 yX9_valence yX9_valence : Cond) ∈ wA := wA_t5 (List.mem_of_getElem? (i := 169) rfl) rfl
theorem mw_1123 : (.selects RX9 yX9_why yX9_why : Cond) ∈ wA := wA_t6 (List.mem_of_getElem? (i := 27) rfl) rfl
theorem mw_1124 : (.selects RX9 yX9_wipe yX9_wipe : Cond) ∈ wA := wA_t5 (List.mem_of_getElem? (i := 221) rfl) rfl
theorem in_X0_t : ∀ w ∈ wsX00, w ∈ lw_tbl := mem_r _ [133, 135, 137] (by decide +kernel)
theorem in_X0_g : wsX00.all goodWord = true := by decide +kernel
theorem in_X0 : ∀ w ∈ wsX00, w ∈ wA := fun w h => wA_of (in_X0_t w h) (List.all_eq_true.mp in_X0_g w h)
theorem in_X1_t : ∀ w ∈ wsX10, w ∈ lw_tbl := mem_r _ [109, 111, 113, 115, 117] (by decide +kernel)
theorem in_X1_g : wsX10.all goodWord = true := by decide +kernel
theorem in_X1 : ∀ w ∈ wsX10, w ∈ wA := fun w h => wA_of (in_X1_t w h) (List.all_eq_true.mp in_X1_g w h)
theorem in_X2_t : ∀ w ∈ wsX20, w ∈ lw_tbl := mem_r _ [244, 246, 248, 250, 252, 254] (by decide +kernel)
theorem in_X2_g : wsX20.all goodWord = true := by decide +kernel
theorem in_X2 : ∀ w ∈ wsX20, w ∈ wA := fun w h => wA_of (in_X2_t w h) (List.all_eq_true.mp in_X2_g w h)
theorem in_X3_t : ∀ w ∈ wsX30, w ∈ lw_tbl := mem_r _ [153, 155, 157, 159, 161, 163, 165] (by decide +kernel)
theorem in_X3_g : wsX30.all goodWord = true := by decide +kernel
theorem in_X3 : ∀ w ∈ wsX30, w ∈ wA := fun w h => wA_of (in_X3_t w h) (List.all_eq_true.mp in_X3_g w h)
theorem in_X4_t : ∀ w ∈ wsX40, w ∈ lw_tbl := mem_r _ [200, 202, 204, 206, 208, 210] (by decide +kernel)
theorem in_X4_g : wsX40.all goodWord = true := by decide +kernel
theorem in_X4 : ∀ w ∈ wsX40, w ∈ wA := fun w h => wA_of (in_X4_t w h) (List.all_eq_true.mp in_X4_g w h)
theorem in_X5_t : ∀ w ∈ wsX50, w ∈ lw_tbl := mem_r _ [222, 224] (by decide +kernel)
theorem in_X5_g : wsX50.all goodWord = true := by decide +kernel
theorem in_X5 : ∀ w ∈ wsX50, w ∈ wA := fun w h => wA_of (in_X5_t w h) (List.all_eq_true.mp in_X5_g w h)
theorem in_X7_t : ∀ w ∈ wsX70, w ∈ lw_tbl := mem_r _ [185, 187] (by decide +kernel)
theorem in_X7_g : wsX70.all goodWord = true := by decide +kernel
theorem in_X7 : ∀ w ∈ wsX70, w ∈ wA := fun w h => wA_of (in_X7_t w h) (List.all_eq_true.mp in_X7_g w h)
theorem in_X8_t : ∀ w ∈ wsX80, w ∈ lw_tbl := mem_r _ [266, 268, 270, 272, 274, 276, 278, 280, 282] (by decide +kernel)
theorem in_X8_g : wsX80.all goodWord = true := by decide +kernel
theorem in_X8 : ∀ w ∈ wsX80, w ∈ wA := fun w h => wA_of (in_X8_t w h) (List.all_eq_true.mp in_X8_g w h)
theorem in_X9_t : ∀ w ∈ wsX90, w ∈ lw_tbl := mem_r _ [926, 928, 930, 932, 934, 936, 938, 940, 942, 944, 946, 948, 950, 952, 954, 956, 958, 960, 962, 964, 966, 968, 970, 972, 974, 976, 978, 980, 982, 984, 986, 988, 990, 992, 994, 996, 998, 1000, 1002, 1004, 1006, 1008] (by decide +kernel)
theorem in_X9_g : wsX90.all goodWord = true := by decide +kernel
theorem in_X9 : ∀ w ∈ wsX90, w ∈ wA := fun w h => wA_of (in_X9_t w h) (List.all_eq_true.mp in_X9_g w h)
theorem gwA {c cy : Cond} (hc : cy ∈ wA) : GoodIn (c :: wA) (cy :: wA) := by
  intro w hw
  rcases List.mem_cons.mp hw with rfl | h
  · exact ⟨List.mem_cons_of_mem _ hc, wA_good hc⟩
  · exact ⟨List.mem_cons_of_mem _ h, wA_good h⟩
theorem gw1 {c w : Cond} {ws : List Cond} (hw : w ∈ wA) (h : GoodIn (c :: wA) ws) : GoodIn (c :: wA) (w :: ws) := by
  intro v hv
  rcases List.mem_cons.mp hv with rfl | h1
  · exact ⟨List.mem_cons_of_mem _ hw, wA_good hw⟩
  · exact h v h1
theorem gwV {c cy : Cond} {own C : String} {i : Nat} {y : MethodName} (h1 : (.methodLink own i y : Cond) ∈ wA) (h2 : (.instanceMethod y : Cond) ∈ wA) (h3 : (.selects C y y : Cond) ∈ wA) (h4 : (.initialized C : Cond) ∈ wA) (h5 : cy ∈ wA) :
    GoodIn (c :: wA) (wsV own i C y (cy :: wA)) := gw1 h1 (gw1 h2 (gw1 h3 (gw1 h4 (gwA h5))))
theorem gwS {c cy : Cond} {own : String} {i : Nat} {y : MethodName} (h1 : (.methodLink own i y : Cond) ∈ wA) (h2 : (.static y : Cond) ∈ wA) (h4 : (.initialized y.cls : Cond) ∈ wA) (h5 : cy ∈ wA) :
    GoodIn (c :: wA) (va_wsS own i y (cy :: wA)) := gw1 h1 (gw1 h2 (gw1 h4 (gwA h5)))
theorem hta_of {c : Cond} {args : Array Value} {s : State} (h : ∀ w ∈ c :: wA, w.before args s = true) : ∀ w ∈ wA, w.before args s = true := fun w q => h w (List.mem_cons_of_mem _ q)
theorem hin_of {c : Cond} {ws : List Cond} (h : ∀ w ∈ ws, w ∈ wA) : ∀ w ∈ ws, w ∈ c :: wA := fun w q => List.mem_cons_of_mem _ (h w q)

theorem gX0_init_X1_init : GoodIn wsX0_init (wsX1_init) := gwA mw_10
theorem gX0_settle_X0_present : GoodIn wsX0_settle (wsV RX0 23 RX0 yX0_present wsX0_present) := gwV mw_21 mw_22 mw_23 mw_24 mw_19
theorem gX0_settle_X1_isLike : GoodIn wsX0_settle (wsV RX0 27 RX1 yX1_isLike wsX1_isLike) := gwV mw_25 mw_26 mw_27 mw_7 mw_28
theorem gX0_settle_X0_dropOldest : GoodIn wsX0_settle (wsV RX0 31 RX0 yX0_dropOldest wsX0_dropOldest) := gwV mw_40 mw_41 mw_42 mw_24 mw_43
theorem gX0_settle_X1_copyFrom : GoodIn wsX0_settle (wsV RX0 34 RX1 yX1_copyFrom wsX1_copyFrom) := gwV mw_44 mw_45 mw_46 mw_7 mw_47
theorem gX0_stepBack_X0_present : GoodIn wsX0_stepBack (wsV RX0 23 RX0 yX0_present wsX0_present) := gwV mw_21 mw_22 mw_23 mw_24 mw_19
theorem gX0_stepBack_X1_copyFrom : GoodIn wsX0_stepBack (wsV RX0 34 RX1 yX1_copyFrom wsX1_copyFrom) := gwV mw_44 mw_45 mw_46 mw_7 mw_47
theorem gX0_stepOn_X0_present : GoodIn wsX0_stepOn (wsV RX0 23 RX0 yX0_present wsX0_present) := gwV mw_21 mw_22 mw_23 mw_24 mw_19
theorem gX0_stepOn_X1_copyFrom : GoodIn wsX0_stepOn (wsV RX0 34 RX1 yX1_copyFrom wsX1_copyFrom) := gwV mw_44 mw_45 mw_46 mw_7 mw_47
theorem gX0_startAnew_X1_copyFrom : GoodIn wsX0_startAnew (wsV RX0 34 RX1 yX1_copyFrom wsX1_copyFrom) := gwV mw_44 mw_45 mw_46 mw_7 mw_47
theorem gX1_isLike_X1_unlikePowers : GoodIn wsX1_isLike (wsV RX1 29 RX1 yX1_unlikePowers wsX1_unlikePowers) := gwV mw_32 mw_33 mw_34 mw_7 mw_35
theorem gX1_unlikePowers_X1_powerAt : GoodIn wsX1_unlikePowers (wsV RX1 33 RX1 yX1_powerAt wsX1_powerAt) := gwV mw_36 mw_37 mw_38 mw_7 mw_39
theorem gX1_addMark_X1_setPower : GoodIn wsX1_addMark (wsV RX1 37 RX1 yX1_setPower wsX1_setPower) := gwV mw_54 mw_55 mw_56 mw_7 mw_52
theorem gX1_dropMark_X1_powerAt : GoodIn wsX1_dropMark (wsV RX1 33 RX1 yX1_powerAt wsX1_powerAt) := gwV mw_36 mw_37 mw_38 mw_7 mw_39
theorem gX1_dropMark_X1_setPower : GoodIn wsX1_dropMark (wsV RX1 37 RX1 yX1_setPower wsX1_setPower) := gwV mw_54 mw_55 mw_56 mw_7 mw_52
theorem gX1_sortRising_X1_powerAt : GoodIn wsX1_sortRising (wsV RX1 33 RX1 yX1_powerAt wsX1_powerAt) := gwV mw_36 mw_37 mw_38 mw_7 mw_39
theorem gX1_sortRising_X1_swap : GoodIn wsX1_sortRising (wsV RX1 41 RX1 yX1_swap wsX1_swap) := gwV mw_59 mw_60 mw_61 mw_7 mw_62
theorem gX1_turnAbout_X1_swap : GoodIn wsX1_turnAbout (wsV RX1 41 RX1 yX1_swap wsX1_swap) := gwV mw_59 mw_60 mw_61 mw_7 mw_62
theorem gX1_putFirstLast_X1_swap : GoodIn wsX1_putFirstLast (wsV RX1 41 RX1 yX1_swap wsX1_swap) := gwV mw_59 mw_60 mw_61 mw_7 mw_62
theorem gX1_swap_X1_powerAt : GoodIn wsX1_swap (wsV RX1 33 RX1 yX1_powerAt wsX1_powerAt) := gwV mw_36 mw_37 mw_38 mw_7 mw_39
theorem gX1_swap_X1_setPower : GoodIn wsX1_swap (wsV RX1 37 RX1 yX1_setPower wsX1_setPower) := gwV mw_54 mw_55 mw_56 mw_7 mw_52
theorem gX2_isOfKind_X2_isFullTree : GoodIn wsX2_isOfKind (wsV RX2 32 RX2 yX2_isFullTree wsX2_isFullTree) := gwV mw_78 mw_79 mw_80 mw_81 mw_82
theorem gX2_takenFor_J9_floorMod_f86c9 : GoodIn wsX2_takenFor (va_wsS RX2 38 yJ9_floorMod_f86c9 wsJ9_floorMod_f86c9) := gwS mw_96 mw_97 mw_98 mw_99
theorem gX2_takenFor_X6_sizeOf : GoodIn wsX2_takenFor (va_wsS RX2 44 yX6_sizeOf wsX6_sizeOf) := gwS mw_83 mw_84 mw_85 mw_86
theorem gX2_firstUnlike_X6_sizeOf : GoodIn wsX2_firstUnlike (va_wsS RX2 44 yX6_sizeOf wsX6_sizeOf) := gwS mw_83 mw_84 mw_85 mw_86
theorem gX2_firstUnlike_X2_hasPlace : GoodIn wsX2_firstUnlike (wsV RX2 54 RX2 yX2_hasPlace wsX2_hasPlace) := gwV mw_105 mw_106 mw_107 mw_81 mw_76
theorem gX2_firstUnlike_X6_nth : GoodIn wsX2_firstUnlike (va_wsS RX2 58 yX6_nth wsX6_nth) := gwS mw_108 mw_109 mw_85 mw_110
theorem gX2_isFullTree_X6_sizeOf : GoodIn wsX2_isFullTree (va_wsS RX2 44 yX6_sizeOf wsX6_sizeOf) := gwS mw_83 mw_84 mw_85 mw_86
theorem gX3_ruleOf_X3_baseOf : GoodIn wsX3_ruleOf (va_wsS RX3 37 yX3_baseOf wsX3_baseOf) := gwS mw_127 mw_128 mw_129 mw_130
theorem gX3_ruleOf_X3_timesThere : GoodIn wsX3_ruleOf (va_wsS RX3 41 yX3_timesThere wsX3_timesThere) := gwS mw_139 mw_140 mw_129 mw_141
theorem gX3_nextKey_X3_timesThere : GoodIn wsX3_nextKey (va_wsS RX3 41 yX3_timesThere wsX3_timesThere) := gwS mw_139 mw_140 mw_129 mw_141
theorem gX3_weightOf_X3_timesThere : GoodIn wsX3_weightOf (va_wsS RX3 41 yX3_timesThere wsX3_timesThere) := gwS mw_139 mw_140 mw_129 mw_141
theorem gX3_aboveOf_X3_workOut : GoodIn wsX3_aboveOf (wsV RX3 65 RX3 yX3_workOut wsX3_workOut) := gwV mw_147 mw_148 mw_149 mw_129 mw_150
theorem gX3_workOut_X3_slotOf : GoodIn wsX3_workOut (wsV RX3 69 RX3 yX3_slotOf wsX3_slotOf) := gwV mw_151 mw_152 mw_153 mw_129 mw_154
theorem gX3_workOut_X3_ruleOf : GoodIn wsX3_workOut (va_wsS RX3 73 yX3_ruleOf wsX3_ruleOf) := gwS mw_156 mw_157 mw_129 mw_126
theorem gX3_workOut_X3_baseOf : GoodIn wsX3_workOut (va_wsS RX3 37 yX3_baseOf wsX3_baseOf) := gwS mw_127 mw_128 mw_129 mw_130
theorem gX3_workOut_X3_nextKey : GoodIn wsX3_workOut (va_wsS RX3 76 yX3_nextKey wsX3_nextKey) := gwS mw_158 mw_159 mw_129 mw_143
theorem gX3_workOut_X3_weightOf : GoodIn wsX3_workOut (va_wsS RX3 80 yX3_weightOf wsX3_weightOf) := gwS mw_160 mw_161 mw_129 mw_144
theorem gX3_workOut_X3_workOut : GoodIn wsX3_workOut (wsV RX3 65 RX3 yX3_workOut wsX3_workOut) := gwV mw_147 mw_148 mw_149 mw_129 mw_150
theorem gX3_workOut_X3_keep : GoodIn wsX3_workOut (wsV RX3 83 RX3 yX3_keep wsX3_keep) := gwV mw_162 mw_163 mw_164 mw_129 mw_165
theorem gX3_countMet_X3_workOut : GoodIn wsX3_countMet (wsV RX3 65 RX3 yX3_workOut wsX3_workOut) := gwV mw_147 mw_148 mw_149 mw_129 mw_150
theorem gX3_countMet_X3_meet : GoodIn wsX3_countMet (wsV RX3 90 RX3 yX3_meet wsX3_meet) := gwV mw_168 mw_169 mw_170 mw_129 mw_171
theorem gX3_meet_X3_slotOf : GoodIn wsX3_meet (wsV RX3 69 RX3 yX3_slotOf wsX3_slotOf) := gwV mw_151 mw_152 mw_153 mw_129 mw_154
theorem gX3_meet_X3_ruleOf : GoodIn wsX3_meet (va_wsS RX3 73 yX3_ruleOf wsX3_ruleOf) := gwS mw_156 mw_157 mw_129 mw_126
theorem gX3_meet_X3_nextKey : GoodIn wsX3_meet (va_wsS RX3 76 yX3_nextKey wsX3_nextKey) := gwS mw_158 mw_159 mw_129 mw_143
theorem gX3_meet_X3_meet : GoodIn wsX3_meet (wsV RX3 90 RX3 yX3_meet wsX3_meet) := gwV mw_168 mw_169 mw_170 mw_129 mw_171
theorem gX3_keep_X3_slotOf : GoodIn wsX3_keep (wsV RX3 69 RX3 yX3_slotOf wsX3_slotOf) := gwV mw_151 mw_152 mw_153 mw_129 mw_154
theorem gX4_init_X7_init : GoodIn wsX4_init (wsX7_init) := gwA mw_183
theorem gX4_init_X1_init : GoodIn wsX4_init (wsX1_init) := gwA mw_10
theorem gX4_readOver_X1_copyFrom : GoodIn wsX4_readOver (wsV RX4 29 RX1 yX1_copyFrom wsX1_copyFrom) := gwV mw_192 mw_45 mw_46 mw_7 mw_47
theorem gX4_readOver_X4_readText : GoodIn wsX4_readOver (wsV RX4 40 RX4 yX4_readText wsX4_readText) := gwV mw_193 mw_194 mw_195 mw_196 mw_197
theorem gX4_readOver_X4_keepWhy : GoodIn wsX4_readOver (wsV RX4 44 RX4 yX4_keepWhy wsX4_keepWhy) := gwV mw_276 mw_277 mw_278 mw_196 mw_279
theorem gX4_readText_X4_readGenus : GoodIn wsX4_readText (wsV RX4 51 RX4 yX4_readGenus wsX4_readGenus) := gwV mw_199 mw_200 mw_201 mw_196 mw_202
theorem gX4_readText_X4_readSign : GoodIn wsX4_readText (wsV RX4 54 RX4 yX4_readSign wsX4_readSign) := gwV mw_221 mw_222 mw_223 mw_196 mw_224
theorem gX4_readText_X4_readMarks : GoodIn wsX4_readText (wsV RX4 58 RX4 yX4_readMarks wsX4_readMarks) := gwV mw_226 mw_227 mw_228 mw_196 mw_229
theorem gX4_readText_X4_readLeafCount : GoodIn wsX4_readText (wsV RX4 61 RX4 yX4_readLeafCount wsX4_readLeafCount) := gwV mw_237 mw_238 mw_239 mw_196 mw_240
theorem gX4_readText_X4_readSplits : GoodIn wsX4_readText (wsV RX4 64 RX4 yX4_readSplits wsX4_readSplits) := gwV mw_246 mw_247 mw_248 mw_196 mw_249
theorem gX4_readSign_X7_byteAt : GoodIn wsX4_readSign (wsV RX4 68 RX7 yX7_byteAt wsX7_byteAt) := gwV mw_225 mw_209 mw_210 mw_176 mw_211
theorem gX4_readGenus_X7_isFigure : GoodIn wsX4_readGenus (wsV RX4 72 RX7 yX7_isFigure wsX7_isFigure) := gwV mw_204 mw_205 mw_206 mw_176 mw_207
theorem gX4_readGenus_X7_figureAt : GoodIn wsX4_readGenus (wsV RX4 76 RX7 yX7_figureAt wsX7_figureAt) := gwV mw_213 mw_214 mw_215 mw_176 mw_216
theorem gX4_readGenus_X4_noteCannotBe : GoodIn wsX4_readGenus (wsV RX4 82 RX4 yX4_noteCannotBe wsX4_noteCannotBe) := gwV mw_217 mw_218 mw_219 mw_196 mw_220
theorem gX4_readMarks_X7_isFigure : GoodIn wsX4_readMarks (wsV RX4 72 RX7 yX7_isFigure wsX7_isFigure) := gwV mw_204 mw_205 mw_206 mw_176 mw_207
theorem gX4_readMarks_X4_readPower : GoodIn wsX4_readMarks (wsV RX4 86 RX4 yX4_readPower wsX4_readPower) := gwV mw_230 mw_231 mw_232 mw_196 mw_233
theorem gX4_readMarks_X4_readSign : GoodIn wsX4_readMarks (wsV RX4 54 RX4 yX4_readSign wsX4_readSign) := gwV mw_221 mw_222 mw_223 mw_196 mw_224
theorem gX4_readPower_X7_figureAt : GoodIn wsX4_readPower (wsV RX4 76 RX7 yX7_figureAt wsX7_figureAt) := gwV mw_213 mw_214 mw_215 mw_176 mw_216
theorem gX4_readPower_X7_isFigure : GoodIn wsX4_readPower (wsV RX4 72 RX7 yX7_isFigure wsX7_isFigure) := gwV mw_204 mw_205 mw_206 mw_176 mw_207
theorem gX4_readPower_X4_noteCannotBe : GoodIn wsX4_readPower (wsV RX4 82 RX4 yX4_noteCannotBe wsX4_noteCannotBe) := gwV mw_217 mw_218 mw_219 mw_196 mw_220
theorem gX4_readPower_X1_addMark : GoodIn wsX4_readPower (wsV RX4 89 RX1 yX1_addMark wsX1_addMark) := gwV mw_234 mw_235 mw_236 mw_7 mw_53
theorem gX4_readLeafCount_X7_isFigure : GoodIn wsX4_readLeafCount (wsV RX4 72 RX7 yX7_isFigure wsX7_isFigure) := gwV mw_204 mw_205 mw_206 mw_176 mw_207
theorem gX4_readLeafCount_X7_figureAt : GoodIn wsX4_readLeafCount (wsV RX4 76 RX7 yX7_figureAt wsX7_figureAt) := gwV mw_213 mw_214 mw_215 mw_176 mw_216
theorem gX4_readLeafCount_X6_isLeafCount : GoodIn wsX4_readLeafCount (va_wsS RX4 99 yX6_isLeafCount wsX6_isLeafCount) := gwS mw_243 mw_244 mw_85 mw_245
theorem gX4_readLeafCount_X4_noteCannotBe : GoodIn wsX4_readLeafCount (wsV RX4 82 RX4 yX4_noteCannotBe wsX4_noteCannotBe) := gwV mw_217 mw_218 mw_219 mw_196 mw_220
theorem gX4_readSplits_X4_readSign : GoodIn wsX4_readSplits (wsV RX4 54 RX4 yX4_readSign wsX4_readSign) := gwV mw_221 mw_222 mw_223 mw_196 mw_224
theorem gX4_readSplits_X4_readSplit : GoodIn wsX4_readSplits (wsV RX4 104 RX4 yX4_readSplit wsX4_readSplit) := gwV mw_250 mw_251 mw_252 mw_196 mw_253
theorem gX4_readSplit_X7_isFigure : GoodIn wsX4_readSplit (wsV RX4 72 RX7 yX7_isFigure wsX7_isFigure) := gwV mw_204 mw_205 mw_206 mw_176 mw_207
theorem gX4_readSplit_X7_figureAt : GoodIn wsX4_readSplit (wsV RX4 76 RX7 yX7_figureAt wsX7_figureAt) := gwV mw_213 mw_214 mw_215 mw_176 mw_216
theorem gX4_readSplit_X6_isSplit : GoodIn wsX4_readSplit (va_wsS RX4 107 yX6_isSplit wsX6_isSplit) := gwS mw_254 mw_255 mw_85 mw_256
theorem gX4_readSplit_X6_fits : GoodIn wsX4_readSplit (va_wsS RX4 111 yX6_fits wsX6_fits) := gwS mw_265 mw_266 mw_85 mw_267
theorem gX4_readSplit_X6_with : GoodIn wsX4_readSplit (va_wsS RX4 115 yX6_with wsX6_with) := gwS mw_273 mw_274 mw_85 mw_275
theorem gX4_readSplit_X4_noteCannotBe : GoodIn wsX4_readSplit (wsV RX4 82 RX4 yX4_noteCannotBe wsX4_noteCannotBe) := gwV mw_217 mw_218 mw_219 mw_196 mw_220
theorem gX4_keepWhy_X4_sortOf : GoodIn wsX4_keepWhy (wsV RX4 123 RX4 yX4_sortOf wsX4_sortOf) := gwV mw_281 mw_282 mw_283 mw_196 mw_284
theorem gX4_keepWhy_X4_signsAhead : GoodIn wsX4_keepWhy (wsV RX4 126 RX4 yX4_signsAhead wsX4_signsAhead) := gwV mw_289 mw_290 mw_291 mw_196 mw_292
theorem gX4_sortOf_X7_firstOf : GoodIn wsX4_sortOf (wsV RX4 130 RX7 yX7_firstOf wsX7_firstOf) := gwV mw_285 mw_286 mw_287 mw_176 mw_288
theorem gX4_signsAhead_X7_timesAhead : GoodIn wsX4_signsAhead (wsV RX4 134 RX7 yX7_timesAhead wsX7_timesAhead) := gwV mw_293 mw_294 mw_295 mw_176 mw_296
theorem gX5_tell_X5_addFigure : GoodIn wsX5_tell (wsV RX5 24 RX5 yX5_addFigure wsX5_addFigure) := gwV mw_307 mw_308 mw_309 mw_310 mw_311
theorem gX5_tell_X5_addByte : GoodIn wsX5_tell (wsV RX5 28 RX5 yX5_addByte wsX5_addByte) := gwV mw_312 mw_313 mw_314 mw_310 mw_315
theorem gX5_tell_X1_powerAt : GoodIn wsX5_tell (wsV RX5 32 RX1 yX1_powerAt wsX1_powerAt) := gwV mw_316 mw_37 mw_38 mw_7 mw_39
theorem gX5_tell_X5_addPower : GoodIn wsX5_tell (wsV RX5 36 RX5 yX5_addPower wsX5_addPower) := gwV mw_317 mw_318 mw_319 mw_310 mw_320
theorem gX5_tell_X6_sizeOf : GoodIn wsX5_tell (va_wsS RX5 46 yX6_sizeOf wsX6_sizeOf) := gwS mw_321 mw_84 mw_85 mw_86
theorem gX5_tell_X6_nth : GoodIn wsX5_tell (va_wsS RX5 52 yX6_nth wsX6_nth) := gwS mw_322 mw_109 mw_85 mw_110
theorem gX5_tell_X5_addSplit : GoodIn wsX5_tell (wsV RX5 56 RX5 yX5_addSplit wsX5_addSplit) := gwV mw_323 mw_324 mw_325 mw_310 mw_326
theorem gX5_addPower_X5_addFigure : GoodIn wsX5_addPower (wsV RX5 24 RX5 yX5_addFigure wsX5_addFigure) := gwV mw_307 mw_308 mw_309 mw_310 mw_311
theorem gX5_addSplit_X5_addByte : GoodIn wsX5_addSplit (wsV RX5 28 RX5 yX5_addByte wsX5_addByte) := gwV mw_312 mw_313 mw_314 mw_310 mw_315
theorem gX5_addSplit_X5_addFigure : GoodIn wsX5_addSplit (wsV RX5 24 RX5 yX5_addFigure wsX5_addFigure) := gwV mw_307 mw_308 mw_309 mw_310 mw_311
theorem gX5_addFigure_X5_addByte : GoodIn wsX5_addFigure (wsV RX5 28 RX5 yX5_addByte wsX5_addByte) := gwV mw_312 mw_313 mw_314 mw_310 mw_315
theorem gX6_isSplit_X6_isLeafCount : GoodIn wsX6_isSplit (va_wsS RX6 9 yX6_isLeafCount wsX6_isLeafCount) := gwS mw_257 mw_244 mw_85 mw_245
theorem gX6_isSplit_J6_bitCount_0f7a4 : GoodIn wsX6_isSplit (va_wsS RX6 15 yJ6_bitCount_0f7a4 wsJ6_bitCount_0f7a4) := gwS mw_258 mw_259 mw_260 mw_261
theorem gX6_sizeOf_J13_bitCount_95d88 : GoodIn wsX6_sizeOf (va_wsS RX6 23 yJ13_bitCount_95d88 wsJ13_bitCount_95d88) := gwS mw_87 mw_88 mw_89 mw_90
theorem gX6_nth_J13_bitCount_95d88 : GoodIn wsX6_nth (va_wsS RX6 23 yJ13_bitCount_95d88 wsJ13_bitCount_95d88) := gwS mw_87 mw_88 mw_89 mw_90
theorem gX6_fits_X6_sizeOf : GoodIn wsX6_fits (va_wsS RX6 28 yX6_sizeOf wsX6_sizeOf) := gwS mw_268 mw_84 mw_85 mw_86
theorem gX6_fits_X6_nth : GoodIn wsX6_fits (va_wsS RX6 31 yX6_nth wsX6_nth) := gwS mw_269 mw_109 mw_85 mw_110
theorem gX6_fits_X6_goTogether : GoodIn wsX6_fits (va_wsS RX6 35 yX6_goTogether wsX6_goTogether) := gwS mw_270 mw_271 mw_85 mw_272
theorem gX6_lesserWithin_X6_sizeOf : GoodIn wsX6_lesserWithin (va_wsS RX6 28 yX6_sizeOf wsX6_sizeOf) := gwS mw_268 mw_84 mw_85 mw_86
theorem gX6_lesserWithin_X6_nth : GoodIn wsX6_lesserWithin (va_wsS RX6 31 yX6_nth wsX6_nth) := gwS mw_269 mw_109 mw_85 mw_110
theorem gX6_lesserWithin_X6_isWithin : GoodIn wsX6_lesserWithin (va_wsS RX6 39 yX6_isWithin wsX6_isWithin) := gwS mw_333 mw_334 mw_85 mw_330
theorem gX6_lesserWithin_X6_with : GoodIn wsX6_lesserWithin (va_wsS RX6 42 yX6_with wsX6_with) := gwS mw_335 mw_274 mw_85 mw_275
theorem gX6_leavesAt_X6_lesserWithin : GoodIn wsX6_leavesAt (va_wsS RX6 46 yX6_lesserWithin wsX6_lesserWithin) := gwS mw_337 mw_338 mw_85 mw_332
theorem gX6_leavesAt_X6_sizeOf : GoodIn wsX6_leavesAt (va_wsS RX6 28 yX6_sizeOf wsX6_sizeOf) := gwS mw_268 mw_84 mw_85 mw_86
theorem gX6_leavesAt_X6_nth : GoodIn wsX6_leavesAt (va_wsS RX6 31 yX6_nth wsX6_nth) := gwS mw_269 mw_109 mw_85 mw_110
theorem gX6_edgesDown_X6_lesserWithin : GoodIn wsX6_edgesDown (va_wsS RX6 46 yX6_lesserWithin wsX6_lesserWithin) := gwS mw_337 mw_338 mw_85 mw_332
theorem gX6_edgesDown_X6_sizeOf : GoodIn wsX6_edgesDown (va_wsS RX6 28 yX6_sizeOf wsX6_sizeOf) := gwS mw_268 mw_84 mw_85 mw_86
theorem gX6_edgesDown_X6_nth : GoodIn wsX6_edgesDown (va_wsS RX6 31 yX6_nth wsX6_nth) := gwS mw_269 mw_109 mw_85 mw_110
theorem gX6_edgesDown_X6_isOutermost : GoodIn wsX6_edgesDown (va_wsS RX6 49 yX6_isOutermost wsX6_isOutermost) := gwS mw_340 mw_341 mw_85 mw_342
theorem gX6_isOutermost_X6_sizeOf : GoodIn wsX6_isOutermost (va_wsS RX6 28 yX6_sizeOf wsX6_sizeOf) := gwS mw_268 mw_84 mw_85 mw_86
theorem gX6_isOutermost_X6_nth : GoodIn wsX6_isOutermost (va_wsS RX6 31 yX6_nth wsX6_nth) := gwS mw_269 mw_109 mw_85 mw_110
theorem gX6_isOutermost_X6_isWithin : GoodIn wsX6_isOutermost (va_wsS RX6 39 yX6_isWithin wsX6_isWithin) := gwS mw_333 mw_334 mw_85 mw_330
theorem gX6_countTrees_X6_countMore : GoodIn wsX6_countTrees (va_wsS RX6 53 yX6_countMore wsX6_countMore) := gwS mw_344 mw_345 mw_85 mw_346
theorem gX6_countMore_X6_sizeOf : GoodIn wsX6_countMore (va_wsS RX6 28 yX6_sizeOf wsX6_sizeOf) := gwS mw_268 mw_84 mw_85 mw_86
theorem gX6_countMore_X6_isSplit : GoodIn wsX6_countMore (va_wsS RX6 57 yX6_isSplit wsX6_isSplit) := gwS mw_347 mw_255 mw_85 mw_256
theorem gX6_countMore_X6_fits : GoodIn wsX6_countMore (va_wsS RX6 60 yX6_fits wsX6_fits) := gwS mw_348 mw_266 mw_85 mw_267
theorem gX6_countMore_X6_with : GoodIn wsX6_countMore (va_wsS RX6 42 yX6_with wsX6_with) := gwS mw_335 mw_274 mw_85 mw_275
theorem gX6_countMore_X6_countMore : GoodIn wsX6_countMore (va_wsS RX6 53 yX6_countMore wsX6_countMore) := gwS mw_344 mw_345 mw_85 mw_346
theorem gX6_treeAt_X6_isSplit : GoodIn wsX6_treeAt (va_wsS RX6 57 yX6_isSplit wsX6_isSplit) := gwS mw_347 mw_255 mw_85 mw_256
theorem gX6_treeAt_X6_fits : GoodIn wsX6_treeAt (va_wsS RX6 60 yX6_fits wsX6_fits) := gwS mw_348 mw_266 mw_85 mw_267
theorem gX6_treeAt_X6_with : GoodIn wsX6_treeAt (va_wsS RX6 42 yX6_with wsX6_with) := gwS mw_335 mw_274 mw_85 mw_275
theorem gX6_treeAt_X6_countMore : GoodIn wsX6_treeAt (va_wsS RX6 53 yX6_countMore wsX6_countMore) := gwS mw_344 mw_345 mw_85 mw_346
theorem gX6_forgetLeaf_X6_sizeOf : GoodIn wsX6_forgetLeaf (va_wsS RX6 28 yX6_sizeOf wsX6_sizeOf) := gwS mw_268 mw_84 mw_85 mw_86
theorem gX6_forgetLeaf_X6_nth : GoodIn wsX6_forgetLeaf (va_wsS RX6 31 yX6_nth wsX6_nth) := gwS mw_269 mw_109 mw_85 mw_110
theorem gX6_forgetLeaf_X6_leftWithout : GoodIn wsX6_forgetLeaf (va_wsS RX6 63 yX6_leftWithout wsX6_leftWithout) := gwS mw_351 mw_352 mw_85 mw_353
theorem gX6_forgetLeaf_X6_isSplit : GoodIn wsX6_forgetLeaf (va_wsS RX6 57 yX6_isSplit wsX6_isSplit) := gwS mw_347 mw_255 mw_85 mw_256
theorem gX6_forgetLeaf_X6_with : GoodIn wsX6_forgetLeaf (va_wsS RX6 42 yX6_with wsX6_with) := gwS mw_335 mw_274 mw_85 mw_275
theorem gX7_isFigure_X7_byteAt : GoodIn wsX7_isFigure (wsV RX7 19 RX7 yX7_byteAt wsX7_byteAt) := gwV mw_208 mw_209 mw_210 mw_176 mw_211
theorem gX7_figureAt_X7_byteAt : GoodIn wsX7_figureAt (wsV RX7 19 RX7 yX7_byteAt wsX7_byteAt) := gwV mw_208 mw_209 mw_210 mw_176 mw_211
theorem gX7_firstOf_X7_byteAt : GoodIn wsX7_firstOf (wsV RX7 19 RX7 yX7_byteAt wsX7_byteAt) := gwV mw_208 mw_209 mw_210 mw_176 mw_211
theorem gX7_timesAhead_X7_byteAt : GoodIn wsX7_timesAhead (wsV RX7 19 RX7 yX7_byteAt wsX7_byteAt) := gwV mw_208 mw_209 mw_210 mw_176 mw_211
theorem gX8_init_X1_init : GoodIn wsX8_init (wsX1_init) := gwA mw_10
theorem gX8_init_X0_init : GoodIn wsX8_init (wsX0_init) := gwA mw_0
theorem gX8_init_X3_init : GoodIn wsX8_init (wsX3_init) := gwA mw_111
theorem gX8_init_X4_init : GoodIn wsX8_init (wsX4_init) := gwA mw_172
theorem gX8_init_X5_init : GoodIn wsX8_init (wsX5_init) := gwA mw_297
theorem gX8_init_X2_init : GoodIn wsX8_init (wsX2_init) := gwA mw_65
theorem gX8_genus_X0_settle : GoodIn wsX8_genus (wsV RX8 65 RX0 yX0_settle wsX0_settle) := gwV mw_390 mw_391 mw_392 mw_24 mw_20
theorem gX8_mark_X8_isPower : GoodIn wsX8_mark (va_wsS RX8 69 yX8_isPower wsX8_isPower) := gwS mw_395 mw_396 mw_397 mw_398
theorem gX8_mark_X1_addMark : GoodIn wsX8_mark (wsV RX8 76 RX1 yX1_addMark wsX1_addMark) := gwV mw_399 mw_235 mw_236 mw_7 mw_53
theorem gX8_mark_X0_settle : GoodIn wsX8_mark (wsV RX8 65 RX0 yX0_settle wsX0_settle) := gwV mw_390 mw_391 mw_392 mw_24 mw_20
theorem gX8_take_X1_hasMark : GoodIn wsX8_take (wsV RX8 80 RX1 yX1_hasMark wsX1_hasMark) := gwV mw_401 mw_402 mw_403 mw_7 mw_51
theorem gX8_take_X1_dropMark : GoodIn wsX8_take (wsV RX8 83 RX1 yX1_dropMark wsX1_dropMark) := gwV mw_404 mw_405 mw_406 mw_7 mw_57
theorem gX8_take_X0_settle : GoodIn wsX8_take (wsV RX8 65 RX0 yX0_settle wsX0_settle) := gwV mw_390 mw_391 mw_392 mw_24 mw_20
theorem gX8_change_X1_hasMark : GoodIn wsX8_change (wsV RX8 80 RX1 yX1_hasMark wsX1_hasMark) := gwV mw_401 mw_402 mw_403 mw_7 mw_51
theorem gX8_change_X8_isPower : GoodIn wsX8_change (va_wsS RX8 69 yX8_isPower wsX8_isPower) := gwS mw_395 mw_396 mw_397 mw_398
theorem gX8_change_X1_powerAt : GoodIn wsX8_change (wsV RX8 86 RX1 yX1_powerAt wsX1_powerAt) := gwV mw_408 mw_37 mw_38 mw_7 mw_39
theorem gX8_change_X1_setPower : GoodIn wsX8_change (wsV RX8 90 RX1 yX1_setPower wsX1_setPower) := gwV mw_409 mw_55 mw_56 mw_7 mw_52
theorem gX8_change_X0_settle : GoodIn wsX8_change (wsV RX8 65 RX0 yX0_settle wsX0_settle) := gwV mw_390 mw_391 mw_392 mw_24 mw_20
theorem gX8_order_X1_sortRising : GoodIn wsX8_order (wsV RX8 94 RX1 yX1_sortRising wsX1_sortRising) := gwV mw_411 mw_412 mw_413 mw_7 mw_58
theorem gX8_order_X1_turnAbout : GoodIn wsX8_order (wsV RX8 97 RX1 yX1_turnAbout wsX1_turnAbout) := gwV mw_414 mw_415 mw_416 mw_7 mw_63
theorem gX8_order_X1_putFirstLast : GoodIn wsX8_order (wsV RX8 100 RX1 yX1_putFirstLast wsX1_putFirstLast) := gwV mw_417 mw_418 mw_419 mw_7 mw_64
theorem gX8_order_X0_present : GoodIn wsX8_order (wsV RX8 103 RX0 yX0_present wsX0_present) := gwV mw_420 mw_22 mw_23 mw_24 mw_19
theorem gX8_order_X1_unlikePowers : GoodIn wsX8_order (wsV RX8 107 RX1 yX1_unlikePowers wsX1_unlikePowers) := gwV mw_421 mw_33 mw_34 mw_7 mw_35
theorem gX8_order_X0_settle : GoodIn wsX8_order (wsV RX8 65 RX0 yX0_settle wsX0_settle) := gwV mw_390 mw_391 mw_392 mw_24 mw_20
theorem gX8_of_X1_hasMark : GoodIn wsX8_of (wsV RX8 80 RX1 yX1_hasMark wsX1_hasMark) := gwV mw_401 mw_402 mw_403 mw_7 mw_51
theorem gX8_of_X1_powerAt : GoodIn wsX8_of (wsV RX8 86 RX1 yX1_powerAt wsX1_powerAt) := gwV mw_408 mw_37 mw_38 mw_7 mw_39
theorem gX8_number_X8_isPart : GoodIn wsX8_number (va_wsS RX8 111 yX8_isPart wsX8_isPart) := gwS mw_425 mw_426 mw_397 mw_427
theorem gX8_number_X8_aboveWith : GoodIn wsX8_number (wsV RX8 116 RX8 yX8_aboveWith wsX8_aboveWith) := gwV mw_428 mw_429 mw_430 mw_397 mw_431
theorem gX8_number_X3_lineOf : GoodIn wsX8_number (va_wsS RX8 120 yX3_lineOf wsX3_lineOf) := gwS mw_448 mw_449 mw_129 mw_117
theorem gX8_number_X8_partOf : GoodIn wsX8_number (va_wsS RX8 124 yX8_partOf wsX8_partOf) := gwS mw_450 mw_451 mw_397 mw_452
theorem gX8_rule_X8_keyWith : GoodIn wsX8_rule (wsV RX8 128 RX8 yX8_keyWith wsX8_keyWith) := gwV mw_432 mw_433 mw_434 mw_397 mw_435
theorem gX8_rule_X3_ruleOf : GoodIn wsX8_rule (va_wsS RX8 131 yX3_ruleOf wsX3_ruleOf) := gwS mw_460 mw_157 mw_129 mw_126
theorem gX8_met_X8_keyWith : GoodIn wsX8_met (wsV RX8 128 RX8 yX8_keyWith wsX8_keyWith) := gwV mw_432 mw_433 mw_434 mw_397 mw_435
theorem gX8_met_X3_countMet : GoodIn wsX8_met (wsV RX8 135 RX3 yX3_countMet wsX3_countMet) := gwV mw_462 mw_463 mw_464 mw_129 mw_166
theorem gX8_kappa_X8_isKappa : GoodIn wsX8_kappa (va_wsS RX8 138 yX8_isKappa wsX8_isKappa) := gwS mw_466 mw_467 mw_397 mw_468
theorem gX8_kappa_X8_isPart : GoodIn wsX8_kappa (va_wsS RX8 111 yX8_isPart wsX8_isPart) := gwS mw_425 mw_426 mw_397 mw_427
theorem gX8_kappa_X8_kappaOfThree : GoodIn wsX8_kappa (wsV RX8 141 RX8 yX8_kappaOfThree wsX8_kappaOfThree) := gwV mw_469 mw_470 mw_471 mw_397 mw_472
theorem gX8_kappa_X8_kappaOfTwo : GoodIn wsX8_kappa (wsV RX8 144 RX8 yX8_kappaOfTwo wsX8_kappaOfTwo) := gwV mw_474 mw_475 mw_476 mw_397 mw_477
theorem gX8_kappa_X8_aboveWith : GoodIn wsX8_kappa (wsV RX8 116 RX8 yX8_aboveWith wsX8_aboveWith) := gwV mw_428 mw_429 mw_430 mw_397 mw_431
theorem gX8_kappa_X3_lineOf : GoodIn wsX8_kappa (va_wsS RX8 120 yX3_lineOf wsX3_lineOf) := gwS mw_448 mw_449 mw_129 mw_117
theorem gX8_kappa_X8_partOf : GoodIn wsX8_kappa (va_wsS RX8 124 yX8_partOf wsX8_partOf) := gwS mw_450 mw_451 mw_397 mw_452
theorem gX8_leaves_X6_isLeafCount : GoodIn wsX8_leaves (va_wsS RX8 148 yX6_isLeafCount wsX6_isLeafCount) := gwS mw_481 mw_244 mw_85 mw_245
theorem gX8_leaves_X0_settle : GoodIn wsX8_leaves (wsV RX8 65 RX0 yX0_settle wsX0_settle) := gwV mw_390 mw_391 mw_392 mw_24 mw_20
theorem gX8_split_X6_isSplit : GoodIn wsX8_split (va_wsS RX8 160 yX6_isSplit wsX6_isSplit) := gwS mw_483 mw_255 mw_85 mw_256
theorem gX8_split_X6_fits : GoodIn wsX8_split (va_wsS RX8 164 yX6_fits wsX6_fits) := gwS mw_484 mw_266 mw_85 mw_267
theorem gX8_split_X6_with : GoodIn wsX8_split (va_wsS RX8 168 yX6_with wsX6_with) := gwS mw_485 mw_274 mw_85 mw_275
theorem gX8_split_X0_settle : GoodIn wsX8_split (wsV RX8 65 RX0 yX0_settle wsX0_settle) := gwV mw_390 mw_391 mw_392 mw_24 mw_20
theorem gX8_split_X6_sizeOf : GoodIn wsX8_split (va_wsS RX8 172 yX6_sizeOf wsX6_sizeOf) := gwS mw_486 mw_84 mw_85 mw_86
theorem gX8_join_X6_isSplit : GoodIn wsX8_join (va_wsS RX8 160 yX6_isSplit wsX6_isSplit) := gwS mw_483 mw_255 mw_85 mw_256
theorem gX8_join_X6_has : GoodIn wsX8_join (va_wsS RX8 175 yX6_has wsX6_has) := gwS mw_488 mw_489 mw_85 mw_327
theorem gX8_join_X6_without : GoodIn wsX8_join (va_wsS RX8 178 yX6_without wsX6_without) := gwS mw_490 mw_491 mw_85 mw_328
theorem gX8_join_X0_settle : GoodIn wsX8_join (wsV RX8 65 RX0 yX0_settle wsX0_settle) := gwV mw_390 mw_391 mw_392 mw_24 mw_20
theorem gX8_join_X6_sizeOf : GoodIn wsX8_join (va_wsS RX8 172 yX6_sizeOf wsX6_sizeOf) := gwS mw_486 mw_84 mw_85 mw_86
theorem gX8_splitAt_X6_nth : GoodIn wsX8_splitAt (va_wsS RX8 181 yX6_nth wsX6_nth) := gwS mw_493 mw_109 mw_85 mw_110
theorem gX8_may_X6_isSplit : GoodIn wsX8_may (va_wsS RX8 160 yX6_isSplit wsX6_isSplit) := gwS mw_483 mw_255 mw_85 mw_256
theorem gX8_may_X6_fits : GoodIn wsX8_may (va_wsS RX8 164 yX6_fits wsX6_fits) := gwS mw_484 mw_266 mw_85 mw_267
theorem gX8_valence_X6_isSplit : GoodIn wsX8_valence (va_wsS RX8 160 yX6_isSplit wsX6_isSplit) := gwS mw_483 mw_255 mw_85 mw_256
theorem gX8_valence_X6_has : GoodIn wsX8_valence (va_wsS RX8 175 yX6_has wsX6_has) := gwS mw_488 mw_489 mw_85 mw_327
theorem gX8_valence_X6_under : GoodIn wsX8_valence (va_wsS RX8 185 yX6_under wsX6_under) := gwS mw_496 mw_497 mw_85 mw_331
theorem gX8_valence_X6_leavesAt : GoodIn wsX8_valence (va_wsS RX8 189 yX6_leavesAt wsX6_leavesAt) := gwS mw_498 mw_499 mw_85 mw_336
theorem gX8_valence_J6_bitCount_0f7a4 : GoodIn wsX8_valence (va_wsS RX8 192 yJ6_bitCount_0f7a4 wsJ6_bitCount_0f7a4) := gwS mw_500 mw_259 mw_260 mw_261
theorem gX8_valence_X6_edgesDown : GoodIn wsX8_valence (va_wsS RX8 197 yX6_edgesDown wsX6_edgesDown) := gwS mw_501 mw_502 mw_85 mw_339
theorem gX8_trees_X6_isLeafCount : GoodIn wsX8_trees (va_wsS RX8 148 yX6_isLeafCount wsX6_isLeafCount) := gwS mw_481 mw_244 mw_85 mw_245
theorem gX8_trees_X8_isSplitCount : GoodIn wsX8_trees (va_wsS RX8 200 yX8_isSplitCount wsX8_isSplitCount) := gwS mw_504 mw_505 mw_397 mw_506
theorem gX8_trees_X6_countTrees : GoodIn wsX8_trees (va_wsS RX8 203 yX6_countTrees wsX6_countTrees) := gwS mw_507 mw_508 mw_85 mw_343
theorem gX8_tree_X6_isLeafCount : GoodIn wsX8_tree (va_wsS RX8 148 yX6_isLeafCount wsX6_isLeafCount) := gwS mw_481 mw_244 mw_85 mw_245
theorem gX8_tree_X8_isSplitCount : GoodIn wsX8_tree (va_wsS RX8 200 yX8_isSplitCount wsX8_isSplitCount) := gwS mw_504 mw_505 mw_397 mw_506
theorem gX8_tree_X6_treeAt : GoodIn wsX8_tree (va_wsS RX8 206 yX6_treeAt wsX6_treeAt) := gwS mw_510 mw_511 mw_85 mw_349
theorem gX8_tree_X6_nth : GoodIn wsX8_tree (va_wsS RX8 181 yX6_nth wsX6_nth) := gwS mw_493 mw_109 mw_85 mw_110
theorem gX8_forget_X6_forgetLeaf : GoodIn wsX8_forget (va_wsS RX8 209 yX6_forgetLeaf wsX6_forgetLeaf) := gwS mw_513 mw_514 mw_85 mw_350
theorem gX8_forget_X0_settle : GoodIn wsX8_forget (wsV RX8 65 RX0 yX0_settle wsX0_settle) := gwV mw_390 mw_391 mw_392 mw_24 mw_20
theorem gX8_forget_X6_sizeOf : GoodIn wsX8_forget (va_wsS RX8 172 yX6_sizeOf wsX6_sizeOf) := gwS mw_486 mw_84 mw_85 mw_86
theorem gX8_onTree_X8_numberOfNode : GoodIn wsX8_onTree (wsV RX8 213 RX8 yX8_numberOfNode wsX8_numberOfNode) := gwV mw_516 mw_517 mw_518 mw_397 mw_519
theorem gX8_onTree_X6_sizeOf : GoodIn wsX8_onTree (va_wsS RX8 172 yX6_sizeOf wsX6_sizeOf) := gwS mw_486 mw_84 mw_85 mw_86
theorem gX8_onTree_X6_nth : GoodIn wsX8_onTree (va_wsS RX8 181 yX6_nth wsX6_nth) := gwS mw_493 mw_109 mw_85 mw_110
theorem gX8_undo_X0_undoable : GoodIn wsX8_undo (wsV RX8 216 RX0 yX0_undoable wsX0_undoable) := gwV mw_521 mw_522 mw_523 mw_24 mw_15
theorem gX8_undo_X0_stepBack : GoodIn wsX8_undo (wsV RX8 220 RX0 yX0_stepBack wsX0_stepBack) := gwV mw_524 mw_525 mw_526 mw_24 mw_48
theorem gX8_again_X0_repeatable : GoodIn wsX8_again (wsV RX8 223 RX0 yX0_repeatable wsX0_repeatable) := gwV mw_528 mw_529 mw_530 mw_24 mw_17
theorem gX8_again_X0_stepOn : GoodIn wsX8_again (wsV RX8 226 RX0 yX0_stepOn wsX0_stepOn) := gwV mw_531 mw_532 mw_533 mw_24 mw_49
theorem gX8_feed_X7_add : GoodIn wsX8_feed (wsV RX8 232 RX7 yX7_add wsX7_add) := gwV mw_536 mw_537 mw_538 mw_176 mw_354
theorem gX8_read_X4_readOver : GoodIn wsX8_read (wsV RX8 235 RX4 yX4_readOver wsX4_readOver) := gwV mw_541 mw_542 mw_543 mw_196 mw_188
theorem gX8_read_X0_settle : GoodIn wsX8_read (wsV RX8 65 RX0 yX0_settle wsX0_settle) := gwV mw_390 mw_391 mw_392 mw_24 mw_20
theorem gX8_why_X4_causeAt : GoodIn wsX8_why (wsV RX8 242 RX4 yX4_causeAt wsX4_causeAt) := gwV mw_546 mw_547 mw_548 mw_196 mw_187
theorem gX8_spell_X5_tell : GoodIn wsX8_spell (wsV RX8 245 RX5 yX5_tell wsX5_tell) := gwV mw_551 mw_552 mw_553 mw_310 mw_302
theorem gX8_spell_X5_byteAt : GoodIn wsX8_spell (wsV RX8 249 RX5 yX5_byteAt wsX5_byteAt) := gwV mw_554 mw_555 mw_556 mw_310 mw_300
theorem gX8_hold_X8_holderAt : GoodIn wsX8_hold (wsV RX8 252 RX8 yX8_holderAt wsX8_holderAt) := gwV mw_558 mw_559 mw_560 mw_397 mw_561
theorem gX8_hold_X8_number : GoodIn wsX8_hold (wsV RX8 256 RX8 yX8_number wsX8_number) := gwV mw_562 mw_563 mw_564 mw_397 mw_423
theorem gX8_hold_X2_holdNumber : GoodIn wsX8_hold (wsV RX8 259 RX2 yX2_holdNumber wsX2_holdNumber) := gwV mw_565 mw_566 mw_567 mw_81 mw_68
theorem gX8_hold_X2_holdTree : GoodIn wsX8_hold (wsV RX8 263 RX2 yX2_holdTree wsX2_holdTree) := gwV mw_568 mw_569 mw_570 mw_81 mw_71
theorem gX8_hold_X6_sizeOf : GoodIn wsX8_hold (va_wsS RX8 172 yX6_sizeOf wsX6_sizeOf) := gwS mw_486 mw_84 mw_85 mw_86
theorem gX8_lose_X8_holderAt : GoodIn wsX8_lose (wsV RX8 252 RX8 yX8_holderAt wsX8_holderAt) := gwV mw_558 mw_559 mw_560 mw_397 mw_561
theorem gX8_taken_X8_holderAt : GoodIn wsX8_taken (wsV RX8 252 RX8 yX8_holderAt wsX8_holderAt) := gwV mw_558 mw_559 mw_560 mw_397 mw_561
theorem gX8_taken_X2_isOfKind : GoodIn wsX8_taken (wsV RX8 270 RX2 yX2_isOfKind wsX2_isOfKind) := gwV mw_574 mw_575 mw_576 mw_81 mw_77
theorem gX8_taken_X2_takenFor : GoodIn wsX8_taken (wsV RX8 273 RX2 yX2_takenFor wsX2_takenFor) := gwV mw_577 mw_578 mw_579 mw_81 mw_94
theorem gX8_common_X8_holderAt : GoodIn wsX8_common (wsV RX8 252 RX8 yX8_holderAt wsX8_holderAt) := gwV mw_558 mw_559 mw_560 mw_397 mw_561
theorem gX8_common_X8_refusalOf : GoodIn wsX8_common (va_wsS RX8 276 yX8_refusalOf wsX8_refusalOf) := gwS mw_583 mw_584 mw_397 mw_585
theorem gX8_common_X6_sizeOf : GoodIn wsX8_common (va_wsS RX8 172 yX6_sizeOf wsX6_sizeOf) := gwS mw_486 mw_84 mw_85 mw_86
theorem gX8_row_X8_holderAt : GoodIn wsX8_row (wsV RX8 252 RX8 yX8_holderAt wsX8_holderAt) := gwV mw_558 mw_559 mw_560 mw_397 mw_561
theorem gX8_row_X2_holdRow : GoodIn wsX8_row (wsV RX8 282 RX2 yX2_holdRow wsX2_holdRow) := gwV mw_587 mw_588 mw_589 mw_81 mw_74
theorem gX8_set_X8_holderAt : GoodIn wsX8_set (wsV RX8 252 RX8 yX8_holderAt wsX8_holderAt) := gwV mw_558 mw_559 mw_560 mw_397 mw_561
theorem gX8_set_X8_refusalOf : GoodIn wsX8_set (va_wsS RX8 276 yX8_refusalOf wsX8_refusalOf) := gwS mw_583 mw_584 mw_397 mw_585
theorem gX8_set_X2_hasPlace : GoodIn wsX8_set (wsV RX8 285 RX2 yX2_hasPlace wsX2_hasPlace) := gwV mw_592 mw_106 mw_107 mw_81 mw_76
theorem gX8_get_X8_holderAt : GoodIn wsX8_get (wsV RX8 252 RX8 yX8_holderAt wsX8_holderAt) := gwV mw_558 mw_559 mw_560 mw_397 mw_561
theorem gX8_get_X2_hasPlace : GoodIn wsX8_get (wsV RX8 285 RX2 yX2_hasPlace wsX2_hasPlace) := gwV mw_592 mw_106 mw_107 mw_81 mw_76
theorem gX8_judge_X8_holderAt : GoodIn wsX8_judge (wsV RX8 252 RX8 yX8_holderAt wsX8_holderAt) := gwV mw_558 mw_559 mw_560 mw_397 mw_561
theorem gX8_judge_X8_refusalOf : GoodIn wsX8_judge (va_wsS RX8 276 yX8_refusalOf wsX8_refusalOf) := gwS mw_583 mw_584 mw_397 mw_585
theorem gX8_judge_X2_firstUnlike : GoodIn wsX8_judge (wsV RX8 292 RX2 yX2_firstUnlike wsX2_firstUnlike) := gwV mw_595 mw_596 mw_597 mw_81 mw_100
theorem gX8_image_X1_copyFrom : GoodIn wsX8_image (wsV RX8 295 RX1 yX1_copyFrom wsX1_copyFrom) := gwV mw_600 mw_45 mw_46 mw_7 mw_47
theorem gX8_restore_X1_copyFrom : GoodIn wsX8_restore (wsV RX8 295 RX1 yX1_copyFrom wsX1_copyFrom) := gwV mw_600 mw_45 mw_46 mw_7 mw_47
theorem gX8_restore_X0_startAnew : GoodIn wsX8_restore (wsV RX8 301 RX0 yX0_startAnew wsX0_startAnew) := gwV mw_602 mw_603 mw_604 mw_24 mw_50
theorem gX8_count_X6_sizeOf : GoodIn wsX8_count (va_wsS RX8 172 yX6_sizeOf wsX6_sizeOf) := gwS mw_486 mw_84 mw_85 mw_86
theorem gX8_count_X0_undoable : GoodIn wsX8_count (wsV RX8 216 RX0 yX0_undoable wsX0_undoable) := gwV mw_521 mw_522 mw_523 mw_24 mw_15
theorem gX8_count_X0_repeatable : GoodIn wsX8_count (wsV RX8 223 RX0 yX0_repeatable wsX0_repeatable) := gwV mw_528 mw_529 mw_530 mw_24 mw_17
theorem gX8_keyWith_X3_begin : GoodIn wsX8_keyWith (wsV RX8 304 RX3 yX3_begin wsX3_begin) := gwV mw_436 mw_437 mw_438 mw_129 mw_120
theorem gX8_keyWith_X1_powerAt : GoodIn wsX8_keyWith (wsV RX8 86 RX1 yX1_powerAt wsX1_powerAt) := gwV mw_408 mw_37 mw_38 mw_7 mw_39
theorem gX8_keyWith_X3_add : GoodIn wsX8_keyWith (wsV RX8 307 RX3 yX3_add wsX3_add) := gwV mw_439 mw_440 mw_441 mw_129 mw_124
theorem gX8_keyWith_X3_keyFor : GoodIn wsX8_keyWith (wsV RX8 308 RX3 yX3_keyFor wsX3_keyFor) := gwV mw_442 mw_443 mw_444 mw_129 mw_125
theorem gX8_aboveWith_X8_keyWith : GoodIn wsX8_aboveWith (wsV RX8 128 RX8 yX8_keyWith wsX8_keyWith) := gwV mw_432 mw_433 mw_434 mw_397 mw_435
theorem gX8_aboveWith_X3_aboveOf : GoodIn wsX8_aboveWith (wsV RX8 311 RX3 yX3_aboveOf wsX3_aboveOf) := gwV mw_445 mw_446 mw_447 mw_129 mw_146
theorem gX8_kappaOfTwo_X8_aboveWith : GoodIn wsX8_kappaOfTwo (wsV RX8 116 RX8 yX8_aboveWith wsX8_aboveWith) := gwV mw_428 mw_429 mw_430 mw_397 mw_431
theorem gX8_kappaOfThree_X8_aboveWith : GoodIn wsX8_kappaOfThree (wsV RX8 116 RX8 yX8_aboveWith wsX8_aboveWith) := gwV mw_428 mw_429 mw_430 mw_397 mw_431
theorem gX8_kappaOfThree_X8_kappaOfTwo : GoodIn wsX8_kappaOfThree (wsV RX8 144 RX8 yX8_kappaOfTwo wsX8_kappaOfTwo) := gwV mw_474 mw_475 mw_476 mw_397 mw_477
theorem gX8_partOf_X8_greatestDivisor : GoodIn wsX8_partOf (va_wsS RX8 322 yX8_greatestDivisor wsX8_greatestDivisor) := gwS mw_456 mw_457 mw_397 mw_458
theorem gX8_numberOfNode_X6_under : GoodIn wsX8_numberOfNode (va_wsS RX8 185 yX6_under wsX6_under) := gwS mw_496 mw_497 mw_85 mw_331
theorem gX8_numberOfNode_X6_leavesAt : GoodIn wsX8_numberOfNode (va_wsS RX8 189 yX6_leavesAt wsX6_leavesAt) := gwS mw_498 mw_499 mw_85 mw_336
theorem gX8_numberOfNode_X6_edgesDown : GoodIn wsX8_numberOfNode (va_wsS RX8 197 yX6_edgesDown wsX6_edgesDown) := gwS mw_501 mw_502 mw_85 mw_339
theorem gX8_numberOfNode_X3_begin : GoodIn wsX8_numberOfNode (wsV RX8 304 RX3 yX3_begin wsX3_begin) := gwV mw_436 mw_437 mw_438 mw_129 mw_120
theorem gX8_numberOfNode_X1_powerAt : GoodIn wsX8_numberOfNode (wsV RX8 86 RX1 yX1_powerAt wsX1_powerAt) := gwV mw_408 mw_37 mw_38 mw_7 mw_39
theorem gX8_numberOfNode_X3_add : GoodIn wsX8_numberOfNode (wsV RX8 307 RX3 yX3_add wsX3_add) := gwV mw_439 mw_440 mw_441 mw_129 mw_124
theorem gX8_numberOfNode_X3_keyFor : GoodIn wsX8_numberOfNode (wsV RX8 308 RX3 yX3_keyFor wsX3_keyFor) := gwV mw_442 mw_443 mw_444 mw_129 mw_125
theorem gX8_numberOfNode_X3_aboveOf : GoodIn wsX8_numberOfNode (wsV RX8 311 RX3 yX3_aboveOf wsX3_aboveOf) := gwV mw_445 mw_446 mw_447 mw_129 mw_146
theorem gX9_part_X9_common : GoodIn wsX9_part (va_wsS RX9 84 yX9_common wsX9_common) := gwS mw_635 mw_636 mw_637 mw_633
theorem gX9_begins_X9_lays : GoodIn wsX9_begins (wsV RX9 97 RX9 yX9_lays wsX9_lays) := gwV mw_645 mw_646 mw_647 mw_637 mw_639
theorem gX9_ends_X9_lays : GoodIn wsX9_ends (wsV RX9 97 RX9 yX9_lays wsX9_lays) := gwV mw_645 mw_646 mw_647 mw_637 mw_639
theorem gX9_undo_X9_lays : GoodIn wsX9_undo (wsV RX9 97 RX9 yX9_lays wsX9_lays) := gwV mw_645 mw_646 mw_647 mw_637 mw_639
theorem gX9_undo_X9_takes : GoodIn wsX9_undo (wsV RX9 107 RX9 yX9_takes wsX9_takes) := gwV mw_652 mw_653 mw_654 mw_637 mw_643
theorem gX9_again_X9_lays : GoodIn wsX9_again (wsV RX9 97 RX9 yX9_lays wsX9_lays) := gwV mw_645 mw_646 mw_647 mw_637 mw_639
theorem gX9_again_X9_takes : GoodIn wsX9_again (wsV RX9 107 RX9 yX9_takes wsX9_takes) := gwV mw_652 mw_653 mw_654 mw_637 mw_643
theorem gX9_isMark_X9_in : GoodIn wsX9_isMark (va_wsS RX9 110 yX9_in wsX9_in) := gwS mw_657 mw_658 mw_637 mw_632
theorem gX9_genus_X9_in : GoodIn wsX9_genus (va_wsS RX9 110 yX9_in wsX9_in) := gwS mw_657 mw_658 mw_637 mw_632
theorem gX9_genus_X9_begins : GoodIn wsX9_genus (wsV RX9 116 RX9 yX9_begins wsX9_begins) := gwV mw_661 mw_662 mw_663 mw_637 mw_644
theorem gX9_genus_X9_ends : GoodIn wsX9_genus (wsV RX9 119 RX9 yX9_ends wsX9_ends) := gwV mw_664 mw_665 mw_666 mw_637 mw_648
theorem gX9_mark_X9_in : GoodIn wsX9_mark (va_wsS RX9 110 yX9_in wsX9_in) := gwS mw_657 mw_658 mw_637 mw_632
theorem gX9_mark_X9_begins : GoodIn wsX9_mark (wsV RX9 116 RX9 yX9_begins wsX9_begins) := gwV mw_661 mw_662 mw_663 mw_637 mw_644
theorem gX9_mark_X9_ends : GoodIn wsX9_mark (wsV RX9 119 RX9 yX9_ends wsX9_ends) := gwV mw_664 mw_665 mw_666 mw_637 mw_648
theorem gX9_take_X9_isMark : GoodIn wsX9_take (wsV RX9 124 RX9 yX9_isMark wsX9_isMark) := gwV mw_670 mw_671 mw_672 mw_637 mw_656
theorem gX9_take_X9_begins : GoodIn wsX9_take (wsV RX9 116 RX9 yX9_begins wsX9_begins) := gwV mw_661 mw_662 mw_663 mw_637 mw_644
theorem gX9_take_X9_ends : GoodIn wsX9_take (wsV RX9 119 RX9 yX9_ends wsX9_ends) := gwV mw_664 mw_665 mw_666 mw_637 mw_648
theorem gX9_change_X9_isMark : GoodIn wsX9_change (wsV RX9 124 RX9 yX9_isMark wsX9_isMark) := gwV mw_670 mw_671 mw_672 mw_637 mw_656
theorem gX9_change_X9_in : GoodIn wsX9_change (va_wsS RX9 110 yX9_in wsX9_in) := gwS mw_657 mw_658 mw_637 mw_632
theorem gX9_change_X9_begins : GoodIn wsX9_change (wsV RX9 116 RX9 yX9_begins wsX9_begins) := gwV mw_661 mw_662 mw_663 mw_637 mw_644
theorem gX9_change_X9_ends : GoodIn wsX9_change (wsV RX9 119 RX9 yX9_ends wsX9_ends) := gwV mw_664 mw_665 mw_666 mw_637 mw_648
theorem gX9_order_X9_in : GoodIn wsX9_order (va_wsS RX9 110 yX9_in wsX9_in) := gwS mw_657 mw_658 mw_637 mw_632
theorem gX9_order_X9_begins : GoodIn wsX9_order (wsV RX9 116 RX9 yX9_begins wsX9_begins) := gwV mw_661 mw_662 mw_663 mw_637 mw_644
theorem gX9_order_X9_sorts : GoodIn wsX9_order (va_wsS RX9 130 yX9_sorts wsX9_sorts) := gwS mw_677 mw_678 mw_637 mw_674
theorem gX9_order_X9_ends : GoodIn wsX9_order (wsV RX9 119 RX9 yX9_ends wsX9_ends) := gwV mw_664 mw_665 mw_666 mw_637 mw_648
theorem gX9_of_X9_isMark : GoodIn wsX9_of (wsV RX9 124 RX9 yX9_isMark wsX9_isMark) := gwV mw_670 mw_671 mw_672 mw_637 mw_656
theorem gX9_base_X9_often : GoodIn wsX9_base (va_wsS RX9 138 yX9_often wsX9_often) := gwS mw_690 mw_691 mw_637 mw_684
theorem gX9_numberAt_X9_base : GoodIn wsX9_numberAt (va_wsS RX9 150 yX9_base wsX9_base) := gwS mw_694 mw_695 mw_637 mw_685
theorem gX9_numberAt_X9_often : GoodIn wsX9_numberAt (va_wsS RX9 138 yX9_often wsX9_often) := gwS mw_690 mw_691 mw_637 mw_684
theorem gX9_numberAt_X9_leaves : GoodIn wsX9_numberAt (va_wsS RX9 154 yX9_leaves wsX9_leaves) := gwS mw_696 mw_697 mw_637 mw_692
theorem gX9_numberAt_X9_numberAt : GoodIn wsX9_numberAt (wsV RX9 157 RX9 yX9_numberAt wsX9_numberAt) := gwV mw_698 mw_699 mw_700 mw_637 mw_693
theorem gX9_numberOf_X9_isNothing : GoodIn wsX9_numberOf (va_wsS RX9 161 yX9_isNothing wsX9_isNothing) := gwS mw_702 mw_703 mw_637 mw_683
theorem gX9_numberOf_X9_numberAt : GoodIn wsX9_numberOf (wsV RX9 157 RX9 yX9_numberAt wsX9_numberAt) := gwV mw_698 mw_699 mw_700 mw_637 mw_693
theorem gX9_numberOfMarks_X9_numberOf : GoodIn wsX9_numberOfMarks (wsV RX9 165 RX9 yX9_numberOf wsX9_numberOf) := gwV mw_705 mw_706 mw_707 mw_637 mw_701
theorem gX9_number_X9_in : GoodIn wsX9_number (va_wsS RX9 110 yX9_in wsX9_in) := gwS mw_657 mw_658 mw_637 mw_632
theorem gX9_number_X9_numberOfMarks : GoodIn wsX9_number (wsV RX9 169 RX9 yX9_numberOfMarks wsX9_numberOfMarks) := gwV mw_710 mw_711 mw_712 mw_637 mw_704
theorem gX9_number_X9_line : GoodIn wsX9_number (va_wsS RX9 173 yX9_line wsX9_line) := gwS mw_713 mw_714 mw_637 mw_680
theorem gX9_number_X9_part : GoodIn wsX9_number (va_wsS RX9 177 yX9_part wsX9_part) := gwS mw_715 mw_716 mw_637 mw_634
theorem gX9_ruleOf_X9_isNothing : GoodIn wsX9_ruleOf (va_wsS RX9 161 yX9_isNothing wsX9_isNothing) := gwS mw_702 mw_703 mw_637 mw_683
theorem gX9_ruleOf_X9_base : GoodIn wsX9_ruleOf (va_wsS RX9 150 yX9_base wsX9_base) := gwS mw_694 mw_695 mw_637 mw_685
theorem gX9_ruleOf_X9_often : GoodIn wsX9_ruleOf (va_wsS RX9 138 yX9_often wsX9_often) := gwS mw_690 mw_691 mw_637 mw_684
theorem gX9_rule_X9_ruleOf : GoodIn wsX9_rule (wsV RX9 183 RX9 yX9_ruleOf wsX9_ruleOf) := gwV mw_719 mw_720 mw_721 mw_637 mw_717
theorem gX9_met_X9_ruleOf : GoodIn wsX9_met (wsV RX9 183 RX9 yX9_ruleOf wsX9_ruleOf) := gwV mw_719 mw_720 mw_721 mw_637 mw_717
theorem gX9_met_X9_meets : GoodIn wsX9_met (wsV RX9 190 RX9 yX9_meets wsX9_meets) := gwV mw_725 mw_726 mw_727 mw_637 mw_722
theorem gX9_met_X9_base : GoodIn wsX9_met (va_wsS RX9 150 yX9_base wsX9_base) := gwS mw_694 mw_695 mw_637 mw_685
theorem gX9_met_X9_often : GoodIn wsX9_met (va_wsS RX9 138 yX9_often wsX9_often) := gwS mw_690 mw_691 mw_637 mw_684
theorem gX9_met_X9_leaves : GoodIn wsX9_met (va_wsS RX9 154 yX9_leaves wsX9_leaves) := gwS mw_696 mw_697 mw_637 mw_692
theorem gX9_withMore_X9_numberOf : GoodIn wsX9_withMore (wsV RX9 165 RX9 yX9_numberOf wsX9_numberOf) := gwV mw_705 mw_706 mw_707 mw_637 mw_701
theorem gX9_kappaOne_X9_withMore : GoodIn wsX9_kappaOne (wsV RX9 194 RX9 yX9_withMore wsX9_withMore) := gwV mw_730 mw_731 mw_732 mw_637 mw_728
theorem gX9_kappaTwo_X9_withMore : GoodIn wsX9_kappaTwo (wsV RX9 194 RX9 yX9_withMore wsX9_withMore) := gwV mw_730 mw_731 mw_732 mw_637 mw_728
theorem gX9_kappaTwo_X9_kappaOne : GoodIn wsX9_kappaTwo (wsV RX9 198 RX9 yX9_kappaOne wsX9_kappaOne) := gwV mw_734 mw_735 mw_736 mw_637 mw_729
theorem gX9_kappa_X9_in : GoodIn wsX9_kappa (va_wsS RX9 110 yX9_in wsX9_in) := gwS mw_657 mw_658 mw_637 mw_632
theorem gX9_kappa_X9_numberOfMarks : GoodIn wsX9_kappa (wsV RX9 169 RX9 yX9_numberOfMarks wsX9_numberOfMarks) := gwV mw_710 mw_711 mw_712 mw_637 mw_704
theorem gX9_kappa_X9_kappaOne : GoodIn wsX9_kappa (wsV RX9 198 RX9 yX9_kappaOne wsX9_kappaOne) := gwV mw_734 mw_735 mw_736 mw_637 mw_729
theorem gX9_kappa_X9_kappaTwo : GoodIn wsX9_kappa (wsV RX9 203 RX9 yX9_kappaTwo wsX9_kappaTwo) := gwV mw_739 mw_740 mw_741 mw_637 mw_733
theorem gX9_kappa_X9_withMore : GoodIn wsX9_kappa (wsV RX9 194 RX9 yX9_withMore wsX9_withMore) := gwV mw_730 mw_731 mw_732 mw_637 mw_728
theorem gX9_kappa_X9_line : GoodIn wsX9_kappa (va_wsS RX9 173 yX9_line wsX9_line) := gwS mw_713 mw_714 mw_637 mw_680
theorem gX9_kappa_X9_part : GoodIn wsX9_kappa (va_wsS RX9 177 yX9_part wsX9_part) := gwS mw_715 mw_716 mw_637 mw_634
theorem gX9_isSplit_X9_in : GoodIn wsX9_isSplit (va_wsS RX9 110 yX9_in wsX9_in) := gwS mw_657 mw_658 mw_637 mw_632
theorem gX9_isSplit_X9_bits : GoodIn wsX9_isSplit (va_wsS RX9 206 yX9_bits wsX9_bits) := gwS mw_743 mw_744 mw_637 mw_638
theorem gX9_mayCome_X9_goTogether : GoodIn wsX9_mayCome (va_wsS RX9 210 yX9_goTogether wsX9_goTogether) := gwS mw_748 mw_749 mw_637 mw_745
theorem gX9_leaves__X9_in : GoodIn wsX9_leaves_ (va_wsS RX9 110 yX9_in wsX9_in) := gwS mw_657 mw_658 mw_637 mw_632
theorem gX9_leaves__X9_begins : GoodIn wsX9_leaves_ (wsV RX9 116 RX9 yX9_begins wsX9_begins) := gwV mw_661 mw_662 mw_663 mw_637 mw_644
theorem gX9_leaves__X9_ends : GoodIn wsX9_leaves_ (wsV RX9 119 RX9 yX9_ends wsX9_ends) := gwV mw_664 mw_665 mw_666 mw_637 mw_648
theorem gX9_comes_X9_sorts : GoodIn wsX9_comes (va_wsS RX9 130 yX9_sorts wsX9_sorts) := gwS mw_677 mw_678 mw_637 mw_674
theorem gX9_split_X9_isSplit : GoodIn wsX9_split (va_wsS RX9 216 yX9_isSplit wsX9_isSplit) := gwS mw_754 mw_755 mw_637 mw_742
theorem gX9_split_X9_mayCome : GoodIn wsX9_split (wsV RX9 219 RX9 yX9_mayCome wsX9_mayCome) := gwV mw_756 mw_757 mw_758 mw_637 mw_747
theorem gX9_split_X9_begins : GoodIn wsX9_split (wsV RX9 116 RX9 yX9_begins wsX9_begins) := gwV mw_661 mw_662 mw_663 mw_637 mw_644
theorem gX9_split_X9_comes : GoodIn wsX9_split (wsV RX9 222 RX9 yX9_comes wsX9_comes) := gwV mw_759 mw_760 mw_761 mw_637 mw_752
theorem gX9_split_X9_ends : GoodIn wsX9_split (wsV RX9 119 RX9 yX9_ends wsX9_ends) := gwV mw_664 mw_665 mw_666 mw_637 mw_648
theorem gX9_join_X9_isSplit : GoodIn wsX9_join (va_wsS RX9 216 yX9_isSplit wsX9_isSplit) := gwS mw_754 mw_755 mw_637 mw_742
theorem gX9_join_X9_placeOf : GoodIn wsX9_join (wsV RX9 226 RX9 yX9_placeOf wsX9_placeOf) := gwV mw_763 mw_764 mw_765 mw_637 mw_746
theorem gX9_join_X9_begins : GoodIn wsX9_join (wsV RX9 116 RX9 yX9_begins wsX9_begins) := gwV mw_661 mw_662 mw_663 mw_637 mw_644
theorem gX9_join_X9_ends : GoodIn wsX9_join (wsV RX9 119 RX9 yX9_ends wsX9_ends) := gwV mw_664 mw_665 mw_666 mw_637 mw_648
theorem gX9_may_X9_isSplit : GoodIn wsX9_may (va_wsS RX9 216 yX9_isSplit wsX9_isSplit) := gwS mw_754 mw_755 mw_637 mw_742
theorem gX9_may_X9_mayCome : GoodIn wsX9_may (wsV RX9 219 RX9 yX9_mayCome wsX9_mayCome) := gwV mw_756 mw_757 mw_758 mw_637 mw_747
theorem gX9_isBelow_X9_isWithin : GoodIn wsX9_isBelow (wsV RX9 229 RX9 yX9_isWithin wsX9_isWithin) := gwV mw_770 mw_771 mw_772 mw_637 mw_768
theorem gX9_edges_X9_isBelow : GoodIn wsX9_edges (wsV RX9 232 RX9 yX9_isBelow wsX9_isBelow) := gwV mw_774 mw_775 mw_776 mw_637 mw_769
theorem gX9_at_X9_isBelow : GoodIn wsX9_at (wsV RX9 232 RX9 yX9_isBelow wsX9_isBelow) := gwV mw_774 mw_775 mw_776 mw_637 mw_769
theorem gX9_valence_X9_isSplit : GoodIn wsX9_valence (va_wsS RX9 216 yX9_isSplit wsX9_isSplit) := gwS mw_754 mw_755 mw_637 mw_742
theorem gX9_valence_X9_placeOf : GoodIn wsX9_valence (wsV RX9 226 RX9 yX9_placeOf wsX9_placeOf) := gwV mw_763 mw_764 mw_765 mw_637 mw_746
theorem gX9_valence_X9_at : GoodIn wsX9_valence (wsV RX9 236 RX9 yX9_at wsX9_at) := gwV mw_779 mw_780 mw_781 mw_637 mw_777
theorem gX9_valence_X9_bits : GoodIn wsX9_valence (va_wsS RX9 206 yX9_bits wsX9_bits) := gwS mw_743 mw_744 mw_637 mw_638
theorem gX9_valence_X9_edges : GoodIn wsX9_valence (wsV RX9 239 RX9 yX9_edges wsX9_edges) := gwV mw_782 mw_783 mw_784 mw_637 mw_773
theorem gX9_finds_X9_isSplit : GoodIn wsX9_finds (va_wsS RX9 216 yX9_isSplit wsX9_isSplit) := gwS mw_754 mw_755 mw_637 mw_742
theorem gX9_finds_X9_goTogether : GoodIn wsX9_finds (va_wsS RX9 210 yX9_goTogether wsX9_goTogether) := gwS mw_748 mw_749 mw_637 mw_745
theorem gX9_finds_X9_finds : GoodIn wsX9_finds (wsV RX9 245 RX9 yX9_finds wsX9_finds) := gwV mw_787 mw_788 mw_789 mw_637 mw_785
theorem gX9_trees_X9_in : GoodIn wsX9_trees (va_wsS RX9 110 yX9_in wsX9_in) := gwS mw_657 mw_658 mw_637 mw_632
theorem gX9_trees_X9_finds : GoodIn wsX9_trees (wsV RX9 245 RX9 yX9_finds wsX9_finds) := gwV mw_787 mw_788 mw_789 mw_637 mw_785
theorem gX9_tree_X9_in : GoodIn wsX9_tree (va_wsS RX9 110 yX9_in wsX9_in) := gwS mw_657 mw_658 mw_637 mw_632
theorem gX9_tree_X9_finds : GoodIn wsX9_tree (wsV RX9 245 RX9 yX9_finds wsX9_finds) := gwV mw_787 mw_788 mw_789 mw_637 mw_785
theorem gX9_forget_X9_in : GoodIn wsX9_forget (va_wsS RX9 110 yX9_in wsX9_in) := gwS mw_657 mw_658 mw_637 mw_632
theorem gX9_forget_X9_begins : GoodIn wsX9_forget (wsV RX9 116 RX9 yX9_begins wsX9_begins) := gwV mw_661 mw_662 mw_663 mw_637 mw_644
theorem gX9_forget_X9_without : GoodIn wsX9_forget (va_wsS RX9 249 yX9_without wsX9_without) := gwS mw_794 mw_795 mw_637 mw_792
theorem gX9_forget_X9_isSplit : GoodIn wsX9_forget (va_wsS RX9 216 yX9_isSplit wsX9_isSplit) := gwS mw_754 mw_755 mw_637 mw_742
theorem gX9_forget_X9_placeOf : GoodIn wsX9_forget (wsV RX9 226 RX9 yX9_placeOf wsX9_placeOf) := gwV mw_763 mw_764 mw_765 mw_637 mw_746
theorem gX9_forget_X9_comes : GoodIn wsX9_forget (wsV RX9 222 RX9 yX9_comes wsX9_comes) := gwV mw_759 mw_760 mw_761 mw_637 mw_752
theorem gX9_forget_X9_ends : GoodIn wsX9_forget (wsV RX9 119 RX9 yX9_ends wsX9_ends) := gwV mw_664 mw_665 mw_666 mw_637 mw_648
theorem gX9_numberAtNode_X9_at : GoodIn wsX9_numberAtNode (wsV RX9 236 RX9 yX9_at wsX9_at) := gwV mw_779 mw_780 mw_781 mw_637 mw_777
theorem gX9_numberAtNode_X9_edges : GoodIn wsX9_numberAtNode (wsV RX9 239 RX9 yX9_edges wsX9_edges) := gwV mw_782 mw_783 mw_784 mw_637 mw_773
theorem gX9_numberAtNode_X9_numberOf : GoodIn wsX9_numberAtNode (wsV RX9 165 RX9 yX9_numberOf wsX9_numberOf) := gwV mw_705 mw_706 mw_707 mw_637 mw_701
theorem gX9_onTree_X9_numberAtNode : GoodIn wsX9_onTree (wsV RX9 253 RX9 yX9_numberAtNode wsX9_numberAtNode) := gwV mw_798 mw_799 mw_800 mw_637 mw_796
theorem gX9_feed_X9_in : GoodIn wsX9_feed (va_wsS RX9 110 yX9_in wsX9_in) := gwS mw_657 mw_658 mw_637 mw_632
theorem gX9_isFigure_X9_here : GoodIn wsX9_isFigure (wsV RX9 264 RX9 yX9_here wsX9_here) := gwV mw_810 mw_811 mw_812 mw_637 mw_805
theorem gX9_isFigure_X9_in : GoodIn wsX9_isFigure (va_wsS RX9 110 yX9_in wsX9_in) := gwS mw_657 mw_658 mw_637 mw_632
theorem gX9_figure_X9_isFigure : GoodIn wsX9_figure (wsV RX9 275 RX9 yX9_isFigure wsX9_isFigure) := gwV mw_815 mw_816 mw_817 mw_637 mw_807
theorem gX9_must_X9_here : GoodIn wsX9_must (wsV RX9 264 RX9 yX9_here wsX9_here) := gwV mw_810 mw_811 mw_812 mw_637 mw_805
theorem gX9_markHere_X9_figure : GoodIn wsX9_markHere (wsV RX9 282 RX9 yX9_figure wsX9_figure) := gwV mw_821 mw_822 mw_823 mw_637 mw_813
theorem gX9_markHere_X9_isFigure : GoodIn wsX9_markHere (wsV RX9 275 RX9 yX9_isFigure wsX9_isFigure) := gwV mw_815 mw_816 mw_817 mw_637 mw_807
theorem gX9_splitHere_X9_isFigure : GoodIn wsX9_splitHere (wsV RX9 275 RX9 yX9_isFigure wsX9_isFigure) := gwV mw_815 mw_816 mw_817 mw_637 mw_807
theorem gX9_splitHere_X9_here : GoodIn wsX9_splitHere (wsV RX9 264 RX9 yX9_here wsX9_here) := gwV mw_810 mw_811 mw_812 mw_637 mw_805
theorem gX9_splitHere_X9_figure : GoodIn wsX9_splitHere (wsV RX9 282 RX9 yX9_figure wsX9_figure) := gwV mw_821 mw_822 mw_823 mw_637 mw_813
theorem gX9_form_X9_figure : GoodIn wsX9_form (wsV RX9 282 RX9 yX9_figure wsX9_figure) := gwV mw_821 mw_822 mw_823 mw_637 mw_813
theorem gX9_form_X9_must : GoodIn wsX9_form (wsV RX9 294 RX9 yX9_must wsX9_must) := gwV mw_831 mw_832 mw_833 mw_637 mw_818
theorem gX9_form_X9_isFigure : GoodIn wsX9_form (wsV RX9 275 RX9 yX9_isFigure wsX9_isFigure) := gwV mw_815 mw_816 mw_817 mw_637 mw_807
theorem gX9_form_X9_markHere : GoodIn wsX9_form (wsV RX9 297 RX9 yX9_markHere wsX9_markHere) := gwV mw_834 mw_835 mw_836 mw_637 mw_819
theorem gX9_form_X9_here : GoodIn wsX9_form (wsV RX9 264 RX9 yX9_here wsX9_here) := gwV mw_810 mw_811 mw_812 mw_637 mw_805
theorem gX9_form_X9_splitHere : GoodIn wsX9_form (wsV RX9 306 RX9 yX9_splitHere wsX9_splitHere) := gwV mw_837 mw_838 mw_839 mw_637 mw_824
theorem gX9_wrongFigures_X9_in : GoodIn wsX9_wrongFigures (va_wsS RX9 110 yX9_in wsX9_in) := gwS mw_657 mw_658 mw_637 mw_632
theorem gX9_wrongFigures_X9_isSplit : GoodIn wsX9_wrongFigures (va_wsS RX9 216 yX9_isSplit wsX9_isSplit) := gwS mw_754 mw_755 mw_637 mw_742
theorem gX9_wrongFigures_X9_goTogether : GoodIn wsX9_wrongFigures (va_wsS RX9 210 yX9_goTogether wsX9_goTogether) := gwS mw_748 mw_749 mw_637 mw_745
theorem gX9_read_X9_form : GoodIn wsX9_read (wsV RX9 312 RX9 yX9_form wsX9_form) := gwV mw_844 mw_845 mw_846 mw_637 mw_826
theorem gX9_read_X9_because : GoodIn wsX9_read (wsV RX9 315 RX9 yX9_because wsX9_because) := gwV mw_847 mw_848 mw_849 mw_637 mw_841
theorem gX9_read_X9_wrongFigures : GoodIn wsX9_read (wsV RX9 318 RX9 yX9_wrongFigures wsX9_wrongFigures) := gwV mw_850 mw_851 mw_852 mw_637 mw_840
theorem gX9_read_X9_begins : GoodIn wsX9_read (wsV RX9 116 RX9 yX9_begins wsX9_begins) := gwV mw_661 mw_662 mw_663 mw_637 mw_644
theorem gX9_read_X9_comes : GoodIn wsX9_read (wsV RX9 222 RX9 yX9_comes wsX9_comes) := gwV mw_759 mw_760 mw_761 mw_637 mw_752
theorem gX9_read_X9_ends : GoodIn wsX9_read (wsV RX9 119 RX9 yX9_ends wsX9_ends) := gwV mw_664 mw_665 mw_666 mw_637 mw_648
theorem gX9_why_X9_in : GoodIn wsX9_why (va_wsS RX9 110 yX9_in wsX9_in) := gwS mw_657 mw_658 mw_637 mw_632
theorem gX9_spells_X9_writes : GoodIn wsX9_spells (wsV RX9 324 RX9 yX9_writes wsX9_writes) := gwV mw_857 mw_858 mw_859 mw_637 mw_854
theorem gX9_spell_X9_spells : GoodIn wsX9_spell (wsV RX9 327 RX9 yX9_spells wsX9_spells) := gwV mw_861 mw_862 mw_863 mw_637 mw_856
theorem gX9_isHolder_X9_in : GoodIn wsX9_isHolder (va_wsS RX9 110 yX9_in wsX9_in) := gwS mw_657 mw_658 mw_637 mw_632
theorem gX9_hold_X9_isHolder : GoodIn wsX9_hold (va_wsS RX9 330 yX9_isHolder wsX9_isHolder) := gwS mw_867 mw_868 mw_637 mw_864
theorem gX9_hold_X9_in : GoodIn wsX9_hold (va_wsS RX9 110 yX9_in wsX9_in) := gwS mw_657 mw_658 mw_637 mw_632
theorem gX9_hold_X9_number : GoodIn wsX9_hold (wsV RX9 333 RX9 yX9_number wsX9_number) := gwV mw_869 mw_870 mw_871 mw_637 mw_708
theorem gX9_lose_X9_isHolder : GoodIn wsX9_lose (va_wsS RX9 330 yX9_isHolder wsX9_isHolder) := gwS mw_867 mw_868 mw_637 mw_864
theorem gX9_taken_X9_isHolder : GoodIn wsX9_taken (va_wsS RX9 330 yX9_isHolder wsX9_isHolder) := gwS mw_867 mw_868 mw_637 mw_864
theorem gX9_taken_X9_in : GoodIn wsX9_taken (va_wsS RX9 110 yX9_in wsX9_in) := gwS mw_657 mw_658 mw_637 mw_632
theorem gX9_taken_X9_isFull : GoodIn wsX9_taken (wsV RX9 338 RX9 yX9_isFull wsX9_isFull) := gwV mw_875 mw_876 mw_877 mw_637 mw_873
theorem gX9_common__X9_isHolder : GoodIn wsX9_common_ (va_wsS RX9 330 yX9_isHolder wsX9_isHolder) := gwS mw_867 mw_868 mw_637 mw_864
theorem gX9_common__X9_placeOf : GoodIn wsX9_common_ (wsV RX9 226 RX9 yX9_placeOf wsX9_placeOf) := gwV mw_763 mw_764 mw_765 mw_637 mw_746
theorem gX9_row_X9_isHolder : GoodIn wsX9_row (va_wsS RX9 330 yX9_isHolder wsX9_isHolder) := gwS mw_867 mw_868 mw_637 mw_864
theorem gX9_set_X9_isHolder : GoodIn wsX9_set (va_wsS RX9 330 yX9_isHolder wsX9_isHolder) := gwS mw_867 mw_868 mw_637 mw_864
theorem gX9_set_X9_rowless : GoodIn wsX9_set (wsV RX9 341 RX9 yX9_rowless wsX9_rowless) := gwV mw_882 mw_883 mw_884 mw_637 mw_880
theorem gX9_set_X9_in : GoodIn wsX9_set (va_wsS RX9 110 yX9_in wsX9_in) := gwS mw_657 mw_658 mw_637 mw_632
theorem gX9_get_X9_isHolder : GoodIn wsX9_get (va_wsS RX9 330 yX9_isHolder wsX9_isHolder) := gwS mw_867 mw_868 mw_637 mw_864
theorem gX9_get_X9_in : GoodIn wsX9_get (va_wsS RX9 110 yX9_in wsX9_in) := gwS mw_657 mw_658 mw_637 mw_632
theorem gX9_judge_X9_isHolder : GoodIn wsX9_judge (va_wsS RX9 330 yX9_isHolder wsX9_isHolder) := gwS mw_867 mw_868 mw_637 mw_864
theorem gX9_judge_X9_rowless : GoodIn wsX9_judge (wsV RX9 341 RX9 yX9_rowless wsX9_rowless) := gwV mw_882 mw_883 mw_884 mw_637 mw_880
theorem gX9_image_X9_lays : GoodIn wsX9_image (wsV RX9 97 RX9 yX9_lays wsX9_lays) := gwV mw_645 mw_646 mw_647 mw_637 mw_639
theorem gX9_restore_X9_takes : GoodIn wsX9_restore (wsV RX9 107 RX9 yX9_takes wsX9_takes) := gwV mw_652 mw_653 mw_654 mw_637 mw_643
abbrev vwCl : List vw_C := [(RX0, TX0, 3), (RX1, TX1, 5), (RX2, TX2, 6), (RX3, TX3, 7), (RX4, TX4, 6), (RX5, TX5, 2), (RX7, TX7, 2), (RX8, TX8, 9), (RX9, TX9, 42)]
