def RX13 : String := "FlagWalkLaw"
abbrev RL : String := RX13
def RX0 : String := "FlagWalk$Bridge"
def TX0 : u_T := fun k => match k with
  | 0 => ("FlagWalk$Bridge", "size", "I", false)
  | 1 => ("FlagWalk$Bridge", "comes", "[I", true)
  | 2 => ("FlagWalk$Bridge", "needs", "[I", true)
  | 3 => ("FlagWalk$Bridge", "order", "[I", true)
  | 4 => ("FlagWalk$Bridge", "bestOrder", "[I", true)
  | _ => ("FlagWalk$Bridge", "leastWaited", "I", false)
def tyX0 : Nat → FieldType := fun k => match k with
  | 0 => .int
  | 1 => .array .int
  | 2 => .array .int
  | 3 => .array .int
  | 4 => .array .int
  | _ => .int
abbrev wsX00 : List Cond := u_ws RX0 TX0 6
theorem nmX0 : ∀ a, a < 6 → ∀ b, b < 6 → a ≠ b → (TX0 a).2.1 ≠ (TX0 b).2.1 := by decide +kernel
theorem tyX0_ok : ∀ k, k < 6 → parseFieldDescriptor (TX0 k).2.2.1 = some (tyX0 k) := by decide +kernel
abbrev cX0_init : ByteArray := prog_2_method_1_code
def yX0_init : MethodName := ⟨RX0, "<init>", "()V"⟩
def RX1 : String := "FlagWalk$Flags"
def TX1 : u_T := fun k => match k with
  | 0 => ("FlagWalk$Flags", "size", "I", false)
  | 1 => ("FlagWalk$Flags", "meets", "[I", true)
  | _ => ("FlagWalk$Flags", "row", "[I", true)
def tyX1 : Nat → FieldType := fun k => match k with
  | 0 => .int
  | 1 => .array .int
  | _ => .array .int
abbrev wsX10 : List Cond := u_ws RX1 TX1 3
theorem nmX1 : ∀ a, a < 3 → ∀ b, b < 3 → a ≠ b → (TX1 a).2.1 ≠ (TX1 b).2.1 := by decide +kernel
theorem tyX1_ok : ∀ k, k < 3 → parseFieldDescriptor (TX1 k).2.2.1 = some (tyX1 k) := by decide +kernel
abbrev cX1_init : ByteArray := prog_3_method_1_code
def yX1_init : MethodName := ⟨RX1, "<init>", "()V"⟩
abbrev cX1_load : ByteArray := prog_3_method_2_code
def yX1_load : MethodName := ⟨RX1, "load", "(II)V"⟩
abbrev cX1_paint : ByteArray := prog_3_method_3_code
def yX1_paint : MethodName := ⟨RX1, "paint", "()I"⟩
abbrev cX1_paintFrom : ByteArray := prog_3_method_4_code
def yX1_paintFrom : MethodName := ⟨RX1, "paintFrom", "(LFlagWalk$Flags;III)Z"⟩
abbrev cX1_isFree : ByteArray := prog_3_method_5_code
def yX1_isFree : MethodName := ⟨RX1, "isFree", "(II)Z"⟩
def RX2 : String := "FlagWalk$Halt"
def TX2 : u_T := fun k => match k with
  | 0 => ("FlagWalk$Halt", "begun", "Z", false)
  | 1 => ("FlagWalk$Halt", "done", "Z", false)
  | 2 => ("FlagWalk$Halt", "waited", "I", false)
  | 3 => ("FlagWalk$Halt", "spoken", "I", false)
  | 4 => ("FlagWalk$Halt", "stayed", "I", false)
  | _ => ("FlagWalk$Halt", "stood", "I", false)
def tyX2 : Nat → FieldType := fun k => match k with
  | 0 => .boolean
  | 1 => .boolean
  | 2 => .int
  | 3 => .int
  | 4 => .int
  | _ => .int
abbrev wsX20 : List Cond := u_ws RX2 TX2 6
theorem nmX2 : ∀ a, a < 6 → ∀ b, b < 6 → a ≠ b → (TX2 a).2.1 ≠ (TX2 b).2.1 := by decide +kernel
theorem tyX2_ok : ∀ k, k < 6 → parseFieldDescriptor (TX2 k).2.2.1 = some (tyX2 k) := by decide +kernel
abbrev cX2_init : ByteArray := prog_4_method_1_code
def yX2_init : MethodName := ⟨RX2, "<init>", "()V"⟩
abbrev cX2_clear : ByteArray := prog_4_method_2_code
def yX2_clear : MethodName := ⟨RX2, "clear", "()V"⟩
def RX3 : String := "FlagWalk$Marks"
def TX3 : u_T := fun k => match k with
  | 0 => ("FlagWalk$Marks", "sizes", "[I", true)
  | 1 => ("FlagWalk$Marks", "places", "[[I", true)
  | 2 => ("FlagWalk$Marks", "lengths", "[[I", true)
  | _ => ("FlagWalk$Marks", "values", "[I", true)
def tyX3 : Nat → FieldType := fun k => match k with
  | 0 => .array .int
  | 1 => .array (.array .int)
  | 2 => .array (.array .int)
  | _ => .array .int
abbrev wsX30 : List Cond := u_ws RX3 TX3 4
theorem nmX3 : ∀ a, a < 4 → ∀ b, b < 4 → a ≠ b → (TX3 a).2.1 ≠ (TX3 b).2.1 := by decide +kernel
theorem tyX3_ok : ∀ k, k < 4 → parseFieldDescriptor (TX3 k).2.2.1 = some (tyX3 k) := by decide +kernel
abbrev cX3_init : ByteArray := prog_5_method_1_code
def yX3_init : MethodName := ⟨RX3, "<init>", "()V"⟩
abbrev cX3_isTaken : ByteArray := prog_5_method_3_code
def yX3_isTaken : MethodName := ⟨RX3, "isTaken", "(II)Z"⟩
abbrev cX3_add : ByteArray := prog_5_method_4_code
def yX3_add : MethodName := ⟨RX3, "add", "(III)I"⟩
abbrev cX3_take : ByteArray := prog_5_method_5_code
def yX3_take : MethodName := ⟨RX3, "take", "(LFlagWalk$Marks;)V"⟩
def RX4 : String := "FlagWalk$Path"
def TX4 : u_T := fun k => match k with
  | 0 => ("FlagWalk$Path", "end", "I", false)
  | 1 => ("FlagWalk$Path", "stops", "[I", true)
  | 2 => ("FlagWalk$Path", "lights", "[I", true)
  | 3 => ("FlagWalk$Path", "windows", "[I", true)
  | _ => ("FlagWalk$Path", "turns", "[I", true)
def tyX4 : Nat → FieldType := fun k => match k with
  | 0 => .int
  | 1 => .array .int
  | 2 => .array .int
  | 3 => .array .int
  | _ => .array .int
abbrev wsX40 : List Cond := u_ws RX4 TX4 5
theorem nmX4 : ∀ a, a < 5 → ∀ b, b < 5 → a ≠ b → (TX4 a).2.1 ≠ (TX4 b).2.1 := by decide +kernel
theorem tyX4_ok : ∀ k, k < 5 → parseFieldDescriptor (TX4 k).2.2.1 = some (tyX4 k) := by decide +kernel
abbrev cX4_init : ByteArray := prog_6_method_1_code
def yX4_init : MethodName := ⟨RX4, "<init>", "()V"⟩
abbrev cX4_lay : ByteArray := prog_6_method_2_code
def yX4_lay : MethodName := ⟨RX4, "lay", "(LFlagWalk$Marks;I)V"⟩
abbrev cX4_layKind : ByteArray := prog_6_method_3_code
def yX4_layKind : MethodName := ⟨RX4, "layKind", "([ILFlagWalk$Marks;I)V"⟩
abbrev cX4_isRed : ByteArray := prog_6_method_4_code
def yX4_isRed : MethodName := ⟨RX4, "isRed", "(II)Z"⟩
def RX5 : String := "FlagWalk$People"
def TX5 : u_T := fun k => match k with
  | 0 => ("FlagWalk$People", "size", "I", false)
  | 1 => ("FlagWalk$People", "kinds", "[I", true)
  | 2 => ("FlagWalk$People", "paces", "[I", true)
  | _ => ("FlagWalk$People", "ears", "[Z", true)
def tyX5 : Nat → FieldType := fun k => match k with
  | 0 => .int
  | 1 => .array .int
  | 2 => .array .int
  | _ => .array .boolean
abbrev wsX50 : List Cond := u_ws RX5 TX5 4
theorem nmX5 : ∀ a, a < 4 → ∀ b, b < 4 → a ≠ b → (TX5 a).2.1 ≠ (TX5 b).2.1 := by decide +kernel
theorem tyX5_ok : ∀ k, k < 4 → parseFieldDescriptor (TX5 k).2.2.1 = some (tyX5 k) := by decide +kernel
abbrev cX5_init : ByteArray := prog_7_method_1_code
def yX5_init : MethodName := ⟨RX5, "<init>", "()V"⟩
abbrev cX5_tailNumber : ByteArray := prog_7_method_2_code
def yX5_tailNumber : MethodName := ⟨RX5, "tailNumber", "()I"⟩
abbrev cX5_add : ByteArray := prog_7_method_3_code
def yX5_add : MethodName := ⟨RX5, "add", "(IIZ)I"⟩
abbrev cX5_take : ByteArray := prog_7_method_4_code
def yX5_take : MethodName := ⟨RX5, "take", "(LFlagWalk$People;)V"⟩
def RX6 : String := "FlagWalk$Plan"
def TX6 : u_T := fun k => match k with
  | 0 => ("FlagWalk$Plan", "end", "I", false)
  | 1 => ("FlagWalk$Plan", "marks", "LFlagWalk$Marks;", true)
  | 2 => ("FlagWalk$Plan", "people", "LFlagWalk$People;", true)
  | 3 => ("FlagWalk$Plan", "rules", "[I", true)
  | _ => ("FlagWalk$Plan", "ground", "LFlagWalk$Square;", true)
def tyX6 : Nat → FieldType := fun k => match k with
  | 0 => .int
  | 1 => .object "FlagWalk$Marks"
  | 2 => .object "FlagWalk$People"
  | 3 => .array .int
  | _ => .object "FlagWalk$Square"
abbrev wsX60 : List Cond := u_ws RX6 TX6 5
theorem nmX6 : ∀ a, a < 5 → ∀ b, b < 5 → a ≠ b → (TX6 a).2.1 ≠ (TX6 b).2.1 := by decide +kernel
theorem tyX6_ok : ∀ k, k < 5 → parseFieldDescriptor (TX6 k).2.2.1 = some (tyX6 k) := by decide +kernel
abbrev cX6_init : ByteArray := prog_8_method_1_code
def yX6_init : MethodName := ⟨RX6, "<init>", "()V"⟩
abbrev cX6_take : ByteArray := prog_8_method_2_code
def yX6_take : MethodName := ⟨RX6, "take", "(LFlagWalk$Plan;)V"⟩
abbrev cX6_isMet : ByteArray := prog_8_method_3_code
def yX6_isMet : MethodName := ⟨RX6, "isMet", "(I)Z"⟩
abbrev cX6_minutesSpoken : ByteArray := prog_8_method_5_code
def yX6_minutesSpoken : MethodName := ⟨RX6, "minutesSpoken", "()I"⟩
abbrev cX6_valueIfFits : ByteArray := prog_8_method_6_code
def yX6_valueIfFits : MethodName := ⟨RX6, "valueIfFits", "(II)I"⟩
def RX7 : String := "FlagWalk$Sheet"
def TX7 : u_T := fun k => match k with
  | 0 => ("FlagWalk$Sheet", "lane", "I", false)
  | 1 => ("FlagWalk$Sheet", "size", "I", false)
  | _ => ("FlagWalk$Sheet", "items", "[I", true)
def tyX7 : Nat → FieldType := fun k => match k with
  | 0 => .int
  | 1 => .int
  | _ => .array .int
abbrev wsX70 : List Cond := u_ws RX7 TX7 3
theorem nmX7 : ∀ a, a < 3 → ∀ b, b < 3 → a ≠ b → (TX7 a).2.1 ≠ (TX7 b).2.1 := by decide +kernel
theorem tyX7_ok : ∀ k, k < 3 → parseFieldDescriptor (TX7 k).2.2.1 = some (tyX7 k) := by decide +kernel
abbrev cX7_init : ByteArray := prog_9_method_1_code
def yX7_init : MethodName := ⟨RX7, "<init>", "()V"⟩
def RX8 : String := "FlagWalk$Square"
def TX8 : u_T := fun k => match k with
  | 0 => ("FlagWalk$Square", "signs", "[I", true)
  | 1 => ("FlagWalk$Square", "standPoints", "I", false)
  | 2 => ("FlagWalk$Square", "bestPoint", "I", false)
  | 3 => ("FlagWalk$Square", "bestFar", "I", false)
  | 4 => ("FlagWalk$Square", "lowX", "I", false)
  | 5 => ("FlagWalk$Square", "highX", "I", false)
  | 6 => ("FlagWalk$Square", "lowY", "I", false)
  | _ => ("FlagWalk$Square", "highY", "I", false)
def tyX8 : Nat → FieldType := fun k => match k with
  | 0 => .array .int
  | 1 => .int
  | 2 => .int
  | 3 => .int
  | 4 => .int
  | 5 => .int
  | 6 => .int
  | _ => .int
abbrev wsX80 : List Cond := u_ws RX8 TX8 8
theorem nmX8 : ∀ a, a < 8 → ∀ b, b < 8 → a ≠ b → (TX8 a).2.1 ≠ (TX8 b).2.1 := by decide +kernel
theorem tyX8_ok : ∀ k, k < 8 → parseFieldDescriptor (TX8 k).2.2.1 = some (tyX8 k) := by decide +kernel
abbrev cX8_init : ByteArray := prog_10_method_1_code
def yX8_init : MethodName := ⟨RX8, "<init>", "()V"⟩
def RX9 : String := "FlagWalk$Tape"
def TX9 : u_T := fun k => match k with
  | 0 => ("FlagWalk$Tape", "bytes", "[B", true)
  | 1 => ("FlagWalk$Tape", "length", "I", false)
  | 2 => ("FlagWalk$Tape", "position", "I", false)
  | _ => ("FlagWalk$Tape", "numberStart", "I", false)
def tyX9 : Nat → FieldType := fun k => match k with
  | 0 => .array .byte
  | 1 => .int
  | 2 => .int
  | _ => .int
abbrev wsX90 : List Cond := u_ws RX9 TX9 4
theorem nmX9 : ∀ a, a < 4 → ∀ b, b < 4 → a ≠ b → (TX9 a).2.1 ≠ (TX9 b).2.1 := by decide +kernel
theorem tyX9_ok : ∀ k, k < 4 → parseFieldDescriptor (TX9 k).2.2.1 = some (tyX9 k) := by decide +kernel
abbrev cX9_init : ByteArray := prog_11_method_1_code
def yX9_init : MethodName := ⟨RX9, "<init>", "()V"⟩
def RX10 : String := "FlagWalk$Walk"
def TX10 : u_T := fun k => match k with
  | 0 => ("FlagWalk$Walk", "path", "LFlagWalk$Path;", true)
  | 1 => ("FlagWalk$Walk", "people", "LFlagWalk$People;", true)
  | 2 => ("FlagWalk$Walk", "rules", "[I", true)
  | 3 => ("FlagWalk$Walk", "halt", "LFlagWalk$Halt;", true)
  | 4 => ("FlagWalk$Walk", "guide", "I", false)
  | 5 => ("FlagWalk$Walk", "guideThere", "I", false)
  | 6 => ("FlagWalk$Walk", "mostOut", "I", false)
  | 7 => ("FlagWalk$Walk", "tail", "I", false)
  | 8 => ("FlagWalk$Walk", "lostOnes", "I", false)
  | 9 => ("FlagWalk$Walk", "lastPlace", "I", false)
  | 10 => ("FlagWalk$Walk", "place", "[I", true)
  | 11 => ("FlagWalk$Walk", "left", "[I", true)
  | 12 => ("FlagWalk$Walk", "heard", "[I", true)
  | 13 => ("FlagWalk$Walk", "rested", "[I", true)
  | 14 => ("FlagWalk$Walk", "there", "[I", true)
  | _ => ("FlagWalk$Walk", "lostAt", "[I", true)
def tyX10 : Nat → FieldType := fun k => match k with
  | 0 => .object "FlagWalk$Path"
  | 1 => .object "FlagWalk$People"
  | 2 => .array .int
  | 3 => .object "FlagWalk$Halt"
  | 4 => .int
  | 5 => .int
  | 6 => .int
  | 7 => .int
  | 8 => .int
  | 9 => .int
  | 10 => .array .int
  | 11 => .array .int
  | 12 => .array .int
  | 13 => .array .int
  | 14 => .array .int
  | _ => .array .int
abbrev wsX100 : List Cond := u_ws RX10 TX10 16
theorem nmX10 : ∀ a, a < 16 → ∀ b, b < 16 → a ≠ b → (TX10 a).2.1 ≠ (TX10 b).2.1 := by decide +kernel
theorem tyX10_ok : ∀ k, k < 16 → parseFieldDescriptor (TX10 k).2.2.1 = some (tyX10 k) := by decide +kernel
abbrev cX10_init : ByteArray := prog_12_method_1_code
def yX10_init : MethodName := ⟨RX10, "<init>", "()V"⟩
abbrev cX10_load : ByteArray := prog_12_method_2_code
def yX10_load : MethodName := ⟨RX10, "load", "(LFlagWalk$Plan;)V"⟩
abbrev cX10_takeRule : ByteArray := prog_12_method_3_code
def yX10_takeRule : MethodName := ⟨RX10, "takeRule", "(III)V"⟩
abbrev cX10_start : ByteArray := prog_12_method_4_code
def yX10_start : MethodName := ⟨RX10, "start", "()V"⟩
abbrev cX10_isOver : ByteArray := prog_12_method_5_code
def yX10_isOver : MethodName := ⟨RX10, "isOver", "()Z"⟩
abbrev cX10_live : ByteArray := prog_12_method_6_code
def yX10_live : MethodName := ⟨RX10, "live", "(I)V"⟩
abbrev cX10_lead : ByteArray := prog_12_method_7_code
def yX10_lead : MethodName := ⟨RX10, "lead", "(I)V"⟩
abbrev cX10_isAtOpenStop : ByteArray := prog_12_method_8_code
def yX10_isAtOpenStop : MethodName := ⟨RX10, "isAtOpenStop", "()Z"⟩
abbrev cX10_isKept : ByteArray := prog_12_method_9_code
def yX10_isKept : MethodName := ⟨RX10, "isKept", "()Z"⟩
abbrev cX10_isToBegin : ByteArray := prog_12_method_10_code
def yX10_isToBegin : MethodName := ⟨RX10, "isToBegin", "()Z"⟩
abbrev cX10_speak : ByteArray := prog_12_method_11_code
def yX10_speak : MethodName := ⟨RX10, "speak", "()V"⟩
abbrev cX10_follow : ByteArray := prog_12_method_12_code
def yX10_follow : MethodName := ⟨RX10, "follow", "(II)V"⟩
abbrev cX10_lastBeside : ByteArray := prog_12_method_13_code
def yX10_lastBeside : MethodName := ⟨RX10, "lastBeside", "(I)I"⟩
abbrev cX10_losesItsWay : ByteArray := prog_12_method_14_code
def yX10_losesItsWay : MethodName := ⟨RX10, "losesItsWay", "(I)Z"⟩
abbrev cX10_closeMinute : ByteArray := prog_12_method_15_code
def yX10_closeMinute : MethodName := ⟨RX10, "closeMinute", "(I)V"⟩
abbrev cX10_out : ByteArray := prog_12_method_16_code
def yX10_out : MethodName := ⟨RX10, "out", "()I"⟩
abbrev cX10_leastHeardInTime : ByteArray := prog_12_method_17_code
def yX10_leastHeardInTime : MethodName := ⟨RX10, "leastHeardInTime", "(I)I"⟩
abbrev cX10_heardTogether : ByteArray := prog_12_method_18_code
def yX10_heardTogether : MethodName := ⟨RX10, "heardTogether", "()I"⟩
abbrev cX10_leastHeard : ByteArray := prog_12_method_19_code
def yX10_leastHeard : MethodName := ⟨RX10, "leastHeard", "()I"⟩
abbrev cX10_allThere : ByteArray := prog_12_method_20_code
def yX10_allThere : MethodName := ⟨RX10, "allThere", "()I"⟩
abbrev cX10_lostSet : ByteArray := prog_12_method_21_code
def yX10_lostSet : MethodName := ⟨RX10, "lostSet", "()I"⟩
def RX11 : String := "FlagWalk"
def TX11 : u_T := fun k => match k with
  | 0 => ("FlagWalk", "plan", "LFlagWalk$Plan;", true)
  | 1 => ("FlagWalk", "kept", "LFlagWalk$Plan;", true)
  | 2 => ("FlagWalk", "hasImage", "Z", false)
  | 3 => ("FlagWalk", "tape", "LFlagWalk$Tape;", true)
  | 4 => ("FlagWalk", "draftMarks", "LFlagWalk$Marks;", true)
  | 5 => ("FlagWalk", "draftPeople", "LFlagWalk$People;", true)
  | 6 => ("FlagWalk", "walk", "LFlagWalk$Walk;", true)
  | 7 => ("FlagWalk", "trial", "LFlagWalk$Walk;", true)
  | 8 => ("FlagWalk", "walked", "Z", false)
  | 9 => ("FlagWalk", "trail", "[I", true)
  | 10 => ("FlagWalk", "trailRows", "I", false)
  | 11 => ("FlagWalk", "bestFound", "[I", true)
  | 12 => ("FlagWalk", "bestMinute", "I", false)
  | 13 => ("FlagWalk", "flags", "LFlagWalk$Flags;", true)
  | 14 => ("FlagWalk", "bridge", "LFlagWalk$Bridge;", true)
  | _ => ("FlagWalk", "sheets", "[LFlagWalk$Sheet;", true)
def tyX11 : Nat → FieldType := fun k => match k with
  | 0 => .object "FlagWalk$Plan"
  | 1 => .object "FlagWalk$Plan"
  | 2 => .boolean
  | 3 => .object "FlagWalk$Tape"
  | 4 => .object "FlagWalk$Marks"
  | 5 => .object "FlagWalk$People"
  | 6 => .object "FlagWalk$Walk"
  | 7 => .object "FlagWalk$Walk"
  | 8 => .boolean
  | 9 => .array .int
  | 10 => .int
  | 11 => .array .int
  | 12 => .int
  | 13 => .object "FlagWalk$Flags"
  | 14 => .object "FlagWalk$Bridge"
  | _ => .array (.object "FlagWalk$Sheet")
abbrev wsX110 : List Cond := u_ws RX11 TX11 16
theorem nmX11 : ∀ a, a < 16 → ∀ b, b < 16 → a ≠ b → (TX11 a).2.1 ≠ (TX11 b).2.1 := by decide +kernel
theorem tyX11_ok : ∀ k, k < 16 → parseFieldDescriptor (TX11 k).2.2.1 = some (tyX11 k) := by decide +kernel
abbrev cX11_init : ByteArray := prog_1_method_1_code
def yX11_init : MethodName := ⟨RX11, "<init>", "()V"⟩
abbrev cX11_end : ByteArray := prog_1_method_2_code
def yX11_end : MethodName := ⟨RX11, "end", "(I)I"⟩
abbrev cX11_mark : ByteArray := prog_1_method_3_code
def yX11_mark : MethodName := ⟨RX11, "mark", "(III)I"⟩
abbrev cX11_person : ByteArray := prog_1_method_6_code
def yX11_person : MethodName := ⟨RX11, "person", "(IIZ)I"⟩
abbrev cX11_rule : ByteArray := prog_1_method_8_code
def yX11_rule : MethodName := ⟨RX11, "rule", "(II)I"⟩
abbrev cX11_fate : ByteArray := prog_1_method_13_code
def yX11_fate : MethodName := ⟨RX11, "fate", "(II)I"⟩
abbrev cX11_at : ByteArray := prog_1_method_14_code
def yX11_at : MethodName := ⟨RX11, "at", "(II)I"⟩
abbrev cX11_all : ByteArray := prog_1_method_15_code
def yX11_all : MethodName := ⟨RX11, "all", "(I)I"⟩
abbrev cX11_best : ByteArray := prog_1_method_16_code
def yX11_best : MethodName := ⟨RX11, "best", "(II)I"⟩
abbrev cX11_worth : ByteArray := prog_1_method_17_code
def yX11_worth : MethodName := ⟨RX11, "worth", "(I)I"⟩
abbrev cX11_chosen : ByteArray := prog_1_method_18_code
def yX11_chosen : MethodName := ⟨RX11, "chosen", "(II)I"⟩
abbrev cX11_colours : ByteArray := prog_1_method_23_code
def yX11_colours : MethodName := ⟨RX11, "colours", "(III)I"⟩
abbrev cX11_image : ByteArray := prog_1_method_24_code
def yX11_image : MethodName := ⟨RX11, "image", "()I"⟩
abbrev cX11_restore : ByteArray := prog_1_method_25_code
def yX11_restore : MethodName := ⟨RX11, "restore", "()I"⟩
abbrev cX11_within : ByteArray := prog_1_method_31_code
def yX11_within : MethodName := ⟨RX11, "within", "(III)Z"⟩
abbrev cX11_cutUp : ByteArray := prog_1_method_32_code
def yX11_cutUp : MethodName := ⟨RX11, "cutUp", "(II)I"⟩
abbrev cX11_arePairs : ByteArray := prog_1_method_36_code
def yX11_arePairs : MethodName := ⟨RX11, "arePairs", "(II)Z"⟩
abbrev cX11_isPerson : ByteArray := prog_1_method_38_code
def yX11_isPerson : MethodName := ⟨RX11, "isPerson", "(I)Z"⟩
abbrev cX11_forget : ByteArray := prog_1_method_39_code
def yX11_forget : MethodName := ⟨RX11, "forget", "()V"⟩
abbrev cX11_goAlong : ByteArray := prog_1_method_40_code
def yX11_goAlong : MethodName := ⟨RX11, "goAlong", "()V"⟩
abbrev cX11_writeTrail : ByteArray := prog_1_method_41_code
def yX11_writeTrail : MethodName := ⟨RX11, "writeTrail", "(I)V"⟩
abbrev cX11_seekBest : ByteArray := prog_1_method_42_code
def yX11_seekBest : MethodName := ⟨RX11, "seekBest", "(I)V"⟩
abbrev cX11_noteBest : ByteArray := prog_1_method_43_code
def yX11_noteBest : MethodName := ⟨RX11, "noteBest", "(IIII)V"⟩
def RX12 : String := "FlagWalkModel"
def TX12 : u_T := fun k => match k with
  | _ => ("", "", "", false)
def tyX12 : Nat → FieldType := fun k => match k with
  | _ => .int
abbrev wsX120 : List Cond := u_ws RX12 TX12 0
theorem nmX12 : ∀ a, a < 0 → ∀ b, b < 0 → a ≠ b → (TX12 a).2.1 ≠ (TX12 b).2.1 := by decide +kernel
theorem tyX12_ok : ∀ k, k < 0 → parseFieldDescriptor (TX12 k).2.2.1 = some (tyX12 k) := by decide +kernel
def RJx8e188 : String := "java/lang/Cloneable"
def TJx8e188 : u_T := fun k => match k with
  | _ => ("", "", "", false)
def tyJx8e188 : Nat → FieldType := fun k => match k with
  | _ => .int
abbrev wsJx8e1880 : List Cond := u_ws RJx8e188 TJx8e188 0
theorem nmJx8e188 : ∀ a, a < 0 → ∀ b, b < 0 → a ≠ b → (TJx8e188 a).2.1 ≠ (TJx8e188 b).2.1 := by decide +kernel
theorem tyJx8e188_ok : ∀ k, k < 0 → parseFieldDescriptor (TJx8e188 k).2.2.1 = some (tyJx8e188 k) := by decide +kernel
def RJ9 : String := "java/lang/Math"
def TJ9 : u_T := fun k => match k with
  | _ => ("", "", "", false)
def tyJ9 : Nat → FieldType := fun k => match k with
  | _ => .int
abbrev wsJ90 : List Cond := u_ws RJ9 TJ9 0
theorem nmJ9 : ∀ a, a < 0 → ∀ b, b < 0 → a ≠ b → (TJ9 a).2.1 ≠ (TJ9 b).2.1 := by decide +kernel
theorem tyJ9_ok : ∀ k, k < 0 → parseFieldDescriptor (TJ9 k).2.2.1 = some (tyJ9 k) := by decide +kernel
abbrev cJ9_max_7cf53 : ByteArray := prog_16_method_65_code
def yJ9_max_7cf53 : MethodName := ⟨RJ9, "max", "(II)I"⟩
abbrev cJ9_min_7cf53 : ByteArray := prog_16_method_69_code
def yJ9_min_7cf53 : MethodName := ⟨RJ9, "min", "(II)I"⟩
def RJ10 : String := "java/lang/System"
def TJ10 : u_T := fun k => match k with
  | _ => ("", "", "", false)
def tyJ10 : Nat → FieldType := fun k => match k with
  | _ => .int
abbrev wsJ100 : List Cond := u_ws RJ10 TJ10 0
theorem nmJ10 : ∀ a, a < 0 → ∀ b, b < 0 → a ≠ b → (TJ10 a).2.1 ≠ (TJ10 b).2.1 := by decide +kernel
theorem tyJ10_ok : ∀ k, k < 0 → parseFieldDescriptor (TJ10 k).2.2.1 = some (tyJ10 k) := by decide +kernel
abbrev cX13_cell : ByteArray := method_2_code
def yX13_cell : MethodName := ⟨RX13, "cell", "([II)I"⟩
abbrev cX13_end : ByteArray := method_3_code
def yX13_end : MethodName := ⟨RX13, "end", "([I)I"⟩
abbrev cX13_marks : ByteArray := method_4_code
def yX13_marks : MethodName := ⟨RX13, "marks", "([II)I"⟩
abbrev cX13_mark : ByteArray := method_5_code
def yX13_mark : MethodName := ⟨RX13, "mark", "([IIII)I"⟩
abbrev cX13_people : ByteArray := method_6_code
def yX13_people : MethodName := ⟨RX13, "people", "([II)I"⟩
abbrev cX13_one : ByteArray := method_7_code
def yX13_one : MethodName := ⟨RX13, "one", "([III)I"⟩
abbrev cX13_rule : ByteArray := method_8_code
def yX13_rule : MethodName := ⟨RX13, "rule", "([II)I"⟩
abbrev cX13_lays : ByteArray := method_9_code
def yX13_lays : MethodName := ⟨RX13, "lays", "(LFlagWalk;[II)Z"⟩
abbrev cX13_law : ByteArray := code
def yX13_law : MethodName := ⟨RX13, "law", "([I)Z"⟩
abbrev vwCl : List vw_C := [(RX0, TX0, 6), (RX1, TX1, 3), (RX2, TX2, 6), (RX3, TX3, 4), (RX4, TX4, 5), (RX5, TX5, 4), (RX6, TX6, 5), (RX7, TX7, 3), (RX8, TX8, 8), (RX9, TX9, 4), (RX10, TX10, 16), (RX11, TX11, 16)]
abbrev gw_MT : Type := MethodName × ByteArray × Nat × Option FieldType
abbrev gw_mY (t : gw_MT) : MethodName := t.1
abbrev gw_mC (t : gw_MT) : ByteArray := t.2.1
abbrev gw_mL (t : gw_MT) : Nat := t.2.2.1
abbrev gw_mR (t : gw_MT) : Option FieldType := t.2.2.2
def gw_tb : List Cond := lw_tbl.filter goodWord
theorem gw_tbm {w : Cond} (h : w ∈ tables_1) (g : goodWord w = true) : w ∈ gw_tb := List.mem_filter.mpr ⟨List.mem_append_right _ h, g⟩
theorem gw_tb0 {w : Cond} (h : w ∈ k2_sels lw_privs) (g : goodWord w = true) : w ∈ gw_tb := List.mem_filter.mpr ⟨List.mem_append_left _ h, g⟩
theorem gw_tb1 {w : Cond} (h : w ∈ tables_1_1) (g : goodWord w = true) : w ∈ gw_tb := gw_tbm (List.mem_append_left _ h) g
theorem gw_tb2 {w : Cond} (h : w ∈ tables_1_2) (g : goodWord w = true) : w ∈ gw_tb := gw_tbm (List.mem_append_right _ (List.mem_append_left _ h)) g
theorem gw_tb3 {w : Cond} (h : w ∈ tables_1_3) (g : goodWord w = true) : w ∈ gw_tb := gw_tbm (List.mem_append_right _ (List.mem_append_right _ h)) g
theorem gw_tb_hts {args : Array Value} {s : State} (h : ∀ w ∈ lw_tbl, w.before args s = true) : ∀ w ∈ gw_tb, w.before args s = true := fun w hw => h w (List.mem_filter.mp hw).1
theorem gw_tb_good : ∀ w ∈ gw_tb, goodWord w = true := fun _ hw => (List.mem_filter.mp hw).2

def M_X0_init : gw_MT := (yX0_init, cX0_init, 1, none)
def M_X1_init : gw_MT := (yX1_init, cX1_init, 1, none)
def M_X1_load : gw_MT := (yX1_load, cX1_load, 6, none)
def M_X1_paint : gw_MT := (yX1_paint, cX1_paint, 2, some .int)
def M_X1_paintFrom : gw_MT := (yX1_paintFrom, cX1_paintFrom, 5, some .boolean)
def M_X1_isFree : gw_MT := (yX1_isFree, cX1_isFree, 4, some .boolean)
def M_X2_init : gw_MT := (yX2_init, cX2_init, 1, none)
def M_X2_clear : gw_MT := (yX2_clear, cX2_clear, 1, none)
def M_X3_init : gw_MT := (yX3_init, cX3_init, 1, none)
def M_X3_isTaken : gw_MT := (yX3_isTaken, cX3_isTaken, 4, some .boolean)
def M_X3_add : gw_MT := (yX3_add, cX3_add, 5, some .int)
def M_X3_take : gw_MT := (yX3_take, cX3_take, 3, none)
def M_X4_init : gw_MT := (yX4_init, cX4_init, 1, none)
def M_X4_lay : gw_MT := (yX4_lay, cX4_lay, 3, none)
def M_X4_layKind : gw_MT := (yX4_layKind, cX4_layKind, 6, none)
def M_X4_isRed : gw_MT := (yX4_isRed, cX4_isRed, 4, some .boolean)
def M_X5_init : gw_MT := (yX5_init, cX5_init, 1, none)
def M_X5_tailNumber : gw_MT := (yX5_tailNumber, cX5_tailNumber, 2, some .int)
def M_X5_add : gw_MT := (yX5_add, cX5_add, 4, some .int)
def M_X5_take : gw_MT := (yX5_take, cX5_take, 2, none)
def M_X6_init : gw_MT := (yX6_init, cX6_init, 1, none)
def M_X6_take : gw_MT := (yX6_take, cX6_take, 2, none)
def M_X6_isMet : gw_MT := (yX6_isMet, cX6_isMet, 2, some .boolean)
def M_X6_minutesSpoken : gw_MT := (yX6_minutesSpoken, cX6_minutesSpoken, 3, some .int)
def M_X6_valueIfFits : gw_MT := (yX6_valueIfFits, cX6_valueIfFits, 6, some .int)
def M_X7_init : gw_MT := (yX7_init, cX7_init, 1, none)
def M_X8_init : gw_MT := (yX8_init, cX8_init, 1, none)
def M_X9_init : gw_MT := (yX9_init, cX9_init, 1, none)
def M_X10_init : gw_MT := (yX10_init, cX10_init, 1, none)
def M_X10_load : gw_MT := (yX10_load, cX10_load, 2, none)
def M_X10_takeRule : gw_MT := (yX10_takeRule, cX10_takeRule, 4, none)
def M_X10_start : gw_MT := (yX10_start, cX10_start, 2, none)
def M_X10_isOver : gw_MT := (yX10_isOver, cX10_isOver, 1, some .boolean)
def M_X10_live : gw_MT := (yX10_live, cX10_live, 3, none)
def M_X10_lead : gw_MT := (yX10_lead, cX10_lead, 3, none)
def M_X10_isAtOpenStop : gw_MT := (yX10_isAtOpenStop, cX10_isAtOpenStop, 1, some .boolean)
def M_X10_isKept : gw_MT := (yX10_isKept, cX10_isKept, 1, some .boolean)
def M_X10_isToBegin : gw_MT := (yX10_isToBegin, cX10_isToBegin, 3, some .boolean)
def M_X10_speak : gw_MT := (yX10_speak, cX10_speak, 3, none)
def M_X10_follow : gw_MT := (yX10_follow, cX10_follow, 7, none)
def M_X10_lastBeside : gw_MT := (yX10_lastBeside, cX10_lastBeside, 4, some .int)
def M_X10_losesItsWay : gw_MT := (yX10_losesItsWay, cX10_losesItsWay, 4, some .boolean)
def M_X10_closeMinute : gw_MT := (yX10_closeMinute, cX10_closeMinute, 5, none)
def M_X10_out : gw_MT := (yX10_out, cX10_out, 1, some .int)
def M_X10_leastHeardInTime : gw_MT := (yX10_leastHeardInTime, cX10_leastHeardInTime, 3, some .int)
def M_X10_heardTogether : gw_MT := (yX10_heardTogether, cX10_heardTogether, 3, some .int)
def M_X10_leastHeard : gw_MT := (yX10_leastHeard, cX10_leastHeard, 3, some .int)
def M_X10_allThere : gw_MT := (yX10_allThere, cX10_allThere, 3, some .int)
def M_X10_lostSet : gw_MT := (yX10_lostSet, cX10_lostSet, 3, some .int)
def M_X11_init : gw_MT := (yX11_init, cX11_init, 2, none)
def M_X11_end : gw_MT := (yX11_end, cX11_end, 3, some .int)
def M_X11_mark : gw_MT := (yX11_mark, cX11_mark, 5, some .int)
def M_X11_person : gw_MT := (yX11_person, cX11_person, 5, some .int)
def M_X11_rule : gw_MT := (yX11_rule, cX11_rule, 4, some .int)
def M_X11_fate : gw_MT := (yX11_fate, cX11_fate, 3, some .int)
def M_X11_at : gw_MT := (yX11_at, cX11_at, 4, some .int)
def M_X11_all : gw_MT := (yX11_all, cX11_all, 2, some .int)
def M_X11_best : gw_MT := (yX11_best, cX11_best, 3, some .int)
def M_X11_worth : gw_MT := (yX11_worth, cX11_worth, 4, some .int)
def M_X11_chosen : gw_MT := (yX11_chosen, cX11_chosen, 9, some .int)
def M_X11_colours : gw_MT := (yX11_colours, cX11_colours, 5, some .int)
def M_X11_image : gw_MT := (yX11_image, cX11_image, 1, some .int)
def M_X11_restore : gw_MT := (yX11_restore, cX11_restore, 1, some .int)
def M_X11_within : gw_MT := (yX11_within, cX11_within, 3, some .boolean)
def M_X11_cutUp : gw_MT := (yX11_cutUp, cX11_cutUp, 2, some .int)
def M_X11_arePairs : gw_MT := (yX11_arePairs, cX11_arePairs, 2, some .boolean)
def M_X11_isPerson : gw_MT := (yX11_isPerson, cX11_isPerson, 2, some .boolean)
def M_X11_forget : gw_MT := (yX11_forget, cX11_forget, 1, none)
def M_X11_goAlong : gw_MT := (yX11_goAlong, cX11_goAlong, 2, none)
def M_X11_writeTrail : gw_MT := (yX11_writeTrail, cX11_writeTrail, 3, none)
def M_X11_seekBest : gw_MT := (yX11_seekBest, cX11_seekBest, 8, none)
def M_X11_noteBest : gw_MT := (yX11_noteBest, cX11_noteBest, 5, none)
def M_X13_cell : gw_MT := (yX13_cell, cX13_cell, 2, some .int)
def M_X13_end : gw_MT := (yX13_end, cX13_end, 1, some .int)
def M_X13_marks : gw_MT := (yX13_marks, cX13_marks, 2, some .int)
def M_X13_mark : gw_MT := (yX13_mark, cX13_mark, 6, some .int)
def M_X13_people : gw_MT := (yX13_people, cX13_people, 2, some .int)
def M_X13_one : gw_MT := (yX13_one, cX13_one, 6, some .int)
def M_X13_rule : gw_MT := (yX13_rule, cX13_rule, 3, some .int)
def M_X13_lays : gw_MT := (yX13_lays, cX13_lays, 6, some .boolean)
def M_X13_law : gw_MT := (yX13_law, cX13_law, 20, some .boolean)
