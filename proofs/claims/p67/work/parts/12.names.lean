/-! names, fields: rows of claim/NAMES.whole.lean.txt, as it prints them -/
def RX0 : String := "DandelionBroadcast$1"
def TX0 : u_T := fun k => match k with
  | _ => ("", "", "", false)
def tyX0 : Nat → FieldType := fun k => match k with
  | _ => .int
abbrev wsX00 : List Cond := u_ws RX0 TX0 0
theorem nmX0 : ∀ a, a < 0 → ∀ b, b < 0 → a ≠ b → (TX0 a).2.1 ≠ (TX0 b).2.1 := by decide +kernel
theorem tyX0_ok : ∀ k, k < 0 → parseFieldDescriptor (TX0 k).2.2.1 = some (tyX0 k) := by decide +kernel
def RX1 : String := "DandelionBroadcast$Cast"
def TX1 : u_T := fun k => match k with
  | 0 => ("DandelionBroadcast$Cast", "held", "[I", true)
  | 1 => ("DandelionBroadcast$Cast", "started", "I", false)
  | 2 => ("DandelionBroadcast$Cast", "running", "Z", false)
  | 3 => ("DandelionBroadcast$Cast", "origin", "I", false)
  | 4 => ("DandelionBroadcast$Cast", "data", "I", false)
  | 5 => ("DandelionBroadcast$Cast", "parity", "Z", false)
  | 6 => ("DandelionBroadcast$Cast", "blown", "I", false)
  | _ => ("DandelionBroadcast$Cast", "seed", "I", false)
def tyX1 : Nat → FieldType := fun k => match k with
  | 0 => .array .int
  | 1 => .int
  | 2 => .boolean
  | 3 => .int
  | 4 => .int
  | 5 => .boolean
  | 6 => .int
  | _ => .int
abbrev wsX10 : List Cond := u_ws RX1 TX1 8
theorem nmX1 : ∀ a, a < 8 → ∀ b, b < 8 → a ≠ b → (TX1 a).2.1 ≠ (TX1 b).2.1 := by decide +kernel
theorem tyX1_ok : ∀ k, k < 8 → parseFieldDescriptor (TX1 k).2.2.1 = some (tyX1 k) := by decide +kernel
abbrev cX1_init : ByteArray := prog_3_method_1_code
def yX1_init : MethodName := ⟨RX1, "<init>", "()V"⟩
abbrev cX1_packetTotal : ByteArray := prog_3_method_2_code
def yX1_packetTotal : MethodName := ⟨RX1, "packetTotal", "()I"⟩
abbrev cX1_allPackets : ByteArray := prog_3_method_3_code
def yX1_allPackets : MethodName := ⟨RX1, "allPackets", "()I"⟩
abbrev cX1_covers : ByteArray := prog_3_method_4_code
def yX1_covers : MethodName := ⟨RX1, "covers", "(I)Z"⟩
abbrev cX1_copyFrom : ByteArray := prog_3_method_5_code
def yX1_copyFrom : MethodName := ⟨RX1, "copyFrom", "(LDandelionBroadcast$Cast;)V"⟩
def RX2 : String := "DandelionBroadcast$Changer"
def TX2 : u_T := fun k => match k with
  | 0 => ("DandelionBroadcast$Changer", "reason", "I", false)
  | _ => ("DandelionBroadcast$Changer", "detail", "I", false)
def tyX2 : Nat → FieldType := fun k => match k with
  | 0 => .int
  | _ => .int
abbrev wsX20 : List Cond := u_ws RX2 TX2 2
theorem nmX2 : ∀ a, a < 2 → ∀ b, b < 2 → a ≠ b → (TX2 a).2.1 ≠ (TX2 b).2.1 := by decide +kernel
theorem tyX2_ok : ∀ k, k < 2 → parseFieldDescriptor (TX2 k).2.2.1 = some (tyX2 k) := by decide +kernel
abbrev cX2_init : ByteArray := prog_4_method_1_code
def yX2_init : MethodName := ⟨RX2, "<init>", "()V"⟩
abbrev cX2_reject : ByteArray := prog_4_method_2_code
def yX2_reject : MethodName := ⟨RX2, "reject", "(II)I"⟩
abbrev cX2_isDigit : ByteArray := prog_4_method_3_code
def yX2_isDigit : MethodName := ⟨RX2, "isDigit", "(I)Z"⟩
abbrev cX2_appendField : ByteArray := prog_4_method_4_code
def yX2_appendField : MethodName := ⟨RX2, "appendField", "(LDandelionBroadcast$State;I)I"⟩
abbrev cX2_replaceShield : ByteArray := prog_4_method_5_code
def yX2_replaceShield : MethodName := ⟨RX2, "replaceShield", "(LDandelionBroadcast$State;II)I"⟩
abbrev cX2_appendPath : ByteArray := prog_4_method_6_code
def yX2_appendPath : MethodName := ⟨RX2, "appendPath", "(LDandelionBroadcast$State;IIII)I"⟩
abbrev cX2_replaceGust : ByteArray := prog_4_method_7_code
def yX2_replaceGust : MethodName := ⟨RX2, "replaceGust", "(LDandelionBroadcast$State;II)I"⟩
abbrev cX2_replaceBlocked : ByteArray := prog_4_method_8_code
def yX2_replaceBlocked : MethodName := ⟨RX2, "replaceBlocked", "(LDandelionBroadcast$State;IZ)I"⟩
abbrev cX2_replaceSeed : ByteArray := prog_4_method_9_code
def yX2_replaceSeed : MethodName := ⟨RX2, "replaceSeed", "(LDandelionBroadcast$State;I)I"⟩
abbrev cX2_beginBroadcast : ByteArray := prog_4_method_10_code
def yX2_beginBroadcast : MethodName := ⟨RX2, "beginBroadcast", "(LDandelionBroadcast$State;IIZ)I"⟩
abbrev cX2_letBlowOnce : ByteArray := prog_4_method_11_code
def yX2_letBlowOnce : MethodName := ⟨RX2, "letBlowOnce", "(LDandelionBroadcast$State;LDandelionBroadcast$Winds;)I"⟩
abbrev cX2_letBlowToEnd : ByteArray := prog_4_method_12_code
def yX2_letBlowToEnd : MethodName := ⟨RX2, "letBlowToEnd", "(LDandelionBroadcast$State;LDandelionBroadcast$Winds;)I"⟩
abbrev cX2_stopBroadcast : ByteArray := prog_4_method_13_code
def yX2_stopBroadcast : MethodName := ⟨RX2, "stopBroadcast", "(LDandelionBroadcast$State;)I"⟩
def RX3 : String := "DandelionBroadcast$Commands"
def TX3 : u_T := fun k => match k with
  | 0 => ("DandelionBroadcast$Commands", "kinds", "[LDandelionBroadcast$Kind;", true)
  | 1 => ("DandelionBroadcast$Commands", "values", "[[I", true)
  | 2 => ("DandelionBroadcast$Commands", "total", "I", false)
  | 3 => ("DandelionBroadcast$Commands", "length", "I", false)
  | 4 => ("DandelionBroadcast$Commands", "text", "[C", true)
  | _ => ("DandelionBroadcast$Commands", "at", "I", false)
def tyX3 : Nat → FieldType := fun k => match k with
  | 0 => .array (.object "DandelionBroadcast$Kind")
  | 1 => .array (.array .int)
  | 2 => .int
  | 3 => .int
  | 4 => .array .char
  | _ => .int
abbrev wsX30 : List Cond := u_ws RX3 TX3 6
theorem nmX3 : ∀ a, a < 6 → ∀ b, b < 6 → a ≠ b → (TX3 a).2.1 ≠ (TX3 b).2.1 := by decide +kernel
theorem tyX3_ok : ∀ k, k < 6 → parseFieldDescriptor (TX3 k).2.2.1 = some (tyX3 k) := by decide +kernel
abbrev cX3_init : ByteArray := prog_5_method_1_code
def yX3_init : MethodName := ⟨RX3, "<init>", "()V"⟩
abbrev cX3_append : ByteArray := prog_5_method_2_code
def yX3_append : MethodName := ⟨RX3, "append", "(C)V"⟩
abbrev cX3_read : ByteArray := prog_5_method_3_code
def yX3_read : MethodName := ⟨RX3, "read", "()I"⟩
abbrev cX3_readAll : ByteArray := prog_5_method_4_code
def yX3_readAll : MethodName := ⟨RX3, "readAll", "()I"⟩
abbrev cX3_readCommand : ByteArray := prog_5_method_5_code
def yX3_readCommand : MethodName := ⟨RX3, "readCommand", "(I)Z"⟩
abbrev cX3_takeShape : ByteArray := prog_5_method_6_code
def yX3_takeShape : MethodName := ⟨RX3, "takeShape", "(Ljava/lang/String;[I)Z"⟩
abbrev cX3_takeValue : ByteArray := prog_5_method_7_code
def yX3_takeValue : MethodName := ⟨RX3, "takeValue", "(C)I"⟩
abbrev cX3_takeSign : ByteArray := prog_5_method_8_code
def yX3_takeSign : MethodName := ⟨RX3, "takeSign", "(C)Z"⟩
abbrev cX3_takeDigits : ByteArray := prog_5_method_9_code
def yX3_takeDigits : MethodName := ⟨RX3, "takeDigits", "(I)I"⟩
def RX4 : String := "DandelionBroadcast$History"
def TX4 : u_T := fun k => match k with
  | 0 => ("DandelionBroadcast$History", "slots", "[LDandelionBroadcast$State;", true)
  | 1 => ("DandelionBroadcast$History", "next", "I", false)
  | _ => ("DandelionBroadcast$History", "kept", "I", false)
def tyX4 : Nat → FieldType := fun k => match k with
  | 0 => .array (.object "DandelionBroadcast$State")
  | 1 => .int
  | _ => .int
abbrev wsX40 : List Cond := u_ws RX4 TX4 3
theorem nmX4 : ∀ a, a < 3 → ∀ b, b < 3 → a ≠ b → (TX4 a).2.1 ≠ (TX4 b).2.1 := by decide +kernel
theorem tyX4_ok : ∀ k, k < 3 → parseFieldDescriptor (TX4 k).2.2.1 = some (tyX4 k) := by decide +kernel
abbrev cX4_init : ByteArray := prog_6_method_1_code
def yX4_init : MethodName := ⟨RX4, "<init>", "()V"⟩
abbrev cX4_note : ByteArray := prog_6_method_2_code
def yX4_note : MethodName := ⟨RX4, "note", "(LDandelionBroadcast$State;)V"⟩
abbrev cX4_noted : ByteArray := prog_6_method_3_code
def yX4_noted : MethodName := ⟨RX4, "noted", "()LDandelionBroadcast$State;"⟩
abbrev cX4_keep : ByteArray := prog_6_method_4_code
def yX4_keep : MethodName := ⟨RX4, "keep", "()V"⟩
abbrev cX4_stepBack : ByteArray := prog_6_method_5_code
def yX4_stepBack : MethodName := ⟨RX4, "stepBack", "(LDandelionBroadcast$State;)V"⟩
abbrev cX4_forget : ByteArray := prog_6_method_6_code
def yX4_forget : MethodName := ⟨RX4, "forget", "()V"⟩
def RX5 : String := "DandelionBroadcast$Kind"
def TX5 : u_T := fun k => match k with
  | _ => ("", "", "", false)
def tyX5 : Nat → FieldType := fun k => match k with
  | _ => .int
abbrev wsX50 : List Cond := u_ws RX5 TX5 0
theorem nmX5 : ∀ a, a < 0 → ∀ b, b < 0 → a ≠ b → (TX5 a).2.1 ≠ (TX5 b).2.1 := by decide +kernel
theorem tyX5_ok : ∀ k, k < 0 → parseFieldDescriptor (TX5 k).2.2.1 = some (tyX5 k) := by decide +kernel
def RX6 : String := "DandelionBroadcast$Net"
def TX6 : u_T := fun k => match k with
  | 0 => ("DandelionBroadcast$Net", "shields", "[I", true)
  | 1 => ("DandelionBroadcast$Net", "firsts", "[I", true)
  | 2 => ("DandelionBroadcast$Net", "seconds", "[I", true)
  | 3 => ("DandelionBroadcast$Net", "costs", "[I", true)
  | 4 => ("DandelionBroadcast$Net", "gusts", "[I", true)
  | 5 => ("DandelionBroadcast$Net", "closed", "I", false)
  | 6 => ("DandelionBroadcast$Net", "fieldTotal", "I", false)
  | _ => ("DandelionBroadcast$Net", "pathTotal", "I", false)
def tyX6 : Nat → FieldType := fun k => match k with
  | 0 => .array .int
  | 1 => .array .int
  | 2 => .array .int
  | 3 => .array .int
  | 4 => .array .int
  | 5 => .int
  | 6 => .int
  | _ => .int
abbrev wsX60 : List Cond := u_ws RX6 TX6 8
theorem nmX6 : ∀ a, a < 8 → ∀ b, b < 8 → a ≠ b → (TX6 a).2.1 ≠ (TX6 b).2.1 := by decide +kernel
theorem tyX6_ok : ∀ k, k < 8 → parseFieldDescriptor (TX6 k).2.2.1 = some (tyX6 k) := by decide +kernel
abbrev cX6_init : ByteArray := prog_8_method_1_code
def yX6_init : MethodName := ⟨RX6, "<init>", "()V"⟩
abbrev cX6_hasField : ByteArray := prog_8_method_2_code
def yX6_hasField : MethodName := ⟨RX6, "hasField", "(I)Z"⟩
abbrev cX6_hasPath : ByteArray := prog_8_method_3_code
def yX6_hasPath : MethodName := ⟨RX6, "hasPath", "(I)Z"⟩
abbrev cX6_isOpen : ByteArray := prog_8_method_4_code
def yX6_isOpen : MethodName := ⟨RX6, "isOpen", "(I)Z"⟩
abbrev cX6_closedTotal : ByteArray := prog_8_method_5_code
def yX6_closedTotal : MethodName := ⟨RX6, "closedTotal", "()I"⟩
abbrev cX6_endsOf : ByteArray := prog_8_method_6_code
def yX6_endsOf : MethodName := ⟨RX6, "endsOf", "(I)I"⟩
abbrev cX6_farEnd : ByteArray := prog_8_method_7_code
def yX6_farEnd : MethodName := ⟨RX6, "farEnd", "(II)I"⟩
abbrev cX6_pathBetween : ByteArray := prog_8_method_8_code
def yX6_pathBetween : MethodName := ⟨RX6, "pathBetween", "(II)I"⟩
abbrev cX6_dangerOf : ByteArray := prog_8_method_9_code
def yX6_dangerOf : MethodName := ⟨RX6, "dangerOf", "(II)I"⟩
abbrev cX6_copyFrom : ByteArray := prog_8_method_10_code
def yX6_copyFrom : MethodName := ⟨RX6, "copyFrom", "(LDandelionBroadcast$Net;)V"⟩
def RX7 : String := "DandelionBroadcast$SpreadTree"
def TX7 : u_T := fun k => match k with
  | 0 => ("DandelionBroadcast$SpreadTree", "parents", "[I", true)
  | 1 => ("DandelionBroadcast$SpreadTree", "pathsUp", "[I", true)
  | 2 => ("DandelionBroadcast$SpreadTree", "depths", "[I", true)
  | 3 => ("DandelionBroadcast$SpreadTree", "chances", "[F", true)
  | _ => ("DandelionBroadcast$SpreadTree", "labels", "[I", true)
def tyX7 : Nat → FieldType := fun k => match k with
  | 0 => .array .int
  | 1 => .array .int
  | 2 => .array .int
  | 3 => .array .float
  | _ => .array .int
abbrev wsX70 : List Cond := u_ws RX7 TX7 5
theorem nmX7 : ∀ a, a < 5 → ∀ b, b < 5 → a ≠ b → (TX7 a).2.1 ≠ (TX7 b).2.1 := by decide +kernel
theorem tyX7_ok : ∀ k, k < 5 → parseFieldDescriptor (TX7 k).2.2.1 = some (tyX7 k) := by decide +kernel
abbrev cX7_init : ByteArray := prog_9_method_1_code
def yX7_init : MethodName := ⟨RX7, "<init>", "()V"⟩
abbrev cX7_grow : ByteArray := prog_9_method_2_code
def yX7_grow : MethodName := ⟨RX7, "grow", "(LDandelionBroadcast$Net;I)V"⟩
abbrev cX7_firstPathOut : ByteArray := prog_9_method_3_code
def yX7_firstPathOut : MethodName := ⟨RX7, "firstPathOut", "(LDandelionBroadcast$Net;)I"⟩
abbrev cX7_attach : ByteArray := prog_9_method_4_code
def yX7_attach : MethodName := ⟨RX7, "attach", "(LDandelionBroadcast$Net;I)V"⟩
abbrev cX7_costGrown : ByteArray := prog_9_method_5_code
def yX7_costGrown : MethodName := ⟨RX7, "costGrown", "(LDandelionBroadcast$Net;I)I"⟩
abbrev cX7_chooseInOrder : ByteArray := prog_9_method_6_code
def yX7_chooseInOrder : MethodName := ⟨RX7, "chooseInOrder", "(LDandelionBroadcast$Net;I)I"⟩
abbrev cX7_joinLabels : ByteArray := prog_9_method_7_code
def yX7_joinLabels : MethodName := ⟨RX7, "joinLabels", "(LDandelionBroadcast$Net;I)Z"⟩
abbrev cX7_onlyAround : ByteArray := prog_9_method_8_code
def yX7_onlyAround : MethodName := ⟨RX7, "onlyAround", "(LDandelionBroadcast$Net;II)I"⟩
abbrev cX7_costInOrder : ByteArray := prog_9_method_9_code
def yX7_costInOrder : MethodName := ⟨RX7, "costInOrder", "(LDandelionBroadcast$Net;I)I"⟩
def RX8 : String := "DandelionBroadcast$State"
def TX8 : u_T := fun k => match k with
  | 0 => ("DandelionBroadcast$State", "net", "LDandelionBroadcast$Net;", true)
  | 1 => ("DandelionBroadcast$State", "cast", "LDandelionBroadcast$Cast;", true)
  | 2 => ("DandelionBroadcast$State", "uses", "[I", true)
  | 3 => ("DandelionBroadcast$State", "sent", "I", false)
  | 4 => ("DandelionBroadcast$State", "lost", "I", false)
  | 5 => ("DandelionBroadcast$State", "rebuilt", "I", false)
  | 6 => ("DandelionBroadcast$State", "spent", "I", false)
  | 7 => ("DandelionBroadcast$State", "finished", "I", false)
  | _ => ("DandelionBroadcast$State", "failed", "I", false)
def tyX8 : Nat → FieldType := fun k => match k with
  | 0 => .object "DandelionBroadcast$Net"
  | 1 => .object "DandelionBroadcast$Cast"
  | 2 => .array .int
  | 3 => .int
  | 4 => .int
  | 5 => .int
  | 6 => .int
  | 7 => .int
  | _ => .int
abbrev wsX80 : List Cond := u_ws RX8 TX8 9
theorem nmX8 : ∀ a, a < 9 → ∀ b, b < 9 → a ≠ b → (TX8 a).2.1 ≠ (TX8 b).2.1 := by decide +kernel
theorem tyX8_ok : ∀ k, k < 9 → parseFieldDescriptor (TX8 k).2.2.1 = some (tyX8 k) := by decide +kernel
abbrev cX8_init : ByteArray := prog_10_method_1_code
def yX8_init : MethodName := ⟨RX8, "<init>", "()V"⟩
abbrev cX8_fieldsAheadOf : ByteArray := prog_10_method_2_code
def yX8_fieldsAheadOf : MethodName := ⟨RX8, "fieldsAheadOf", "(I)I"⟩
abbrev cX8_fieldIsAhead : ByteArray := prog_10_method_3_code
def yX8_fieldIsAhead : MethodName := ⟨RX8, "fieldIsAhead", "(II)Z"⟩
abbrev cX8_pathsAheadOf : ByteArray := prog_10_method_4_code
def yX8_pathsAheadOf : MethodName := ⟨RX8, "pathsAheadOf", "(I)I"⟩
abbrev cX8_pathIsAhead : ByteArray := prog_10_method_5_code
def yX8_pathIsAhead : MethodName := ⟨RX8, "pathIsAhead", "(II)Z"⟩
abbrev cX8_totalsAgree : ByteArray := prog_10_method_6_code
def yX8_totalsAgree : MethodName := ⟨RX8, "totalsAgree", "()Z"⟩
abbrev cX8_copyFrom : ByteArray := prog_10_method_7_code
def yX8_copyFrom : MethodName := ⟨RX8, "copyFrom", "(LDandelionBroadcast$State;)V"⟩
def RX9 : String := "DandelionBroadcast$Ways"
def TX9 : u_T := fun k => match k with
  | 0 => ("DandelionBroadcast$Ways", "costs", "[I", true)
  | 1 => ("DandelionBroadcast$Ways", "flows", "[I", true)
  | 2 => ("DandelionBroadcast$Ways", "arrivals", "[I", true)
  | 3 => ("DandelionBroadcast$Ways", "numbers", "[I", true)
  | 4 => ("DandelionBroadcast$Ways", "earliest", "[I", true)
  | 5 => ("DandelionBroadcast$Ways", "nextPaths", "[I", true)
  | _ => ("DandelionBroadcast$Ways", "numbered", "I", false)
def tyX9 : Nat → FieldType := fun k => match k with
  | 0 => .array .int
  | 1 => .array .int
  | 2 => .array .int
  | 3 => .array .int
  | 4 => .array .int
  | 5 => .array .int
  | _ => .int
abbrev wsX90 : List Cond := u_ws RX9 TX9 7
theorem nmX9 : ∀ a, a < 7 → ∀ b, b < 7 → a ≠ b → (TX9 a).2.1 ≠ (TX9 b).2.1 := by decide +kernel
theorem tyX9_ok : ∀ k, k < 7 → parseFieldDescriptor (TX9 k).2.2.1 = some (tyX9 k) := by decide +kernel
abbrev cX9_init : ByteArray := prog_11_method_1_code
def yX9_init : MethodName := ⟨RX9, "<init>", "()V"⟩
abbrev cX9_groupAround : ByteArray := prog_11_method_2_code
def yX9_groupAround : MethodName := ⟨RX9, "groupAround", "(LDandelionBroadcast$Net;II)I"⟩
abbrev cX9_countGroups : ByteArray := prog_11_method_3_code
def yX9_countGroups : MethodName := ⟨RX9, "countGroups", "(LDandelionBroadcast$Net;I)I"⟩
abbrev cX9_cheapestByVisiting : ByteArray := prog_11_method_4_code
def yX9_cheapestByVisiting : MethodName := ⟨RX9, "cheapestByVisiting", "(LDandelionBroadcast$Net;II)I"⟩
abbrev cX9_startCosts : ByteArray := prog_11_method_5_code
def yX9_startCosts : MethodName := ⟨RX9, "startCosts", "(I)V"⟩
abbrev cX9_nearestOutside : ByteArray := prog_11_method_6_code
def yX9_nearestOutside : MethodName := ⟨RX9, "nearestOutside", "(LDandelionBroadcast$Net;I)I"⟩
abbrev cX9_lowerAround : ByteArray := prog_11_method_7_code
def yX9_lowerAround : MethodName := ⟨RX9, "lowerAround", "(LDandelionBroadcast$Net;I)V"⟩
abbrev cX9_cheapestByLowering : ByteArray := prog_11_method_8_code
def yX9_cheapestByLowering : MethodName := ⟨RX9, "cheapestByLowering", "(LDandelionBroadcast$Net;II)I"⟩
abbrev cX9_mostDisjoint : ByteArray := prog_11_method_9_code
def yX9_mostDisjoint : MethodName := ⟨RX9, "mostDisjoint", "(LDandelionBroadcast$Net;II)I"⟩
abbrev cX9_addWay : ByteArray := prog_11_method_10_code
def yX9_addWay : MethodName := ⟨RX9, "addWay", "(LDandelionBroadcast$Net;II)Z"⟩
abbrev cX9_reachByFlows : ByteArray := prog_11_method_11_code
def yX9_reachByFlows : MethodName := ⟨RX9, "reachByFlows", "(LDandelionBroadcast$Net;I)I"⟩
abbrev cX9_fewestLeaving : ByteArray := prog_11_method_12_code
def yX9_fewestLeaving : MethodName := ⟨RX9, "fewestLeaving", "(LDandelionBroadcast$Net;II)I"⟩
abbrev cX9_countLeaving : ByteArray := prog_11_method_13_code
def yX9_countLeaving : MethodName := ⟨RX9, "countLeaving", "(LDandelionBroadcast$Net;I)I"⟩
abbrev cX9_partsGroups : ByteArray := prog_11_method_14_code
def yX9_partsGroups : MethodName := ⟨RX9, "partsGroups", "(LDandelionBroadcast$Net;I)Z"⟩
abbrev cX9_countBridgesByGroups : ByteArray := prog_11_method_15_code
def yX9_countBridgesByGroups : MethodName := ⟨RX9, "countBridgesByGroups", "(LDandelionBroadcast$Net;)I"⟩
abbrev cX9_countBridgesByWalk : ByteArray := prog_11_method_16_code
def yX9_countBridgesByWalk : MethodName := ⟨RX9, "countBridgesByWalk", "(LDandelionBroadcast$Net;)I"⟩
abbrev cX9_countBridgesFrom : ByteArray := prog_11_method_17_code
def yX9_countBridgesFrom : MethodName := ⟨RX9, "countBridgesFrom", "(LDandelionBroadcast$Net;I)I"⟩
abbrev cX9_enter : ByteArray := prog_11_method_18_code
def yX9_enter : MethodName := ⟨RX9, "enter", "(II)V"⟩
abbrev cX9_takePath : ByteArray := prog_11_method_19_code
def yX9_takePath : MethodName := ⟨RX9, "takePath", "(LDandelionBroadcast$Net;I)I"⟩
def RX10 : String := "DandelionBroadcast$Winds"
def TX10 : u_T := fun k => match k with
  | _ => ("DandelionBroadcast$Winds", "tree", "LDandelionBroadcast$SpreadTree;", true)
def tyX10 : Nat → FieldType := fun k => match k with
  | _ => .object "DandelionBroadcast$SpreadTree"
abbrev wsX100 : List Cond := u_ws RX10 TX10 1
theorem nmX10 : ∀ a, a < 1 → ∀ b, b < 1 → a ≠ b → (TX10 a).2.1 ≠ (TX10 b).2.1 := by decide +kernel
theorem tyX10_ok : ∀ k, k < 1 → parseFieldDescriptor (TX10 k).2.2.1 = some (tyX10 k) := by decide +kernel
abbrev cX10_init : ByteArray := prog_12_method_1_code
def yX10_init : MethodName := ⟨RX10, "<init>", "()V"⟩
abbrev cX10_blowOnce : ByteArray := prog_12_method_2_code
def yX10_blowOnce : MethodName := ⟨RX10, "blowOnce", "(LDandelionBroadcast$State;)I"⟩
abbrev cX10_sendDown : ByteArray := prog_12_method_3_code
def yX10_sendDown : MethodName := ⟨RX10, "sendDown", "(LDandelionBroadcast$State;I)I"⟩
abbrev cX10_arrives : ByteArray := prog_12_method_4_code
def yX10_arrives : MethodName := ⟨RX10, "arrives", "(LDandelionBroadcast$State;I)Z"⟩
abbrev cX10_rebuildMissing : ByteArray := prog_12_method_5_code
def yX10_rebuildMissing : MethodName := ⟨RX10, "rebuildMissing", "(LDandelionBroadcast$State;)V"⟩
abbrev cX10_endIfDue : ByteArray := prog_12_method_6_code
def yX10_endIfDue : MethodName := ⟨RX10, "endIfDue", "(LDandelionBroadcast$State;)V"⟩
abbrev cX10_coversTree : ByteArray := prog_12_method_7_code
def yX10_coversTree : MethodName := ⟨RX10, "coversTree", "(LDandelionBroadcast$State;)Z"⟩
def RX11 : String := "DandelionBroadcast"
def TX11 : u_T := fun k => match k with
  | 0 => ("DandelionBroadcast", "now", "LDandelionBroadcast$State;", true)
  | 1 => ("DandelionBroadcast", "foreseen", "LDandelionBroadcast$State;", true)
  | 2 => ("DandelionBroadcast", "snapshot", "LDandelionBroadcast$State;", true)
  | 3 => ("DandelionBroadcast", "history", "LDandelionBroadcast$History;", true)
  | 4 => ("DandelionBroadcast", "ways", "LDandelionBroadcast$Ways;", true)
  | 5 => ("DandelionBroadcast", "tree", "LDandelionBroadcast$SpreadTree;", true)
  | 6 => ("DandelionBroadcast", "winds", "LDandelionBroadcast$Winds;", true)
  | 7 => ("DandelionBroadcast", "changer", "LDandelionBroadcast$Changer;", true)
  | 8 => ("DandelionBroadcast", "commands", "LDandelionBroadcast$Commands;", true)
  | 9 => ("DandelionBroadcast", "output", "[C", true)
  | 10 => ("DandelionBroadcast", "outputLength", "I", false)
  | 11 => ("DandelionBroadcast", "snapshotSaved", "Z", false)
  | 12 => ("DandelionBroadcast", "latestReason", "I", false)
  | 13 => ("DandelionBroadcast", "latestDetail", "I", false)
  | 14 => ("DandelionBroadcast", "latestCause", "I", false)
  | _ => ("DandelionBroadcast", "latestSyntaxError", "I", false)
def tyX11 : Nat → FieldType := fun k => match k with
  | 0 => .object "DandelionBroadcast$State"
  | 1 => .object "DandelionBroadcast$State"
  | 2 => .object "DandelionBroadcast$State"
  | 3 => .object "DandelionBroadcast$History"
  | 4 => .object "DandelionBroadcast$Ways"
  | 5 => .object "DandelionBroadcast$SpreadTree"
  | 6 => .object "DandelionBroadcast$Winds"
  | 7 => .object "DandelionBroadcast$Changer"
  | 8 => .object "DandelionBroadcast$Commands"
  | 9 => .array .char
  | 10 => .int
  | 11 => .boolean
  | 12 => .int
  | 13 => .int
  | 14 => .int
  | _ => .int
abbrev wsX110 : List Cond := u_ws RX11 TX11 16
theorem nmX11 : ∀ a, a < 16 → ∀ b, b < 16 → a ≠ b → (TX11 a).2.1 ≠ (TX11 b).2.1 := by decide +kernel
theorem tyX11_ok : ∀ k, k < 16 → parseFieldDescriptor (TX11 k).2.2.1 = some (tyX11 k) := by decide +kernel
abbrev cX11_init : ByteArray := prog_1_method_1_code
def yX11_init : MethodName := ⟨RX11, "<init>", "()V"⟩
abbrev cX11_addField : ByteArray := prog_1_method_2_code
def yX11_addField : MethodName := ⟨RX11, "addField", "(I)I"⟩
abbrev cX11_setShield : ByteArray := prog_1_method_3_code
def yX11_setShield : MethodName := ⟨RX11, "setShield", "(II)I"⟩
abbrev cX11_addPath : ByteArray := prog_1_method_4_code
def yX11_addPath : MethodName := ⟨RX11, "addPath", "(IIII)I"⟩
abbrev cX11_setGust : ByteArray := prog_1_method_5_code
def yX11_setGust : MethodName := ⟨RX11, "setGust", "(II)I"⟩
abbrev cX11_setBlocked : ByteArray := prog_1_method_6_code
def yX11_setBlocked : MethodName := ⟨RX11, "setBlocked", "(IZ)I"⟩
abbrev cX11_fieldCount : ByteArray := prog_1_method_7_code
def yX11_fieldCount : MethodName := ⟨RX11, "fieldCount", "()I"⟩
abbrev cX11_pathCount : ByteArray := prog_1_method_8_code
def yX11_pathCount : MethodName := ⟨RX11, "pathCount", "()I"⟩
abbrev cX11_shieldOf : ByteArray := prog_1_method_9_code
def yX11_shieldOf : MethodName := ⟨RX11, "shieldOf", "(I)I"⟩
abbrev cX11_firstOf : ByteArray := prog_1_method_10_code
def yX11_firstOf : MethodName := ⟨RX11, "firstOf", "(I)I"⟩
abbrev cX11_secondOf : ByteArray := prog_1_method_11_code
def yX11_secondOf : MethodName := ⟨RX11, "secondOf", "(I)I"⟩
abbrev cX11_costOf : ByteArray := prog_1_method_12_code
def yX11_costOf : MethodName := ⟨RX11, "costOf", "(I)I"⟩
abbrev cX11_gustOf : ByteArray := prog_1_method_13_code
def yX11_gustOf : MethodName := ⟨RX11, "gustOf", "(I)I"⟩
abbrev cX11_isBlocked : ByteArray := prog_1_method_14_code
def yX11_isBlocked : MethodName := ⟨RX11, "isBlocked", "(I)Z"⟩
abbrev cX11_groupCount : ByteArray := prog_1_method_15_code
def yX11_groupCount : MethodName := ⟨RX11, "groupCount", "()I"⟩
abbrev cX11_isConnected : ByteArray := prog_1_method_16_code
def yX11_isConnected : MethodName := ⟨RX11, "isConnected", "(II)Z"⟩
abbrev cX11_wayCost : ByteArray := prog_1_method_17_code
def yX11_wayCost : MethodName := ⟨RX11, "wayCost", "(II)I"⟩
abbrev cX11_wayCostByRounds : ByteArray := prog_1_method_18_code
def yX11_wayCostByRounds : MethodName := ⟨RX11, "wayCostByRounds", "(II)I"⟩
abbrev cX11_disjointWays : ByteArray := prog_1_method_19_code
def yX11_disjointWays : MethodName := ⟨RX11, "disjointWays", "(II)I"⟩
abbrev cX11_smallestCut : ByteArray := prog_1_method_20_code
def yX11_smallestCut : MethodName := ⟨RX11, "smallestCut", "(II)I"⟩
abbrev cX11_isBridge : ByteArray := prog_1_method_21_code
def yX11_isBridge : MethodName := ⟨RX11, "isBridge", "(I)Z"⟩
abbrev cX11_bridgeCount : ByteArray := prog_1_method_22_code
def yX11_bridgeCount : MethodName := ⟨RX11, "bridgeCount", "()I"⟩
abbrev cX11_bridgeCountByBlocking : ByteArray := prog_1_method_23_code
def yX11_bridgeCountByBlocking : MethodName := ⟨RX11, "bridgeCountByBlocking", "()I"⟩
abbrev cX11_treeCost : ByteArray := prog_1_method_24_code
def yX11_treeCost : MethodName := ⟨RX11, "treeCost", "(I)I"⟩
abbrev cX11_treeCostByGrowing : ByteArray := prog_1_method_25_code
def yX11_treeCostByGrowing : MethodName := ⟨RX11, "treeCostByGrowing", "(I)I"⟩
abbrev cX11_isInTree : ByteArray := prog_1_method_26_code
def yX11_isInTree : MethodName := ⟨RX11, "isInTree", "(II)Z"⟩
abbrev cX11_parentIn : ByteArray := prog_1_method_27_code
def yX11_parentIn : MethodName := ⟨RX11, "parentIn", "(II)I"⟩
abbrev cX11_reachChance : ByteArray := prog_1_method_28_code
def yX11_reachChance : MethodName := ⟨RX11, "reachChance", "(II)F"⟩
abbrev cX11_setSeed : ByteArray := prog_1_method_29_code
def yX11_setSeed : MethodName := ⟨RX11, "setSeed", "(I)I"⟩
abbrev cX11_startBroadcast : ByteArray := prog_1_method_30_code
def yX11_startBroadcast : MethodName := ⟨RX11, "startBroadcast", "(IIZ)I"⟩
abbrev cX11_wind : ByteArray := prog_1_method_31_code
def yX11_wind : MethodName := ⟨RX11, "wind", "()I"⟩
abbrev cX11_windUntilEnd : ByteArray := prog_1_method_32_code
def yX11_windUntilEnd : MethodName := ⟨RX11, "windUntilEnd", "()I"⟩
abbrev cX11_abort : ByteArray := prog_1_method_33_code
def yX11_abort : MethodName := ⟨RX11, "abort", "()I"⟩
abbrev cX11_isBroadcasting : ByteArray := prog_1_method_34_code
def yX11_isBroadcasting : MethodName := ⟨RX11, "isBroadcasting", "()Z"⟩
abbrev cX11_source : ByteArray := prog_1_method_35_code
def yX11_source : MethodName := ⟨RX11, "source", "()I"⟩
abbrev cX11_hasPacket : ByteArray := prog_1_method_36_code
def yX11_hasPacket : MethodName := ⟨RX11, "hasPacket", "(II)Z"⟩
abbrev cX11_packetsOf : ByteArray := prog_1_method_37_code
def yX11_packetsOf : MethodName := ⟨RX11, "packetsOf", "(I)I"⟩
abbrev cX11_isCovered : ByteArray := prog_1_method_38_code
def yX11_isCovered : MethodName := ⟨RX11, "isCovered", "(I)Z"⟩
abbrev cX11_coveredCount : ByteArray := prog_1_method_39_code
def yX11_coveredCount : MethodName := ⟨RX11, "coveredCount", "()I"⟩
abbrev cX11_windsLeft : ByteArray := prog_1_method_40_code
def yX11_windsLeft : MethodName := ⟨RX11, "windsLeft", "()I"⟩
abbrev cX11_energyLeft : ByteArray := prog_1_method_41_code
def yX11_energyLeft : MethodName := ⟨RX11, "energyLeft", "()I"⟩
abbrev cX11_sentCount : ByteArray := prog_1_method_42_code
def yX11_sentCount : MethodName := ⟨RX11, "sentCount", "()I"⟩
abbrev cX11_lostCount : ByteArray := prog_1_method_43_code
def yX11_lostCount : MethodName := ⟨RX11, "lostCount", "()I"⟩
abbrev cX11_rebuiltCount : ByteArray := prog_1_method_44_code
def yX11_rebuiltCount : MethodName := ⟨RX11, "rebuiltCount", "()I"⟩
abbrev cX11_energy : ByteArray := prog_1_method_45_code
def yX11_energy : MethodName := ⟨RX11, "energy", "()I"⟩
abbrev cX11_finishedCount : ByteArray := prog_1_method_46_code
def yX11_finishedCount : MethodName := ⟨RX11, "finishedCount", "()I"⟩
abbrev cX11_failedCount : ByteArray := prog_1_method_47_code
def yX11_failedCount : MethodName := ⟨RX11, "failedCount", "()I"⟩
abbrev cX11_useOf : ByteArray := prog_1_method_48_code
def yX11_useOf : MethodName := ⟨RX11, "useOf", "(I)I"⟩
abbrev cX11_fieldByPackets : ByteArray := prog_1_method_49_code
def yX11_fieldByPackets : MethodName := ⟨RX11, "fieldByPackets", "(I)I"⟩
abbrev cX11_pathByUse : ByteArray := prog_1_method_50_code
def yX11_pathByUse : MethodName := ⟨RX11, "pathByUse", "(I)I"⟩
abbrev cX11_meanEnergy : ByteArray := prog_1_method_51_code
def yX11_meanEnergy : MethodName := ⟨RX11, "meanEnergy", "()D"⟩
abbrev cX11_lossShare : ByteArray := prog_1_method_52_code
def yX11_lossShare : MethodName := ⟨RX11, "lossShare", "()F"⟩
abbrev cX11_isConsistent : ByteArray := prog_1_method_54_code
def yX11_isConsistent : MethodName := ⟨RX11, "isConsistent", "()Z"⟩
abbrev cX11_writeField : ByteArray := prog_1_method_55_code
def yX11_writeField : MethodName := ⟨RX11, "writeField", "(I)I"⟩
abbrev cX11_appendInput : ByteArray := prog_1_method_57_code
def yX11_appendInput : MethodName := ⟨RX11, "appendInput", "(C)I"⟩
abbrev cX11_execute : ByteArray := prog_1_method_58_code
def yX11_execute : MethodName := ⟨RX11, "execute", "()I"⟩
abbrev cX11_undo : ByteArray := prog_1_method_63_code
def yX11_undo : MethodName := ⟨RX11, "undo", "()I"⟩
abbrev cX11_saveSnapshot : ByteArray := prog_1_method_64_code
def yX11_saveSnapshot : MethodName := ⟨RX11, "saveSnapshot", "()I"⟩
abbrev cX11_restoreSnapshot : ByteArray := prog_1_method_65_code
def yX11_restoreSnapshot : MethodName := ⟨RX11, "restoreSnapshot", "()I"⟩
abbrev cX11_requireField : ByteArray := prog_1_method_66_code
def yX11_requireField : MethodName := ⟨RX11, "requireField", "(I)V"⟩
abbrev cX11_requirePath : ByteArray := prog_1_method_67_code
def yX11_requirePath : MethodName := ⟨RX11, "requirePath", "(I)V"⟩
abbrev cX11_requireTwoFields : ByteArray := prog_1_method_68_code
def yX11_requireTwoFields : MethodName := ⟨RX11, "requireTwoFields", "(II)V"⟩
abbrev cX11_requireStarted : ByteArray := prog_1_method_69_code
def yX11_requireStarted : MethodName := ⟨RX11, "requireStarted", "()V"⟩
abbrev cX11_requireRunning : ByteArray := prog_1_method_70_code
def yX11_requireRunning : MethodName := ⟨RX11, "requireRunning", "()V"⟩
abbrev cX11_requireSent : ByteArray := prog_1_method_71_code
def yX11_requireSent : MethodName := ⟨RX11, "requireSent", "()V"⟩
abbrev cX11_requireWay : ByteArray := prog_1_method_73_code
def yX11_requireWay : MethodName := ⟨RX11, "requireWay", "(I)I"⟩
abbrev cX11_settle : ByteArray := prog_1_method_74_code
def yX11_settle : MethodName := ⟨RX11, "settle", "(I)I"⟩
abbrev cX11_noteRejection : ByteArray := prog_1_method_75_code
def yX11_noteRejection : MethodName := ⟨RX11, "noteRejection", "(III)V"⟩
abbrev cX11_perform : ByteArray := prog_1_method_76_code
def yX11_perform : MethodName := ⟨RX11, "perform", "(LDandelionBroadcast$Kind;[I)I"⟩
abbrev cX11_put : ByteArray := prog_1_method_77_code
def yX11_put : MethodName := ⟨RX11, "put", "(C)V"⟩
abbrev cX11_treeCostsAgree : ByteArray := prog_1_method_78_code
def yX11_treeCostsAgree : MethodName := ⟨RX11, "treeCostsAgree", "()Z"⟩
abbrev cX11_waysAgreeWithCuts : ByteArray := prog_1_method_79_code
def yX11_waysAgreeWithCuts : MethodName := ⟨RX11, "waysAgreeWithCuts", "()Z"⟩
abbrev cX11_hasBit : ByteArray := prog_1_method_80_code
def yX11_hasBit : MethodName := ⟨RX11, "hasBit", "(II)Z"⟩
def RX12 : String := "DandelionBroadcastModel"
def TX12 : u_T := fun k => match k with
  | _ => ("", "", "", false)
def tyX12 : Nat → FieldType := fun k => match k with
  | _ => .int
abbrev wsX120 : List Cond := u_ws RX12 TX12 0
theorem nmX12 : ∀ a, a < 0 → ∀ b, b < 0 → a ≠ b → (TX12 a).2.1 ≠ (TX12 b).2.1 := by decide +kernel
theorem tyX12_ok : ∀ k, k < 0 → parseFieldDescriptor (TX12 k).2.2.1 = some (tyX12 k) := by decide +kernel
def RJx145de : String := "java/io/Serializable"
def TJx145de : u_T := fun k => match k with
  | _ => ("", "", "", false)
def tyJx145de : Nat → FieldType := fun k => match k with
  | _ => .int
abbrev wsJx145de0 : List Cond := u_ws RJx145de TJx145de 0
theorem nmJx145de : ∀ a, a < 0 → ∀ b, b < 0 → a ≠ b → (TJx145de a).2.1 ≠ (TJx145de b).2.1 := by decide +kernel
theorem tyJx145de_ok : ∀ k, k < 0 → parseFieldDescriptor (TJx145de k).2.2.1 = some (tyJx145de k) := by decide +kernel
def RJx00060 : String := "java/lang/ArrayIndexOutOfBoundsException"
def TJx00060 : u_T := fun k => match k with
  | 0 => ("java/lang/Throwable", "backtrace", "Ljava/lang/Object;", false)
  | 1 => ("java/lang/Throwable", "detailMessage", "Ljava/lang/String;", false)
  | 2 => ("java/lang/Throwable", "cause", "Ljava/lang/Throwable;", false)
  | 3 => ("java/lang/Throwable", "stackTrace", "[Ljava/lang/StackTraceElement;", false)
  | 4 => ("java/lang/Throwable", "depth", "I", false)
  | _ => ("java/lang/Throwable", "suppressedExceptions", "Ljava/util/List;", false)
def tyJx00060 : Nat → FieldType := fun k => match k with
  | 0 => .object "java/lang/Object"
  | 1 => .object "java/lang/String"
  | 2 => .object "java/lang/Throwable"
  | 3 => .array (.object "java/lang/StackTraceElement")
  | 4 => .int
  | _ => .object "java/util/List"
abbrev wsJx000600 : List Cond := u_ws RJx00060 TJx00060 6
theorem nmJx00060 : ∀ a, a < 6 → ∀ b, b < 6 → a ≠ b → (TJx00060 a).2.1 ≠ (TJx00060 b).2.1 := by decide +kernel
theorem tyJx00060_ok : ∀ k, k < 6 → parseFieldDescriptor (TJx00060 k).2.2.1 = some (tyJx00060 k) := by decide +kernel
abbrev cJx00060_init_a7421 : ByteArray := prog_17_method_2_code
def yJx00060_init_a7421 : MethodName := ⟨RJx00060, "<init>", "(Ljava/lang/String;)V"⟩
def RJx9f9b0 : String := "java/lang/CharSequence"
def TJx9f9b0 : u_T := fun k => match k with
  | _ => ("", "", "", false)
def tyJx9f9b0 : Nat → FieldType := fun k => match k with
  | _ => .int
abbrev wsJx9f9b00 : List Cond := u_ws RJx9f9b0 TJx9f9b0 0
theorem nmJx9f9b0 : ∀ a, a < 0 → ∀ b, b < 0 → a ≠ b → (TJx9f9b0 a).2.1 ≠ (TJx9f9b0 b).2.1 := by decide +kernel
theorem tyJx9f9b0_ok : ∀ k, k < 0 → parseFieldDescriptor (TJx9f9b0 k).2.2.1 = some (tyJx9f9b0 k) := by decide +kernel
def RJxb160c : String := "java/lang/Comparable"
def TJxb160c : u_T := fun k => match k with
  | _ => ("", "", "", false)
def tyJxb160c : Nat → FieldType := fun k => match k with
  | _ => .int
abbrev wsJxb160c0 : List Cond := u_ws RJxb160c TJxb160c 0
theorem nmJxb160c : ∀ a, a < 0 → ∀ b, b < 0 → a ≠ b → (TJxb160c a).2.1 ≠ (TJxb160c b).2.1 := by decide +kernel
theorem tyJxb160c_ok : ∀ k, k < 0 → parseFieldDescriptor (TJxb160c k).2.2.1 = some (tyJxb160c k) := by decide +kernel
def RJx29ce0 : String := "java/lang/Enum"
def TJx29ce0 : u_T := fun k => match k with
  | _ => ("", "", "", false)
def tyJx29ce0 : Nat → FieldType := fun k => match k with
  | _ => .int
abbrev wsJx29ce00 : List Cond := u_ws RJx29ce0 TJx29ce0 0
theorem nmJx29ce0 : ∀ a, a < 0 → ∀ b, b < 0 → a ≠ b → (TJx29ce0 a).2.1 ≠ (TJx29ce0 b).2.1 := by decide +kernel
theorem tyJx29ce0_ok : ∀ k, k < 0 → parseFieldDescriptor (TJx29ce0 k).2.2.1 = some (tyJx29ce0 k) := by decide +kernel
abbrev cJx29ce0_ordinal_8abf5 : ByteArray := prog_20_method_2_code
def yJx29ce0_ordinal_8abf5 : MethodName := ⟨RJx29ce0, "ordinal", "()I"⟩
def RJ6 : String := "java/lang/Integer"
def TJ6 : u_T := fun k => match k with
  | _ => ("", "", "", false)
def tyJ6 : Nat → FieldType := fun k => match k with
  | _ => .int
abbrev wsJ60 : List Cond := u_ws RJ6 TJ6 0
theorem nmJ6 : ∀ a, a < 0 → ∀ b, b < 0 → a ≠ b → (TJ6 a).2.1 ≠ (TJ6 b).2.1 := by decide +kernel
theorem tyJ6_ok : ∀ k, k < 0 → parseFieldDescriptor (TJ6 k).2.2.1 = some (tyJ6 k) := by decide +kernel
abbrev cJ6_bitCount_0f7a4 : ByteArray := prog_25_method_49_code
def yJ6_bitCount_0f7a4 : MethodName := ⟨RJ6, "bitCount", "(I)I"⟩
def RJ9 : String := "java/lang/Math"
def TJ9 : u_T := fun k => match k with
  | _ => ("", "", "", false)
def tyJ9 : Nat → FieldType := fun k => match k with
  | _ => .int
abbrev wsJ90 : List Cond := u_ws RJ9 TJ9 0
theorem nmJ9 : ∀ a, a < 0 → ∀ b, b < 0 → a ≠ b → (TJ9 a).2.1 ≠ (TJ9 b).2.1 := by decide +kernel
theorem tyJ9_ok : ∀ k, k < 0 → parseFieldDescriptor (TJ9 k).2.2.1 = some (tyJ9 k) := by decide +kernel
abbrev cJ9_max_7cf53 : ByteArray := prog_26_method_65_code
def yJ9_max_7cf53 : MethodName := ⟨RJ9, "max", "(II)I"⟩
abbrev cJ9_min_7cf53 : ByteArray := prog_26_method_69_code
def yJ9_min_7cf53 : MethodName := ⟨RJ9, "min", "(II)I"⟩
def RJ0 : String := "java/lang/String"
def TJ0 : u_T := fun k => match k with
  | 0 => ("java/lang/String", "value", "[B", true)
  | _ => ("java/lang/String", "coder", "B", true)
def tyJ0 : Nat → FieldType := fun k => match k with
  | 0 => .array .byte
  | _ => .byte
abbrev wsJ00 : List Cond := u_ws RJ0 TJ0 2
theorem nmJ0 : ∀ a, a < 2 → ∀ b, b < 2 → a ≠ b → (TJ0 a).2.1 ≠ (TJ0 b).2.1 := by decide +kernel
theorem tyJ0_ok : ∀ k, k < 2 → parseFieldDescriptor (TJ0 k).2.2.1 = some (tyJ0 k) := by decide +kernel
abbrev cJ0_length_8abf5 : ByteArray := prog_28_method_54_code
def yJ0_length_8abf5 : MethodName := ⟨RJ0, "length", "()I"⟩
abbrev cJ0_charAt_5068e : ByteArray := prog_28_method_56_code
def yJ0_charAt_5068e : MethodName := ⟨RJ0, "charAt", "(I)C"⟩
abbrev cJ0_coder_7d493 : ByteArray := prog_28_method_152_code
def yJ0_coder_7d493 : MethodName := ⟨RJ0, "coder", "()B"⟩
abbrev cJ0_isLatin1_aae02 : ByteArray := prog_28_method_154_code
def yJ0_isLatin1_aae02 : MethodName := ⟨RJ0, "isLatin1", "()Z"⟩
abbrev cJ0_checkIndex_df160 : ByteArray := prog_28_method_155_code
def yJ0_checkIndex_df160 : MethodName := ⟨RJ0, "checkIndex", "(II)V"⟩
def RJ1 : String := "java/lang/StringLatin1"
def TJ1 : u_T := fun k => match k with
  | _ => ("", "", "", false)
def tyJ1 : Nat → FieldType := fun k => match k with
  | _ => .int
abbrev wsJ10 : List Cond := u_ws RJ1 TJ1 0
theorem nmJ1 : ∀ a, a < 0 → ∀ b, b < 0 → a ≠ b → (TJ1 a).2.1 ≠ (TJ1 b).2.1 := by decide +kernel
theorem tyJ1_ok : ∀ k, k < 0 → parseFieldDescriptor (TJ1 k).2.2.1 = some (tyJ1 k) := by decide +kernel
abbrev cJ1_charAt_3b067 : ByteArray := prog_29_method_2_code
def yJ1_charAt_3b067 : MethodName := ⟨RJ1, "charAt", "([BI)C"⟩
def RJ2 : String := "java/lang/StringUTF16"
def TJ2 : u_T := fun k => match k with
  | _ => ("", "", "", false)
def tyJ2 : Nat → FieldType := fun k => match k with
  | _ => .int
abbrev wsJ20 : List Cond := u_ws RJ2 TJ2 0
theorem nmJ2 : ∀ a, a < 0 → ∀ b, b < 0 → a ≠ b → (TJ2 a).2.1 ≠ (TJ2 b).2.1 := by decide +kernel
theorem tyJ2_ok : ∀ k, k < 0 → parseFieldDescriptor (TJ2 k).2.2.1 = some (tyJ2 k) := by decide +kernel
abbrev cJ2_getChar_3b067 : ByteArray := prog_30_method_5_code
def yJ2_getChar_3b067 : MethodName := ⟨RJ2, "getChar", "([BI)C"⟩
abbrev cJ2_length_9d52b : ByteArray := prog_30_method_6_code
def yJ2_length_9d52b : MethodName := ⟨RJ2, "length", "([B)I"⟩
abbrev cJ2_charAt_3b067 : ByteArray := prog_30_method_83_code
def yJ2_charAt_3b067 : MethodName := ⟨RJ2, "charAt", "([BI)C"⟩
abbrev cJ2_checkIndex_2214a : ByteArray := prog_30_method_91_code
def yJ2_checkIndex_2214a : MethodName := ⟨RJ2, "checkIndex", "(I[B)V"⟩
def RJ10 : String := "java/lang/System"
def TJ10 : u_T := fun k => match k with
  | _ => ("", "", "", false)
def tyJ10 : Nat → FieldType := fun k => match k with
  | _ => .int
abbrev wsJ100 : List Cond := u_ws RJ10 TJ10 0
theorem nmJ10 : ∀ a, a < 0 → ∀ b, b < 0 → a ≠ b → (TJ10 a).2.1 ≠ (TJ10 b).2.1 := by decide +kernel
theorem tyJ10_ok : ∀ k, k < 0 → parseFieldDescriptor (TJ10 k).2.2.1 = some (tyJ10 k) := by decide +kernel
def RJxfd54e : String := "java/lang/constant/Constable"
def TJxfd54e : u_T := fun k => match k with
  | _ => ("", "", "", false)
def tyJxfd54e : Nat → FieldType := fun k => match k with
  | _ => .int
abbrev wsJxfd54e0 : List Cond := u_ws RJxfd54e TJxfd54e 0
theorem nmJxfd54e : ∀ a, a < 0 → ∀ b, b < 0 → a ≠ b → (TJxfd54e a).2.1 ≠ (TJxfd54e b).2.1 := by decide +kernel
theorem tyJxfd54e_ok : ∀ k, k < 0 → parseFieldDescriptor (TJxfd54e k).2.2.1 = some (tyJxfd54e k) := by decide +kernel
def RJx3cf43 : String := "java/lang/constant/ConstantDesc"
def TJx3cf43 : u_T := fun k => match k with
  | _ => ("", "", "", false)
def tyJx3cf43 : Nat → FieldType := fun k => match k with
  | _ => .int
abbrev wsJx3cf430 : List Cond := u_ws RJx3cf43 TJx3cf43 0
theorem nmJx3cf43 : ∀ a, a < 0 → ∀ b, b < 0 → a ≠ b → (TJx3cf43 a).2.1 ≠ (TJx3cf43 b).2.1 := by decide +kernel
theorem tyJx3cf43_ok : ∀ k, k < 0 → parseFieldDescriptor (TJx3cf43 k).2.2.1 = some (tyJx3cf43 k) := by decide +kernel
def RJ3 : String := "jdk/internal/util/Preconditions"
def TJ3 : u_T := fun k => match k with
  | _ => ("", "", "", false)
def tyJ3 : Nat → FieldType := fun k => match k with
  | _ => .int
abbrev wsJ30 : List Cond := u_ws RJ3 TJ3 0
theorem nmJ3 : ∀ a, a < 0 → ∀ b, b < 0 → a ≠ b → (TJ3 a).2.1 ≠ (TJ3 b).2.1 := by decide +kernel
theorem tyJ3_ok : ∀ k, k < 0 → parseFieldDescriptor (TJ3 k).2.2.1 = some (tyJ3 k) := by decide +kernel
abbrev cJ3_checkIndex_8e157 : ByteArray := prog_37_method_11_code
def yJ3_checkIndex_8e157 : MethodName := ⟨RJ3, "checkIndex", "(IILjava/util/function/BiFunction;)I"⟩
def RL : String := "DandelionBroadcastLaw"
abbrev cL_cell : ByteArray := method_2_code
def yL_cell : MethodName := ⟨RL, "cell", "([II)I"⟩
abbrev cL_addField : ByteArray := method_3_code
def yL_addField : MethodName := ⟨RL, "addField", "(LDandelionBroadcast;I)I"⟩
abbrev cL_setShield : ByteArray := method_4_code
def yL_setShield : MethodName := ⟨RL, "setShield", "(LDandelionBroadcast;II)I"⟩
abbrev cL_addPath : ByteArray := method_5_code
def yL_addPath : MethodName := ⟨RL, "addPath", "(LDandelionBroadcast;IIII)I"⟩
abbrev cL_setGust : ByteArray := method_6_code
def yL_setGust : MethodName := ⟨RL, "setGust", "(LDandelionBroadcast;II)I"⟩
abbrev cL_setBlocked : ByteArray := method_7_code
def yL_setBlocked : MethodName := ⟨RL, "setBlocked", "(LDandelionBroadcast;IZ)I"⟩
abbrev cL_setSeed : ByteArray := method_8_code
def yL_setSeed : MethodName := ⟨RL, "setSeed", "(LDandelionBroadcast;I)I"⟩
abbrev cL_startBroadcast : ByteArray := method_9_code
def yL_startBroadcast : MethodName := ⟨RL, "startBroadcast", "(LDandelionBroadcast;IIZ)I"⟩
abbrev cL_wind : ByteArray := method_10_code
def yL_wind : MethodName := ⟨RL, "wind", "(LDandelionBroadcast;)I"⟩
abbrev cL_windUntilEnd : ByteArray := method_11_code
def yL_windUntilEnd : MethodName := ⟨RL, "windUntilEnd", "(LDandelionBroadcast;)I"⟩
abbrev cL_abort : ByteArray := method_12_code
def yL_abort : MethodName := ⟨RL, "abort", "(LDandelionBroadcast;)I"⟩
abbrev cL_wayCost : ByteArray := method_13_code
def yL_wayCost : MethodName := ⟨RL, "wayCost", "(LDandelionBroadcast;II)I"⟩
abbrev cL_wayCostByRounds : ByteArray := method_14_code
def yL_wayCostByRounds : MethodName := ⟨RL, "wayCostByRounds", "(LDandelionBroadcast;II)I"⟩
abbrev cL_parentIn : ByteArray := method_15_code
def yL_parentIn : MethodName := ⟨RL, "parentIn", "(LDandelionBroadcast;II)I"⟩
abbrev cL_reachChance : ByteArray := method_16_code
def yL_reachChance : MethodName := ⟨RL, "reachChance", "(LDandelionBroadcast;II)F"⟩
abbrev cL_source : ByteArray := method_17_code
def yL_source : MethodName := ⟨RL, "source", "(LDandelionBroadcast;)I"⟩
abbrev cL_windsLeft : ByteArray := method_18_code
def yL_windsLeft : MethodName := ⟨RL, "windsLeft", "(LDandelionBroadcast;)I"⟩
abbrev cL_energyLeft : ByteArray := method_19_code
def yL_energyLeft : MethodName := ⟨RL, "energyLeft", "(LDandelionBroadcast;)I"⟩
abbrev cL_fieldByPackets : ByteArray := method_20_code
def yL_fieldByPackets : MethodName := ⟨RL, "fieldByPackets", "(LDandelionBroadcast;I)I"⟩
abbrev cL_pathByUse : ByteArray := method_21_code
def yL_pathByUse : MethodName := ⟨RL, "pathByUse", "(LDandelionBroadcast;I)I"⟩
abbrev cL_meanEnergy : ByteArray := method_22_code
def yL_meanEnergy : MethodName := ⟨RL, "meanEnergy", "(LDandelionBroadcast;)D"⟩
abbrev cL_lossShare : ByteArray := method_23_code
def yL_lossShare : MethodName := ⟨RL, "lossShare", "(LDandelionBroadcast;)F"⟩
abbrev cL_execute : ByteArray := method_24_code
def yL_execute : MethodName := ⟨RL, "execute", "(LDandelionBroadcast;)I"⟩
abbrev cL_undo : ByteArray := method_25_code
def yL_undo : MethodName := ⟨RL, "undo", "(LDandelionBroadcast;)I"⟩
abbrev cL_restore : ByteArray := method_26_code
def yL_restore : MethodName := ⟨RL, "restore", "(LDandelionBroadcast;)I"⟩
abbrev cL_put : ByteArray := method_27_code
def yL_put : MethodName := ⟨RL, "put", "(LDandelionBroadcast;C)Z"⟩
abbrev cL_typed : ByteArray := method_28_code
def yL_typed : MethodName := ⟨RL, "typed", "(LDandelionBroadcast;Ljava/lang/String;)LDandelionBroadcast;"⟩
abbrev cL_act : ByteArray := method_29_code
def yL_act : MethodName := ⟨RL, "act", "(LDandelionBroadcast;I)I"⟩
abbrev cL_digest : ByteArray := method_30_code
def yL_digest : MethodName := ⟨RL, "digest", "(LDandelionBroadcast;)J"⟩
abbrev cL_arePairs : ByteArray := method_31_code
def yL_arePairs : MethodName := ⟨RL, "arePairs", "(LDandelionBroadcast;)Z"⟩
abbrev cL_areEdges : ByteArray := method_32_code
def yL_areEdges : MethodName := ⟨RL, "areEdges", "(LDandelionBroadcast;)Z"⟩
abbrev cL_isTree : ByteArray := method_33_code
def yL_isTree : MethodName := ⟨RL, "isTree", "(LDandelionBroadcast;I)Z"⟩
abbrev cL_isStep : ByteArray := method_34_code
def yL_isStep : MethodName := ⟨RL, "isStep", "(LDandelionBroadcast;III)Z"⟩
abbrev cL_arePackets : ByteArray := method_35_code
def yL_arePackets : MethodName := ⟨RL, "arePackets", "(LDandelionBroadcast;)Z"⟩
abbrev cL_isEnded : ByteArray := method_36_code
def yL_isEnded : MethodName := ⟨RL, "isEnded", "(LDandelionBroadcast;)Z"⟩
abbrev cL_isFit : ByteArray := method_37_code
def yL_isFit : MethodName := ⟨RL, "isFit", "(LDandelionBroadcast;)Z"⟩
abbrev cL_law : ByteArray := code
def yL_law : MethodName := ⟨RL, "law", "([I)Z"⟩
abbrev vwCl : List vw_C := [(RJ0, TJ0, 2), (RJx00060, TJx00060, 6), (RX1, TX1, 8), (RX2, TX2, 2), (RX3, TX3, 6), (RX4, TX4, 3), (RX6, TX6, 8), (RX7, TX7, 5), (RX8, TX8, 9), (RX9, TX9, 7), (RX10, TX10, 1), (RX11, TX11, 16)]
