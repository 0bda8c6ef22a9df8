/-! ===== BEGIN printed: names, fields, word lists, decode rows ===== -/
def RX0 : String := "FlumeOrders$1"
def TX0 : u_T := fun k => match k with
  | _ => ("", "", "", false)
def tyX0 : Nat → FieldType := fun k => match k with
  | _ => .int
theorem nmX0 : ∀ a, a < 0 → ∀ b, b < 0 → a ≠ b → (TX0 a).2.1 ≠ (TX0 b).2.1 := by decide +kernel
theorem tyX0_ok : ∀ k, k < 0 → parseFieldDescriptor (TX0 k).2.2.1 = some (tyX0 k) := by decide +kernel
def RX1 : String := "FlumeOrders$Camp"
def TX1 : u_T := fun k => match k with
  | 0 => ("FlumeOrders$Camp", "trees", "I", false)
  | 1 => ("FlumeOrders$Camp", "logs", "I", false)
  | 2 => ("FlumeOrders$Camp", "sent", "I", false)
  | 3 => ("FlumeOrders$Camp", "late", "I", false)
  | 4 => ("FlumeOrders$Camp", "voided", "J", false)
  | _ => ("FlumeOrders$Camp", "done", "J", false)
def tyX1 : Nat → FieldType := fun k => match k with
  | 0 => .int
  | 1 => .int
  | 2 => .int
  | 3 => .int
  | 4 => .long
  | _ => .long
theorem nmX1 : ∀ a, a < 6 → ∀ b, b < 6 → a ≠ b → (TX1 a).2.1 ≠ (TX1 b).2.1 := by decide +kernel
theorem tyX1_ok : ∀ k, k < 6 → parseFieldDescriptor (TX1 k).2.2.1 = some (tyX1 k) := by decide +kernel
abbrev cX1_init : ByteArray := prog_3_method_1_code
def yX1_init : MethodName := ⟨RX1, "<init>", "()V"⟩
abbrev cX1_begin : ByteArray := prog_3_method_2_code
def yX1_begin : MethodName := ⟨RX1, "begin", "(I)V"⟩
abbrev cX1_cut : ByteArray := prog_3_method_3_code
def yX1_cut : MethodName := ⟨RX1, "cut", "(I)V"⟩
abbrev cX1_send : ByteArray := prog_3_method_4_code
def yX1_send : MethodName := ⟨RX1, "send", "(I)V"⟩
abbrev cX1_annul : ByteArray := prog_3_method_5_code
def yX1_annul : MethodName := ⟨RX1, "annul", "(II)V"⟩
abbrev cX1_copyFrom : ByteArray := prog_3_method_6_code
def yX1_copyFrom : MethodName := ⟨RX1, "copyFrom", "(LFlumeOrders$Camp;)V"⟩
def RX2 : String := "FlumeOrders$Chip"
def TX2 : u_T := fun k => match k with
  | 0 => ("FlumeOrders$Chip", "state", "I", false)
  | 1 => ("FlumeOrders$Chip", "place", "I", false)
  | 2 => ("FlumeOrders$Chip", "toGo", "I", false)
  | 3 => ("FlumeOrders$Chip", "weight", "I", false)
  | 4 => ("FlumeOrders$Chip", "came", "I", false)
  | 5 => ("FlumeOrders$Chip", "told", "I", false)
  | _ => ("FlumeOrders$Chip", "head", "I", false)
def tyX2 : Nat → FieldType := fun k => match k with
  | 0 => .int
  | 1 => .int
  | 2 => .int
  | 3 => .int
  | 4 => .int
  | 5 => .int
  | _ => .int
theorem nmX2 : ∀ a, a < 7 → ∀ b, b < 7 → a ≠ b → (TX2 a).2.1 ≠ (TX2 b).2.1 := by decide +kernel
theorem tyX2_ok : ∀ k, k < 7 → parseFieldDescriptor (TX2 k).2.2.1 = some (tyX2 k) := by decide +kernel
abbrev cX2_init : ByteArray := prog_4_method_1_code
def yX2_init : MethodName := ⟨RX2, "<init>", "()V"⟩
abbrev cX2_copyFrom : ByteArray := prog_4_method_2_code
def yX2_copyFrom : MethodName := ⟨RX2, "copyFrom", "(LFlumeOrders$Chip;)V"⟩
def RX3 : String := "FlumeOrders$Flow"
def TX3 : u_T := fun k => match k with
  | 0 => ("FlumeOrders$Flow", "written", "[LFlumeOrders$Notches;", true)
  | _ => ("FlumeOrders$Flow", "stack", "[I", true)
def tyX3 : Nat → FieldType := fun k => match k with
  | 0 => .array (.object "FlumeOrders$Notches")
  | _ => .array .int
theorem nmX3 : ∀ a, a < 2 → ∀ b, b < 2 → a ≠ b → (TX3 a).2.1 ≠ (TX3 b).2.1 := by decide +kernel
theorem tyX3_ok : ∀ k, k < 2 → parseFieldDescriptor (TX3 k).2.2.1 = some (tyX3 k) := by decide +kernel
abbrev cX3_init : ByteArray := prog_5_method_1_code
def yX3_init : MethodName := ⟨RX3, "<init>", "()V"⟩
abbrev cX3_pass : ByteArray := prog_5_method_2_code
def yX3_pass : MethodName := ⟨RX3, "pass", "(LFlumeOrders$Forest;I)V"⟩
abbrev cX3_minute : ByteArray := prog_5_method_3_code
def yX3_minute : MethodName := ⟨RX3, "minute", "(LFlumeOrders$Forest;)V"⟩
abbrev cX3_passStill : ByteArray := prog_5_method_4_code
def yX3_passStill : MethodName := ⟨RX3, "passStill", "(LFlumeOrders$Forest;I)I"⟩
abbrev cX3_come : ByteArray := prog_5_method_5_code
def yX3_come : MethodName := ⟨RX3, "come", "(LFlumeOrders$Forest;I)V"⟩
abbrev cX3_doActs : ByteArray := prog_5_method_6_code
def yX3_doActs : MethodName := ⟨RX3, "doActs", "(LFlumeOrders$Forest;I)V"⟩
abbrev cX3_holds : ByteArray := prog_5_method_7_code
def yX3_holds : MethodName := ⟨RX3, "holds", "(LFlumeOrders$Forest;LFlumeOrders$Chip;LFlumeOrders$Notches;I)Z"⟩
abbrev cX3_valueOf : ByteArray := prog_5_method_8_code
def yX3_valueOf : MethodName := ⟨RX3, "valueOf", "(LFlumeOrders$Word;LFlumeOrders$Forest;LFlumeOrders$Chip;)I"⟩
abbrev cX3_join : ByteArray := prog_5_method_9_code
def yX3_join : MethodName := ⟨RX3, "join", "(LFlumeOrders$Word;II)I"⟩
abbrev cX3_enter : ByteArray := prog_5_method_10_code
def yX3_enter : MethodName := ⟨RX3, "enter", "(LFlumeOrders$Forest;I)V"⟩
abbrev cX3_firstWaiting : ByteArray := prog_5_method_11_code
def yX3_firstWaiting : MethodName := ⟨RX3, "firstWaiting", "(LFlumeOrders$Forest;I)I"⟩
abbrev cX3_drawBelow : ByteArray := prog_5_method_12_code
def yX3_drawBelow : MethodName := ⟨RX3, "drawBelow", "(LFlumeOrders$Forest;I)Z"⟩
def RX4 : String := "FlumeOrders$Forest"
def TX4 : u_T := fun k => match k with
  | 0 => ("FlumeOrders$Forest", "camps", "[LFlumeOrders$Camp;", true)
  | 1 => ("FlumeOrders$Forest", "reaches", "[LFlumeOrders$Reach;", true)
  | 2 => ("FlumeOrders$Forest", "chips", "[LFlumeOrders$Chip;", true)
  | 3 => ("FlumeOrders$Forest", "outs", "[I", true)
  | 4 => ("FlumeOrders$Forest", "orders", "LFlumeOrders$Orders;", true)
  | 5 => ("FlumeOrders$Forest", "campCount", "I", false)
  | 6 => ("FlumeOrders$Forest", "chipCount", "I", false)
  | 7 => ("FlumeOrders$Forest", "outCount", "I", false)
  | 8 => ("FlumeOrders$Forest", "textCount", "I", false)
  | 9 => ("FlumeOrders$Forest", "water", "I", false)
  | 10 => ("FlumeOrders$Forest", "frostFrom", "I", false)
  | 11 => ("FlumeOrders$Forest", "frostTo", "I", false)
  | 12 => ("FlumeOrders$Forest", "clock", "I", false)
  | _ => ("FlumeOrders$Forest", "seed", "I", false)
def tyX4 : Nat → FieldType := fun k => match k with
  | 0 => .array (.object "FlumeOrders$Camp")
  | 1 => .array (.object "FlumeOrders$Reach")
  | 2 => .array (.object "FlumeOrders$Chip")
  | 3 => .array .int
  | 4 => .object "FlumeOrders$Orders"
  | 5 => .int
  | 6 => .int
  | 7 => .int
  | 8 => .int
  | 9 => .int
  | 10 => .int
  | 11 => .int
  | 12 => .int
  | _ => .int
theorem nmX4 : ∀ a, a < 14 → ∀ b, b < 14 → a ≠ b → (TX4 a).2.1 ≠ (TX4 b).2.1 := by decide +kernel
theorem tyX4_ok : ∀ k, k < 14 → parseFieldDescriptor (TX4 k).2.2.1 = some (tyX4 k) := by decide +kernel
abbrev cX4_init : ByteArray := prog_6_method_1_code
def yX4_init : MethodName := ⟨RX4, "<init>", "()V"⟩
abbrev cX4_copyFrom : ByteArray := prog_6_method_2_code
def yX4_copyFrom : MethodName := ⟨RX4, "copyFrom", "(LFlumeOrders$Forest;)V"⟩
abbrev cX4_read : ByteArray := prog_6_method_3_code
def yX4_read : MethodName := ⟨RX4, "read", "(LFlumeOrders$Things;)V"⟩
abbrev cX4_readLine : ByteArray := prog_6_method_4_code
def yX4_readLine : MethodName := ⟨RX4, "readLine", "(LFlumeOrders$Things;)V"⟩
abbrev cX4_readCamp : ByteArray := prog_6_method_5_code
def yX4_readCamp : MethodName := ⟨RX4, "readCamp", "(LFlumeOrders$Things;)V"⟩
abbrev cX4_readReach : ByteArray := prog_6_method_6_code
def yX4_readReach : MethodName := ⟨RX4, "readReach", "(LFlumeOrders$Things;)V"⟩
abbrev cX4_mayGrow : ByteArray := prog_6_method_7_code
def yX4_mayGrow : MethodName := ⟨RX4, "mayGrow", "()Z"⟩
abbrev cX4_addCamp : ByteArray := prog_6_method_8_code
def yX4_addCamp : MethodName := ⟨RX4, "addCamp", "(II)V"⟩
abbrev cX4_setReach : ByteArray := prog_6_method_9_code
def yX4_setReach : MethodName := ⟨RX4, "setReach", "(IIII)V"⟩
abbrev cX4_throwChip : ByteArray := prog_6_method_10_code
def yX4_throwChip : MethodName := ⟨RX4, "throwChip", "(IIII)I"⟩
abbrev cX4_free : ByteArray := prog_6_method_11_code
def yX4_free : MethodName := ⟨RX4, "free", "(I)I"⟩
abbrev cX4_hour : ByteArray := prog_6_method_12_code
def yX4_hour : MethodName := ⟨RX4, "hour", "()I"⟩
abbrev cX4_hasFrost : ByteArray := prog_6_method_13_code
def yX4_hasFrost : MethodName := ⟨RX4, "hasFrost", "()Z"⟩
abbrev cX4_isFrostyAt : ByteArray := prog_6_method_14_code
def yX4_isFrostyAt : MethodName := ⟨RX4, "isFrostyAt", "(I)Z"⟩
abbrev cX4_lengthBetween : ByteArray := prog_6_method_15_code
def yX4_lengthBetween : MethodName := ⟨RX4, "lengthBetween", "(II)I"⟩
abbrev cX4_billionths : ByteArray := prog_6_method_16_code
def yX4_billionths : MethodName := ⟨RX4, "billionths", "(II)I"⟩
abbrev cX4_chipsThat : ByteArray := prog_6_method_17_code
def yX4_chipsThat : MethodName := ⟨RX4, "chipsThat", "(I)I"⟩
abbrev cX4_allSent : ByteArray := prog_6_method_18_code
def yX4_allSent : MethodName := ⟨RX4, "allSent", "()I"⟩
abbrev cX4_allLate : ByteArray := prog_6_method_19_code
def yX4_allLate : MethodName := ⟨RX4, "allLate", "()I"⟩
def RX5 : String := "FlumeOrders$Notches"
def TX5 : u_T := fun k => match k with
  | 0 => ("FlumeOrders$Notches", "kinds", "[LFlumeOrders$Word;", true)
  | 1 => ("FlumeOrders$Notches", "amounts", "[I", true)
  | 2 => ("FlumeOrders$Notches", "questions", "[I", true)
  | 3 => ("FlumeOrders$Notches", "steps", "[LFlumeOrders$Word;", true)
  | 4 => ("FlumeOrders$Notches", "numbers", "[I", true)
  | 5 => ("FlumeOrders$Notches", "head", "I", false)
  | 6 => ("FlumeOrders$Notches", "acts", "I", false)
  | _ => ("FlumeOrders$Notches", "size", "I", false)
def tyX5 : Nat → FieldType := fun k => match k with
  | 0 => .array (.object "FlumeOrders$Word")
  | 1 => .array .int
  | 2 => .array .int
  | 3 => .array (.object "FlumeOrders$Word")
  | 4 => .array .int
  | 5 => .int
  | 6 => .int
  | _ => .int
theorem nmX5 : ∀ a, a < 8 → ∀ b, b < 8 → a ≠ b → (TX5 a).2.1 ≠ (TX5 b).2.1 := by decide +kernel
theorem tyX5_ok : ∀ k, k < 8 → parseFieldDescriptor (TX5 k).2.2.1 = some (tyX5 k) := by decide +kernel
abbrev cX5_init : ByteArray := prog_7_method_1_code
def yX5_init : MethodName := ⟨RX5, "<init>", "()V"⟩
abbrev cX5_read : ByteArray := prog_7_method_2_code
def yX5_read : MethodName := ⟨RX5, "read", "(LFlumeOrders$Things;)V"⟩
abbrev cX5_readHead : ByteArray := prog_7_method_3_code
def yX5_readHead : MethodName := ⟨RX5, "readHead", "(LFlumeOrders$Things;)V"⟩
abbrev cX5_readAct : ByteArray := prog_7_method_4_code
def yX5_readAct : MethodName := ⟨RX5, "readAct", "(LFlumeOrders$Things;)V"⟩
abbrev cX5_question : ByteArray := prog_7_method_5_code
def yX5_question : MethodName := ⟨RX5, "question", "(LFlumeOrders$Things;I)V"⟩
abbrev cX5_allOf : ByteArray := prog_7_method_6_code
def yX5_allOf : MethodName := ⟨RX5, "allOf", "(LFlumeOrders$Things;I)V"⟩
abbrev cX5_atom : ByteArray := prog_7_method_7_code
def yX5_atom : MethodName := ⟨RX5, "atom", "(LFlumeOrders$Things;I)V"⟩
abbrev cX5_sum : ByteArray := prog_7_method_8_code
def yX5_sum : MethodName := ⟨RX5, "sum", "(LFlumeOrders$Things;)V"⟩
abbrev cX5_addAct : ByteArray := prog_7_method_9_code
def yX5_addAct : MethodName := ⟨RX5, "addAct", "(LFlumeOrders$Word;I)V"⟩
abbrev cX5_addStep : ByteArray := prog_7_method_10_code
def yX5_addStep : MethodName := ⟨RX5, "addStep", "(LFlumeOrders$Word;I)V"⟩
abbrev cX5_behindQuestion : ByteArray := prog_7_method_11_code
def yX5_behindQuestion : MethodName := ⟨RX5, "behindQuestion", "(I)I"⟩
def RX6 : String := "FlumeOrders$Orders"
def TX6 : u_T := fun k => match k with
  | 0 => ("FlumeOrders$Orders", "camps", "[I", true)
  | 1 => ("FlumeOrders$Orders", "weights", "[I", true)
  | 2 => ("FlumeOrders$Orders", "ahead", "[[I", true)
  | 3 => ("FlumeOrders$Orders", "size", "I", false)
  | 4 => ("FlumeOrders$Orders", "starts", "[I", true)
  | _ => ("FlumeOrders$Orders", "ways", "[I", true)
def tyX6 : Nat → FieldType := fun k => match k with
  | 0 => .array .int
  | 1 => .array .int
  | 2 => .array (.array .int)
  | 3 => .int
  | 4 => .array .int
  | _ => .array .int
theorem nmX6 : ∀ a, a < 6 → ∀ b, b < 6 → a ≠ b → (TX6 a).2.1 ≠ (TX6 b).2.1 := by decide +kernel
theorem tyX6_ok : ∀ k, k < 6 → parseFieldDescriptor (TX6 k).2.2.1 = some (tyX6 k) := by decide +kernel
abbrev cX6_init : ByteArray := prog_8_method_1_code
def yX6_init : MethodName := ⟨RX6, "<init>", "()V"⟩
abbrev cX6_add : ByteArray := prog_8_method_2_code
def yX6_add : MethodName := ⟨RX6, "add", "(II)I"⟩
abbrev cX6_settle : ByteArray := prog_8_method_3_code
def yX6_settle : MethodName := ⟨RX6, "settle", "(LFlumeOrders$Forest;)Z"⟩
abbrev cX6_delaySome : ByteArray := prog_8_method_4_code
def yX6_delaySome : MethodName := ⟨RX6, "delaySome", "()Z"⟩
abbrev cX6_span : ByteArray := prog_8_method_5_code
def yX6_span : MethodName := ⟨RX6, "span", "()I"⟩
abbrev cX6_copyFrom : ByteArray := prog_8_method_6_code
def yX6_copyFrom : MethodName := ⟨RX6, "copyFrom", "(LFlumeOrders$Orders;)V"⟩
def RX7 : String := "FlumeOrders$Reach"
def TX7 : u_T := fun k => match k with
  | 0 => ("FlumeOrders$Reach", "length", "I", false)
  | 1 => ("FlumeOrders$Reach", "stick", "I", false)
  | 2 => ("FlumeOrders$Reach", "bend", "I", false)
  | _ => ("FlumeOrders$Reach", "inside", "I", false)
def tyX7 : Nat → FieldType := fun k => match k with
  | 0 => .int
  | 1 => .int
  | 2 => .int
  | _ => .int
theorem nmX7 : ∀ a, a < 4 → ∀ b, b < 4 → a ≠ b → (TX7 a).2.1 ≠ (TX7 b).2.1 := by decide +kernel
theorem tyX7_ok : ∀ k, k < 4 → parseFieldDescriptor (TX7 k).2.2.1 = some (tyX7 k) := by decide +kernel
abbrev cX7_init : ByteArray := prog_9_method_1_code
def yX7_init : MethodName := ⟨RX7, "<init>", "()V"⟩
abbrev cX7_hasRoom : ByteArray := prog_9_method_2_code
def yX7_hasRoom : MethodName := ⟨RX7, "hasRoom", "()Z"⟩
abbrev cX7_copyFrom : ByteArray := prog_9_method_3_code
def yX7_copyFrom : MethodName := ⟨RX7, "copyFrom", "(LFlumeOrders$Reach;)V"⟩
def RX8 : String := "FlumeOrders$Row"
def TX8 : u_T := fun k => match k with
  | 0 => ("FlumeOrders$Row", "told", "[I", true)
  | 1 => ("FlumeOrders$Row", "thrown", "[I", true)
  | 2 => ("FlumeOrders$Row", "comes", "[I", true)
  | 3 => ("FlumeOrders$Row", "first", "[I", true)
  | 4 => ("FlumeOrders$Row", "size", "I", false)
  | _ => ("FlumeOrders$Row", "found", "I", false)
def tyX8 : Nat → FieldType := fun k => match k with
  | 0 => .array .int
  | 1 => .array .int
  | 2 => .array .int
  | 3 => .array .int
  | 4 => .int
  | _ => .int
theorem nmX8 : ∀ a, a < 6 → ∀ b, b < 6 → a ≠ b → (TX8 a).2.1 ≠ (TX8 b).2.1 := by decide +kernel
theorem tyX8_ok : ∀ k, k < 6 → parseFieldDescriptor (TX8 k).2.2.1 = some (tyX8 k) := by decide +kernel
abbrev cX8_init : ByteArray := prog_10_method_1_code
def yX8_init : MethodName := ⟨RX8, "<init>", "()V"⟩
abbrev cX8_read : ByteArray := prog_10_method_2_code
def yX8_read : MethodName := ⟨RX8, "read", "(LFlumeOrders$Tape;)Z"⟩
abbrev cX8_tryAll : ByteArray := prog_10_method_3_code
def yX8_tryAll : MethodName := ⟨RX8, "tryAll", "(II)V"⟩
abbrev cX8_sortTold : ByteArray := prog_10_method_4_code
def yX8_sortTold : MethodName := ⟨RX8, "sortTold", "()V"⟩
abbrev cX8_comesAsTold : ByteArray := prog_10_method_5_code
def yX8_comesAsTold : MethodName := ⟨RX8, "comesAsTold", "(II)Z"⟩
abbrev cX8_goToNext : ByteArray := prog_10_method_6_code
def yX8_goToNext : MethodName := ⟨RX8, "goToNext", "()Z"⟩
abbrev cX8_swap : ByteArray := prog_10_method_7_code
def yX8_swap : MethodName := ⟨RX8, "swap", "(II)V"⟩
def RX9 : String := "FlumeOrders$Tape"
def TX9 : u_T := fun k => match k with
  | 0 => ("FlumeOrders$Tape", "bytes", "[I", true)
  | _ => ("FlumeOrders$Tape", "size", "I", false)
def tyX9 : Nat → FieldType := fun k => match k with
  | 0 => .array .int
  | _ => .int
theorem nmX9 : ∀ a, a < 2 → ∀ b, b < 2 → a ≠ b → (TX9 a).2.1 ≠ (TX9 b).2.1 := by decide +kernel
theorem tyX9_ok : ∀ k, k < 2 → parseFieldDescriptor (TX9 k).2.2.1 = some (tyX9 k) := by decide +kernel
abbrev cX9_init : ByteArray := prog_11_method_1_code
def yX9_init : MethodName := ⟨RX9, "<init>", "()V"⟩
abbrev cX9_add : ByteArray := prog_11_method_2_code
def yX9_add : MethodName := ⟨RX9, "add", "(I)V"⟩
abbrev cX9_useUp : ByteArray := prog_11_method_3_code
def yX9_useUp : MethodName := ⟨RX9, "useUp", "()I"⟩
def RX10 : String := "FlumeOrders$Things"
def TX10 : u_T := fun k => match k with
  | 0 => ("FlumeOrders$Things", "words", "[LFlumeOrders$Word;", true)
  | 1 => ("FlumeOrders$Things", "begins", "[I", true)
  | 2 => ("FlumeOrders$Things", "numbers", "[I", true)
  | 3 => ("FlumeOrders$Things", "size", "I", false)
  | 4 => ("FlumeOrders$Things", "at", "I", false)
  | 5 => ("FlumeOrders$Things", "length", "I", false)
  | 6 => ("FlumeOrders$Things", "number", "I", false)
  | _ => ("FlumeOrders$Things", "fault", "I", false)
def tyX10 : Nat → FieldType := fun k => match k with
  | 0 => .array (.object "FlumeOrders$Word")
  | 1 => .array .int
  | 2 => .array .int
  | 3 => .int
  | 4 => .int
  | 5 => .int
  | 6 => .int
  | _ => .int
theorem nmX10 : ∀ a, a < 8 → ∀ b, b < 8 → a ≠ b → (TX10 a).2.1 ≠ (TX10 b).2.1 := by decide +kernel
theorem tyX10_ok : ∀ k, k < 8 → parseFieldDescriptor (TX10 k).2.2.1 = some (tyX10 k) := by decide +kernel
abbrev cX10_init : ByteArray := prog_12_method_1_code
def yX10_init : MethodName := ⟨RX10, "<init>", "()V"⟩
abbrev cX10_open : ByteArray := prog_12_method_2_code
def yX10_open : MethodName := ⟨RX10, "open", "([II)V"⟩
abbrev cX10_add : ByteArray := prog_12_method_3_code
def yX10_add : MethodName := ⟨RX10, "add", "([III)V"⟩
abbrev cX10_behindRun : ByteArray := prog_12_method_4_code
def yX10_behindRun : MethodName := ⟨RX10, "behindRun", "([II)I"⟩
abbrev cX10_valueOf : ByteArray := prog_12_method_5_code
def yX10_valueOf : MethodName := ⟨RX10, "valueOf", "([III)I"⟩
abbrev cX10_isLetter : ByteArray := prog_12_method_6_code
def yX10_isLetter : MethodName := ⟨RX10, "isLetter", "(I)Z"⟩
abbrev cX10_isDigit : ByteArray := prog_12_method_7_code
def yX10_isDigit : MethodName := ⟨RX10, "isDigit", "(I)Z"⟩
abbrev cX10_isWrong : ByteArray := prog_12_method_8_code
def yX10_isWrong : MethodName := ⟨RX10, "isWrong", "()Z"⟩
abbrev cX10_isAtEnd : ByteArray := prog_12_method_9_code
def yX10_isAtEnd : MethodName := ⟨RX10, "isAtEnd", "()Z"⟩
abbrev cX10_refuse : ByteArray := prog_12_method_10_code
def yX10_refuse : MethodName := ⟨RX10, "refuse", "()V"⟩
abbrev cX10_take : ByteArray := prog_12_method_11_code
def yX10_take : MethodName := ⟨RX10, "take", "(LFlumeOrders$Word;)Z"⟩
abbrev cX10_demand : ByteArray := prog_12_method_12_code
def yX10_demand : MethodName := ⟨RX10, "demand", "(LFlumeOrders$Word;)V"⟩
abbrev cX10_takeNumber : ByteArray := prog_12_method_13_code
def yX10_takeNumber : MethodName := ⟨RX10, "takeNumber", "(II)I"⟩
abbrev cX10_takePart : ByteArray := prog_12_method_14_code
def yX10_takePart : MethodName := ⟨RX10, "takePart", "()LFlumeOrders$Word;"⟩
def RX11 : String := "FlumeOrders$Word"
def TX11 : u_T := fun k => match k with
  | _ => ("", "", "", false)
def tyX11 : Nat → FieldType := fun k => match k with
  | _ => .int
theorem nmX11 : ∀ a, a < 0 → ∀ b, b < 0 → a ≠ b → (TX11 a).2.1 ≠ (TX11 b).2.1 := by decide +kernel
theorem tyX11_ok : ∀ k, k < 0 → parseFieldDescriptor (TX11 k).2.2.1 = some (tyX11 k) := by decide +kernel
abbrev cX11_of : ByteArray := prog_13_method_5_code
def yX11_of : MethodName := ⟨RX11, "of", "([III)LFlumeOrders$Word;"⟩
abbrev cX11_isSpelled : ByteArray := prog_13_method_6_code
def yX11_isSpelled : MethodName := ⟨RX11, "isSpelled", "([III)Z"⟩
def RX12 : String := "FlumeOrders"
def TX12 : u_T := fun k => match k with
  | 0 => ("FlumeOrders", "tape", "LFlumeOrders$Tape;", true)
  | 1 => ("FlumeOrders", "things", "LFlumeOrders$Things;", true)
  | 2 => ("FlumeOrders", "flow", "LFlumeOrders$Flow;", true)
  | 3 => ("FlumeOrders", "row", "LFlumeOrders$Row;", true)
  | 4 => ("FlumeOrders", "now", "LFlumeOrders$Forest;", true)
  | 5 => ("FlumeOrders", "kept", "LFlumeOrders$Forest;", true)
  | 6 => ("FlumeOrders", "trial", "LFlumeOrders$Forest;", true)
  | _ => ("FlumeOrders", "isKept", "Z", false)
def tyX12 : Nat → FieldType := fun k => match k with
  | 0 => .object "FlumeOrders$Tape"
  | 1 => .object "FlumeOrders$Things"
  | 2 => .object "FlumeOrders$Flow"
  | 3 => .object "FlumeOrders$Row"
  | 4 => .object "FlumeOrders$Forest"
  | 5 => .object "FlumeOrders$Forest"
  | 6 => .object "FlumeOrders$Forest"
  | _ => .boolean
theorem nmX12 : ∀ a, a < 8 → ∀ b, b < 8 → a ≠ b → (TX12 a).2.1 ≠ (TX12 b).2.1 := by decide +kernel
theorem tyX12_ok : ∀ k, k < 8 → parseFieldDescriptor (TX12 k).2.2.1 = some (tyX12 k) := by decide +kernel
abbrev cX12_init : ByteArray := prog_1_method_1_code
def yX12_init : MethodName := ⟨RX12, "<init>", "()V"⟩
abbrev cX12_feed : ByteArray := prog_1_method_2_code
def yX12_feed : MethodName := ⟨RX12, "feed", "(IIIII)I"⟩
abbrev cX12_end : ByteArray := prog_1_method_3_code
def yX12_end : MethodName := ⟨RX12, "end", "(I)Z"⟩
abbrev cX12_forest : ByteArray := prog_1_method_4_code
def yX12_forest : MethodName := ⟨RX12, "forest", "()I"⟩
abbrev cX12_chip : ByteArray := prog_1_method_5_code
def yX12_chip : MethodName := ⟨RX12, "chip", "(II)I"⟩
abbrev cX12_fault : ByteArray := prog_1_method_6_code
def yX12_fault : MethodName := ⟨RX12, "fault", "()I"⟩
abbrev cX12_run : ByteArray := prog_1_method_7_code
def yX12_run : MethodName := ⟨RX12, "run", "(I)I"⟩
abbrev cX12_pole : ByteArray := prog_1_method_8_code
def yX12_pole : MethodName := ⟨RX12, "pole", "(I)I"⟩
abbrev cX12_water : ByteArray := prog_1_method_9_code
def yX12_water : MethodName := ⟨RX12, "water", "(I)I"⟩
abbrev cX12_look : ByteArray := prog_1_method_10_code
def yX12_look : MethodName := ⟨RX12, "look", "(II)I"⟩
abbrev cX12_camp : ByteArray := prog_1_method_11_code
def yX12_camp : MethodName := ⟨RX12, "camp", "(II)I"⟩
abbrev cX12_reach : ByteArray := prog_1_method_12_code
def yX12_reach : MethodName := ⟨RX12, "reach", "(II)I"⟩
abbrev cX12_out : ByteArray := prog_1_method_13_code
def yX12_out : MethodName := ⟨RX12, "out", "(I)I"⟩
abbrev cX12_time : ByteArray := prog_1_method_14_code
def yX12_time : MethodName := ⟨RX12, "time", "(IIII)I"⟩
abbrev cX12_waits : ByteArray := prog_1_method_15_code
def yX12_waits : MethodName := ⟨RX12, "waits", "(IIIII)I"⟩
abbrev cX12_order : ByteArray := prog_1_method_16_code
def yX12_order : MethodName := ⟨RX12, "order", "(II)I"⟩
abbrev cX12_ahead : ByteArray := prog_1_method_17_code
def yX12_ahead : MethodName := ⟨RX12, "ahead", "(III)I"⟩
abbrev cX12_plan : ByteArray := prog_1_method_18_code
def yX12_plan : MethodName := ⟨RX12, "plan", "(I)I"⟩
abbrev cX12_chance : ByteArray := prog_1_method_19_code
def yX12_chance : MethodName := ⟨RX12, "chance", "(II)I"⟩
abbrev cX12_repeats : ByteArray := prog_1_method_20_code
def yX12_repeats : MethodName := ⟨RX12, "repeats", "(III)I"⟩
abbrev cX12_fits : ByteArray := prog_1_method_21_code
def yX12_fits : MethodName := ⟨RX12, "fits", "(I)I"⟩
abbrev cX12_test : ByteArray := prog_1_method_22_code
def yX12_test : MethodName := ⟨RX12, "test", "(I)I"⟩
abbrev cX12_later : ByteArray := prog_1_method_23_code
def yX12_later : MethodName := ⟨RX12, "later", "(II)I"⟩
abbrev cX12_image : ByteArray := prog_1_method_24_code
def yX12_image : MethodName := ⟨RX12, "image", "()V"⟩
abbrev cX12_back : ByteArray := prog_1_method_25_code
def yX12_back : MethodName := ⟨RX12, "back", "()Z"⟩
abbrev cX12_count : ByteArray := prog_1_method_26_code
def yX12_count : MethodName := ⟨RX12, "count", "(I)I"⟩
abbrev cX12_demandStation : ByteArray := prog_1_method_27_code
def yX12_demandStation : MethodName := ⟨RX12, "demandStation", "(I)V"⟩
abbrev cX12_demandReach : ByteArray := prog_1_method_28_code
def yX12_demandReach : MethodName := ⟨RX12, "demandReach", "(I)V"⟩
abbrev cX12_demandCamp : ByteArray := prog_1_method_29_code
def yX12_demandCamp : MethodName := ⟨RX12, "demandCamp", "(I)V"⟩
abbrev cX12_demandOrder : ByteArray := prog_1_method_30_code
def yX12_demandOrder : MethodName := ⟨RX12, "demandOrder", "(I)V"⟩
abbrev cX12_demandWay : ByteArray := prog_1_method_31_code
def yX12_demandWay : MethodName := ⟨RX12, "demandWay", "(II)V"⟩
abbrev cX12_demandWeight : ByteArray := prog_1_method_32_code
def yX12_demandWeight : MethodName := ⟨RX12, "demandWeight", "(I)V"⟩
abbrev cX12_demandWater : ByteArray := prog_1_method_33_code
def yX12_demandWater : MethodName := ⟨RX12, "demandWater", "(I)V"⟩
abbrev cX12_minutesFor : ByteArray := prog_1_method_34_code
def yX12_minutesFor : MethodName := ⟨RX12, "minutesFor", "(III)I"⟩
def RX13 : String := "FlumeOrdersModel"
def TX13 : u_T := fun k => match k with
  | 0 => ("FlumeOrdersModel", "thrown", "I", false)
  | 1 => ("FlumeOrdersModel", "m", "[I", true)
  | 2 => ("FlumeOrdersModel", "kept", "[I", true)
  | 3 => ("FlumeOrdersModel", "hasImage", "Z", false)
  | 4 => ("FlumeOrdersModel", "before", "[I", true)
  | 5 => ("FlumeOrdersModel", "tape", "[I", true)
  | 6 => ("FlumeOrdersModel", "taped", "I", false)
  | 7 => ("FlumeOrdersModel", "base", "I", false)
  | 8 => ("FlumeOrdersModel", "end", "I", false)
  | 9 => ("FlumeOrdersModel", "at", "I", false)
  | 10 => ("FlumeOrdersModel", "fault", "I", false)
  | 11 => ("FlumeOrdersModel", "deep", "I", false)
  | 12 => ("FlumeOrdersModel", "head", "I", false)
  | 13 => ("FlumeOrdersModel", "doing", "Z", false)
  | 14 => ("FlumeOrdersModel", "doer", "I", false)
  | 15 => ("FlumeOrdersModel", "here", "I", false)
  | 16 => ("FlumeOrdersModel", "fact", "[I", true)
  | 17 => ("FlumeOrdersModel", "told", "[I", true)
  | 18 => ("FlumeOrdersModel", "trial", "[I", true)
  | 19 => ("FlumeOrdersModel", "first", "[I", true)
  | 20 => ("FlumeOrdersModel", "toldMany", "I", false)
  | 21 => ("FlumeOrdersModel", "rows", "I", false)
  | 22 => ("FlumeOrdersModel", "when", "[I", true)
  | 23 => ("FlumeOrdersModel", "shelf", "[I", true)
  | _ => ("FlumeOrdersModel", "stateMany", "[I", true)
def tyX13 : Nat → FieldType := fun k => match k with
  | 0 => .int
  | 1 => .array .int
  | 2 => .array .int
  | 3 => .boolean
  | 4 => .array .int
  | 5 => .array .int
  | 6 => .int
  | 7 => .int
  | 8 => .int
  | 9 => .int
  | 10 => .int
  | 11 => .int
  | 12 => .int
  | 13 => .boolean
  | 14 => .int
  | 15 => .int
  | 16 => .array .int
  | 17 => .array .int
  | 18 => .array .int
  | 19 => .array .int
  | 20 => .int
  | 21 => .int
  | 22 => .array .int
  | 23 => .array .int
  | _ => .array .int
theorem nmX13 : ∀ a, a < 25 → ∀ b, b < 25 → a ≠ b → (TX13 a).2.1 ≠ (TX13 b).2.1 := by decide +kernel
theorem tyX13_ok : ∀ k, k < 25 → parseFieldDescriptor (TX13 k).2.2.1 = some (tyX13 k) := by decide +kernel
abbrev cX13_init : ByteArray := prog_15_method_1_code
def yX13_init : MethodName := ⟨RX13, "<init>", "()V"⟩
abbrev cX13_thrown : ByteArray := prog_15_method_2_code
def yX13_thrown : MethodName := ⟨RX13, "thrown", "()I"⟩
abbrev cX13_isIn : ByteArray := prog_15_method_3_code
def yX13_isIn : MethodName := ⟨RX13, "isIn", "(III)Z"⟩
abbrev cX13_reachOf : ByteArray := prog_15_method_4_code
def yX13_reachOf : MethodName := ⟨RX13, "reachOf", "(II)I"⟩
abbrev cX13_chipOf : ByteArray := prog_15_method_5_code
def yX13_chipOf : MethodName := ⟨RX13, "chipOf", "(II)I"⟩
abbrev cX13_sets : ByteArray := prog_15_method_6_code
def yX13_sets : MethodName := ⟨RX13, "sets", "(III)V"⟩
abbrev cX13_isStation : ByteArray := prog_15_method_7_code
def yX13_isStation : MethodName := ⟨RX13, "isStation", "(II)Z"⟩
abbrev cX13_isFrost : ByteArray := prog_15_method_8_code
def yX13_isFrost : MethodName := ⟨RX13, "isFrost", "()Z"⟩
abbrev cX13_feed : ByteArray := prog_15_method_9_code
def yX13_feed : MethodName := ⟨RX13, "feed", "(IIIII)I"⟩
abbrev cX13_end : ByteArray := prog_15_method_10_code
def yX13_end : MethodName := ⟨RX13, "end", "(I)Z"⟩
abbrev cX13_letter : ByteArray := prog_15_method_11_code
def yX13_letter : MethodName := ⟨RX13, "letter", "(I)I"⟩
abbrev cX13_skip : ByteArray := prog_15_method_12_code
def yX13_skip : MethodName := ⟨RX13, "skip", "()V"⟩
abbrev cX13_isSign : ByteArray := prog_15_method_13_code
def yX13_isSign : MethodName := ⟨RX13, "isSign", "(I)Z"⟩
abbrev cX13_has : ByteArray := prog_15_method_14_code
def yX13_has : MethodName := ⟨RX13, "has", "(Ljava/lang/String;)Z"⟩
abbrev cX13_wrong : ByteArray := prog_15_method_15_code
def yX13_wrong : MethodName := ⟨RX13, "wrong", "(I)V"⟩
abbrev cX13_figures : ByteArray := prog_15_method_16_code
def yX13_figures : MethodName := ⟨RX13, "figures", "(II)I"⟩
abbrev cX13_forestLine : ByteArray := prog_15_method_17_code
def yX13_forestLine : MethodName := ⟨RX13, "forestLine", "()V"⟩
abbrev cX13_begins : ByteArray := prog_15_method_18_code
def yX13_begins : MethodName := ⟨RX13, "begins", "()V"⟩
abbrev cX13_forest : ByteArray := prog_15_method_19_code
def yX13_forest : MethodName := ⟨RX13, "forest", "()I"⟩
abbrev cX13_asks : ByteArray := prog_15_method_20_code
def yX13_asks : MethodName := ⟨RX13, "asks", "()V"⟩
abbrev cX13_part : ByteArray := prog_15_method_21_code
def yX13_part : MethodName := ⟨RX13, "part", "()I"⟩
abbrev cX13_sum : ByteArray := prog_15_method_22_code
def yX13_sum : MethodName := ⟨RX13, "sum", "()I"⟩
abbrev cX13_plain : ByteArray := prog_15_method_23_code
def yX13_plain : MethodName := ⟨RX13, "plain", "()Z"⟩
abbrev cX13_atom : ByteArray := prog_15_method_24_code
def yX13_atom : MethodName := ⟨RX13, "atom", "()Z"⟩
abbrev cX13_every : ByteArray := prog_15_method_25_code
def yX13_every : MethodName := ⟨RX13, "every", "()Z"⟩
abbrev cX13_some : ByteArray := prog_15_method_26_code
def yX13_some : MethodName := ⟨RX13, "some", "()Z"⟩
abbrev cX13_act : ByteArray := prog_15_method_27_code
def yX13_act : MethodName := ⟨RX13, "act", "()V"⟩
abbrev cX13_notches : ByteArray := prog_15_method_28_code
def yX13_notches : MethodName := ⟨RX13, "notches", "()V"⟩
abbrev cX13_fault : ByteArray := prog_15_method_29_code
def yX13_fault : MethodName := ⟨RX13, "fault", "()I"⟩
abbrev cX13_adds : ByteArray := prog_15_method_30_code
def yX13_adds : MethodName := ⟨RX13, "adds", "(IIII)I"⟩
abbrev cX13_chip : ByteArray := prog_15_method_31_code
def yX13_chip : MethodName := ⟨RX13, "chip", "(II)I"⟩
abbrev cX13_acts : ByteArray := prog_15_method_32_code
def yX13_acts : MethodName := ⟨RX13, "acts", "(II)V"⟩
abbrev cX13_reads : ByteArray := prog_15_method_33_code
def yX13_reads : MethodName := ⟨RX13, "reads", "(IZ)V"⟩
abbrev cX13_comes : ByteArray := prog_15_method_34_code
def yX13_comes : MethodName := ⟨RX13, "comes", "(II)V"⟩
abbrev cX13_inReach : ByteArray := prog_15_method_35_code
def yX13_inReach : MethodName := ⟨RX13, "inReach", "(I)I"⟩
abbrev cX13_nextAt : ByteArray := prog_15_method_36_code
def yX13_nextAt : MethodName := ⟨RX13, "nextAt", "(I)I"⟩
abbrev cX13_timeOf : ByteArray := prog_15_method_37_code
def yX13_timeOf : MethodName := ⟨RX13, "timeOf", "(III)I"⟩
abbrev cX13_enters : ByteArray := prog_15_method_38_code
def yX13_enters : MethodName := ⟨RX13, "enters", "(I)V"⟩
abbrev cX13_minute : ByteArray := prog_15_method_39_code
def yX13_minute : MethodName := ⟨RX13, "minute", "()V"⟩
abbrev cX13_run : ByteArray := prog_15_method_40_code
def yX13_run : MethodName := ⟨RX13, "run", "(I)I"⟩
abbrev cX13_pole : ByteArray := prog_15_method_41_code
def yX13_pole : MethodName := ⟨RX13, "pole", "(I)I"⟩
abbrev cX13_water : ByteArray := prog_15_method_42_code
def yX13_water : MethodName := ⟨RX13, "water", "(I)I"⟩
abbrev cX13_look : ByteArray := prog_15_method_43_code
def yX13_look : MethodName := ⟨RX13, "look", "(II)I"⟩
abbrev cX13_isCamp : ByteArray := prog_15_method_44_code
def yX13_isCamp : MethodName := ⟨RX13, "isCamp", "(I)Z"⟩
abbrev cX13_camp : ByteArray := prog_15_method_45_code
def yX13_camp : MethodName := ⟨RX13, "camp", "(II)I"⟩
abbrev cX13_reach : ByteArray := prog_15_method_46_code
def yX13_reach : MethodName := ⟨RX13, "reach", "(II)I"⟩
abbrev cX13_out : ByteArray := prog_15_method_47_code
def yX13_out : MethodName := ⟨RX13, "out", "(I)I"⟩
abbrev cX13_wayOf : ByteArray := prog_15_method_48_code
def yX13_wayOf : MethodName := ⟨RX13, "wayOf", "(IIII)I"⟩
abbrev cX13_twoStations : ByteArray := prog_15_method_49_code
def yX13_twoStations : MethodName := ⟨RX13, "twoStations", "(II)I"⟩
abbrev cX13_time : ByteArray := prog_15_method_50_code
def yX13_time : MethodName := ⟨RX13, "time", "(IIII)I"⟩
abbrev cX13_waits : ByteArray := prog_15_method_51_code
def yX13_waits : MethodName := ⟨RX13, "waits", "(IIIII)I"⟩
abbrev cX13_order : ByteArray := prog_15_method_52_code
def yX13_order : MethodName := ⟨RX13, "order", "(II)I"⟩
abbrev cX13_ahead : ByteArray := prog_15_method_53_code
def yX13_ahead : MethodName := ⟨RX13, "ahead", "(III)I"⟩
abbrev cX13_orderTime : ByteArray := prog_15_method_54_code
def yX13_orderTime : MethodName := ⟨RX13, "orderTime", "(I)I"⟩
abbrev cX13_plan : ByteArray := prog_15_method_55_code
def yX13_plan : MethodName := ⟨RX13, "plan", "(I)I"⟩
abbrev cX13_chanceOf : ByteArray := prog_15_method_56_code
def yX13_chanceOf : MethodName := ⟨RX13, "chanceOf", "(II)I"⟩
abbrev cX13_chance : ByteArray := prog_15_method_57_code
def yX13_chance : MethodName := ⟨RX13, "chance", "(II)I"⟩
abbrev cX13_repeats : ByteArray := prog_15_method_58_code
def yX13_repeats : MethodName := ⟨RX13, "repeats", "(III)I"⟩
abbrev cX13_comesSo : ByteArray := prog_15_method_59_code
def yX13_comesSo : MethodName := ⟨RX13, "comesSo", "()Z"⟩
abbrev cX13_tries : ByteArray := prog_15_method_60_code
def yX13_tries : MethodName := ⟨RX13, "tries", "(II)V"⟩
abbrev cX13_fits : ByteArray := prog_15_method_61_code
def yX13_fits : MethodName := ⟨RX13, "fits", "(I)I"⟩
abbrev cX13_test : ByteArray := prog_15_method_62_code
def yX13_test : MethodName := ⟨RX13, "test", "(I)I"⟩
abbrev cX13_later : ByteArray := prog_15_method_63_code
def yX13_later : MethodName := ⟨RX13, "later", "(II)I"⟩
abbrev cX13_image : ByteArray := prog_15_method_64_code
def yX13_image : MethodName := ⟨RX13, "image", "()V"⟩
abbrev cX13_back : ByteArray := prog_15_method_65_code
def yX13_back : MethodName := ⟨RX13, "back", "()Z"⟩
abbrev cX13_count : ByteArray := prog_15_method_66_code
def yX13_count : MethodName := ⟨RX13, "count", "(I)I"⟩
def RJx145de : String := "java/io/Serializable"
def TJx145de : u_T := fun k => match k with
  | _ => ("", "", "", false)
def tyJx145de : Nat → FieldType := fun k => match k with
  | _ => .int
theorem nmJx145de : ∀ a, a < 0 → ∀ b, b < 0 → a ≠ b → (TJx145de a).2.1 ≠ (TJx145de b).2.1 := by decide +kernel
theorem tyJx145de_ok : ∀ k, k < 0 → parseFieldDescriptor (TJx145de k).2.2.1 = some (tyJx145de k) := by decide +kernel
def RJx9f9b0 : String := "java/lang/CharSequence"
def TJx9f9b0 : u_T := fun k => match k with
  | _ => ("", "", "", false)
def tyJx9f9b0 : Nat → FieldType := fun k => match k with
  | _ => .int
theorem nmJx9f9b0 : ∀ a, a < 0 → ∀ b, b < 0 → a ≠ b → (TJx9f9b0 a).2.1 ≠ (TJx9f9b0 b).2.1 := by decide +kernel
theorem tyJx9f9b0_ok : ∀ k, k < 0 → parseFieldDescriptor (TJx9f9b0 k).2.2.1 = some (tyJx9f9b0 k) := by decide +kernel
def RJxb160c : String := "java/lang/Comparable"
def TJxb160c : u_T := fun k => match k with
  | _ => ("", "", "", false)
def tyJxb160c : Nat → FieldType := fun k => match k with
  | _ => .int
theorem nmJxb160c : ∀ a, a < 0 → ∀ b, b < 0 → a ≠ b → (TJxb160c a).2.1 ≠ (TJxb160c b).2.1 := by decide +kernel
theorem tyJxb160c_ok : ∀ k, k < 0 → parseFieldDescriptor (TJxb160c k).2.2.1 = some (tyJxb160c k) := by decide +kernel
def RJx29ce0 : String := "java/lang/Enum"
def TJx29ce0 : u_T := fun k => match k with
  | _ => ("", "", "", false)
def tyJx29ce0 : Nat → FieldType := fun k => match k with
  | _ => .int
theorem nmJx29ce0 : ∀ a, a < 0 → ∀ b, b < 0 → a ≠ b → (TJx29ce0 a).2.1 ≠ (TJx29ce0 b).2.1 := by decide +kernel
theorem tyJx29ce0_ok : ∀ k, k < 0 → parseFieldDescriptor (TJx29ce0 k).2.2.1 = some (tyJx29ce0 k) := by decide +kernel
abbrev cJx29ce0_ordinal_8abf5 : ByteArray := prog_19_method_2_code
def yJx29ce0_ordinal_8abf5 : MethodName := ⟨RJx29ce0, "ordinal", "()I"⟩
def RJ6 : String := "java/lang/Integer"
def TJ6 : u_T := fun k => match k with
  | _ => ("", "", "", false)
def tyJ6 : Nat → FieldType := fun k => match k with
  | _ => .int
theorem nmJ6 : ∀ a, a < 0 → ∀ b, b < 0 → a ≠ b → (TJ6 a).2.1 ≠ (TJ6 b).2.1 := by decide +kernel
theorem tyJ6_ok : ∀ k, k < 0 → parseFieldDescriptor (TJ6 k).2.2.1 = some (tyJ6 k) := by decide +kernel
abbrev cJ6_bitCount_0f7a4 : ByteArray := prog_23_method_49_code
def yJ6_bitCount_0f7a4 : MethodName := ⟨RJ6, "bitCount", "(I)I"⟩
def RJ9 : String := "java/lang/Math"
def TJ9 : u_T := fun k => match k with
  | _ => ("", "", "", false)
def tyJ9 : Nat → FieldType := fun k => match k with
  | _ => .int
theorem nmJ9 : ∀ a, a < 0 → ∀ b, b < 0 → a ≠ b → (TJ9 a).2.1 ≠ (TJ9 b).2.1 := by decide +kernel
theorem tyJ9_ok : ∀ k, k < 0 → parseFieldDescriptor (TJ9 k).2.2.1 = some (tyJ9 k) := by decide +kernel
abbrev cJ9_max_7cf53 : ByteArray := prog_24_method_65_code
def yJ9_max_7cf53 : MethodName := ⟨RJ9, "max", "(II)I"⟩
abbrev cJ9_min_7cf53 : ByteArray := prog_24_method_69_code
def yJ9_min_7cf53 : MethodName := ⟨RJ9, "min", "(II)I"⟩
def RJ0 : String := "java/lang/String"
def TJ0 : u_T := fun k => match k with
  | _ => ("", "", "", false)
def tyJ0 : Nat → FieldType := fun k => match k with
  | _ => .int
theorem nmJ0 : ∀ a, a < 0 → ∀ b, b < 0 → a ≠ b → (TJ0 a).2.1 ≠ (TJ0 b).2.1 := by decide +kernel
theorem tyJ0_ok : ∀ k, k < 0 → parseFieldDescriptor (TJ0 k).2.2.1 = some (tyJ0 k) := by decide +kernel
abbrev cJ0_length_8abf5 : ByteArray := prog_26_method_54_code
def yJ0_length_8abf5 : MethodName := ⟨RJ0, "length", "()I"⟩
abbrev cJ0_charAt_5068e : ByteArray := prog_26_method_56_code
def yJ0_charAt_5068e : MethodName := ⟨RJ0, "charAt", "(I)C"⟩
abbrev cJ0_coder_7d493 : ByteArray := prog_26_method_152_code
def yJ0_coder_7d493 : MethodName := ⟨RJ0, "coder", "()B"⟩
abbrev cJ0_isLatin1_aae02 : ByteArray := prog_26_method_154_code
def yJ0_isLatin1_aae02 : MethodName := ⟨RJ0, "isLatin1", "()Z"⟩
abbrev cJ0_checkIndex_df160 : ByteArray := prog_26_method_155_code
def yJ0_checkIndex_df160 : MethodName := ⟨RJ0, "checkIndex", "(II)V"⟩
def RJ1 : String := "java/lang/StringLatin1"
def TJ1 : u_T := fun k => match k with
  | _ => ("", "", "", false)
def tyJ1 : Nat → FieldType := fun k => match k with
  | _ => .int
theorem nmJ1 : ∀ a, a < 0 → ∀ b, b < 0 → a ≠ b → (TJ1 a).2.1 ≠ (TJ1 b).2.1 := by decide +kernel
theorem tyJ1_ok : ∀ k, k < 0 → parseFieldDescriptor (TJ1 k).2.2.1 = some (tyJ1 k) := by decide +kernel
abbrev cJ1_charAt_3b067 : ByteArray := prog_27_method_2_code
def yJ1_charAt_3b067 : MethodName := ⟨RJ1, "charAt", "([BI)C"⟩
def RJ2 : String := "java/lang/StringUTF16"
def TJ2 : u_T := fun k => match k with
  | _ => ("", "", "", false)
def tyJ2 : Nat → FieldType := fun k => match k with
  | _ => .int
theorem nmJ2 : ∀ a, a < 0 → ∀ b, b < 0 → a ≠ b → (TJ2 a).2.1 ≠ (TJ2 b).2.1 := by decide +kernel
theorem tyJ2_ok : ∀ k, k < 0 → parseFieldDescriptor (TJ2 k).2.2.1 = some (tyJ2 k) := by decide +kernel
abbrev cJ2_getChar_3b067 : ByteArray := prog_28_method_5_code
def yJ2_getChar_3b067 : MethodName := ⟨RJ2, "getChar", "([BI)C"⟩
abbrev cJ2_length_9d52b : ByteArray := prog_28_method_6_code
def yJ2_length_9d52b : MethodName := ⟨RJ2, "length", "([B)I"⟩
abbrev cJ2_charAt_3b067 : ByteArray := prog_28_method_83_code
def yJ2_charAt_3b067 : MethodName := ⟨RJ2, "charAt", "([BI)C"⟩
abbrev cJ2_checkIndex_2214a : ByteArray := prog_28_method_91_code
def yJ2_checkIndex_2214a : MethodName := ⟨RJ2, "checkIndex", "(I[B)V"⟩
def RJ10 : String := "java/lang/System"
def TJ10 : u_T := fun k => match k with
  | _ => ("", "", "", false)
def tyJ10 : Nat → FieldType := fun k => match k with
  | _ => .int
theorem nmJ10 : ∀ a, a < 0 → ∀ b, b < 0 → a ≠ b → (TJ10 a).2.1 ≠ (TJ10 b).2.1 := by decide +kernel
theorem tyJ10_ok : ∀ k, k < 0 → parseFieldDescriptor (TJ10 k).2.2.1 = some (tyJ10 k) := by decide +kernel
def RJxfd54e : String := "java/lang/constant/Constable"
def TJxfd54e : u_T := fun k => match k with
  | _ => ("", "", "", false)
def tyJxfd54e : Nat → FieldType := fun k => match k with
  | _ => .int
theorem nmJxfd54e : ∀ a, a < 0 → ∀ b, b < 0 → a ≠ b → (TJxfd54e a).2.1 ≠ (TJxfd54e b).2.1 := by decide +kernel
theorem tyJxfd54e_ok : ∀ k, k < 0 → parseFieldDescriptor (TJxfd54e k).2.2.1 = some (tyJxfd54e k) := by decide +kernel
def RJx3cf43 : String := "java/lang/constant/ConstantDesc"
def TJx3cf43 : u_T := fun k => match k with
  | _ => ("", "", "", false)
def tyJx3cf43 : Nat → FieldType := fun k => match k with
  | _ => .int
theorem nmJx3cf43 : ∀ a, a < 0 → ∀ b, b < 0 → a ≠ b → (TJx3cf43 a).2.1 ≠ (TJx3cf43 b).2.1 := by decide +kernel
theorem tyJx3cf43_ok : ∀ k, k < 0 → parseFieldDescriptor (TJx3cf43 k).2.2.1 = some (tyJx3cf43 k) := by decide +kernel
def RJ3 : String := "jdk/internal/util/Preconditions"
def TJ3 : u_T := fun k => match k with
  | _ => ("", "", "", false)
def tyJ3 : Nat → FieldType := fun k => match k with
  | _ => .int
theorem nmJ3 : ∀ a, a < 0 → ∀ b, b < 0 → a ≠ b → (TJ3 a).2.1 ≠ (TJ3 b).2.1 := by decide +kernel
theorem tyJ3_ok : ∀ k, k < 0 → parseFieldDescriptor (TJ3 k).2.2.1 = some (tyJ3 k) := by decide +kernel
abbrev cJ3_checkIndex_8e157 : ByteArray := prog_35_method_11_code
def yJ3_checkIndex_8e157 : MethodName := ⟨RJ3, "checkIndex", "(IILjava/util/function/BiFunction;)I"⟩
def RL : String := "FlumeOrdersLaw"
abbrev cL_forest : ByteArray := method_3_code
def yL_forest : MethodName := ⟨RL, "forest", "(LFlumeOrders;[J)I"⟩
abbrev cL_chip : ByteArray := method_4_code
def yL_chip : MethodName := ⟨RL, "chip", "(LFlumeOrders;II[J)I"⟩
abbrev cL_run : ByteArray := method_5_code
def yL_run : MethodName := ⟨RL, "run", "(LFlumeOrders;I[J)I"⟩
abbrev cL_pole : ByteArray := method_6_code
def yL_pole : MethodName := ⟨RL, "pole", "(LFlumeOrders;I[J)I"⟩
abbrev cL_water : ByteArray := method_7_code
def yL_water : MethodName := ⟨RL, "water", "(LFlumeOrders;I[J)I"⟩
abbrev cL_look : ByteArray := method_8_code
def yL_look : MethodName := ⟨RL, "look", "(LFlumeOrders;II[J)I"⟩
abbrev cL_camp : ByteArray := method_9_code
def yL_camp : MethodName := ⟨RL, "camp", "(LFlumeOrders;II[J)I"⟩
abbrev cL_reach : ByteArray := method_10_code
def yL_reach : MethodName := ⟨RL, "reach", "(LFlumeOrders;II[J)I"⟩
abbrev cL_time : ByteArray := method_11_code
def yL_time : MethodName := ⟨RL, "time", "(LFlumeOrders;IIII[J)I"⟩
abbrev cL_waits : ByteArray := method_12_code
def yL_waits : MethodName := ⟨RL, "waits", "(LFlumeOrders;IIIII[J)I"⟩
abbrev cL_order : ByteArray := method_13_code
def yL_order : MethodName := ⟨RL, "order", "(LFlumeOrders;II[J)I"⟩
abbrev cL_ahead : ByteArray := method_14_code
def yL_ahead : MethodName := ⟨RL, "ahead", "(LFlumeOrders;III[J)I"⟩
abbrev cL_plan : ByteArray := method_15_code
def yL_plan : MethodName := ⟨RL, "plan", "(LFlumeOrders;I[J)I"⟩
abbrev cL_chance : ByteArray := method_16_code
def yL_chance : MethodName := ⟨RL, "chance", "(LFlumeOrders;II[J)I"⟩
abbrev cL_repeats : ByteArray := method_17_code
def yL_repeats : MethodName := ⟨RL, "repeats", "(LFlumeOrders;III[J)I"⟩
abbrev cL_fits : ByteArray := method_18_code
def yL_fits : MethodName := ⟨RL, "fits", "(LFlumeOrders;I[J)I"⟩
abbrev cL_later : ByteArray := method_19_code
def yL_later : MethodName := ⟨RL, "later", "(LFlumeOrders;II[J)I"⟩
abbrev cL_law : ByteArray := code
def yL_law : MethodName := ⟨RL, "law", "([I)Z"⟩
abbrev vwCl : List vw_C := [(RX1, TX1, 6), (RX2, TX2, 7), (RX3, TX3, 2), (RX4, TX4, 14), (RX5, TX5, 8), (RX6, TX6, 6), (RX7, TX7, 4), (RX8, TX8, 6), (RX9, TX9, 2), (RX10, TX10, 8), (RX11, TX11, 0), (RX12, TX12, 8), (RX13, TX13, 25)]
/-- the good words of the tables -/
def TW : List Cond := lw_tbl.filter goodWord
theorem in_TW {w : Cond} (h : w ∈ lw_tbl) (g : goodWord w = true) : w ∈ TW := List.mem_filter.mpr ⟨h, g⟩
theorem TW_good : ∀ w ∈ TW, goodWord w = true := fun _ h => (List.mem_filter.mp h).2
theorem TW_sub : ∀ w ∈ TW, w ∈ lw_tbl := fun _ h => (List.mem_filter.mp h).1
theorem in_t0 {w : Cond} (i : Nat) (h : (k2_sels lw_privs)[i]? = some w) (g : goodWord w = true) : w ∈ TW := in_TW (List.mem_append_left _ (List.mem_of_getElem? h)) g
theorem in_t1 {w : Cond} (i : Nat) (h : tables_1_1[i]? = some w) (g : goodWord w = true) : w ∈ TW := in_TW (List.mem_append_right _ (List.mem_append_left _ (List.mem_of_getElem? h))) g
theorem in_t2 {w : Cond} (i : Nat) (h : tables_1_2[i]? = some w) (g : goodWord w = true) : w ∈ TW := in_TW (List.mem_append_right _ (List.mem_append_right _ (List.mem_append_left _ (List.mem_of_getElem? h)))) g
theorem in_t3 {w : Cond} (i : Nat) (h : tables_1_3[i]? = some w) (g : goodWord w = true) : w ∈ TW := in_TW (List.mem_append_right _ (List.mem_append_right _ (List.mem_append_right _ (List.mem_append_left _ (List.mem_of_getElem? h))))) g
theorem in_t4 {w : Cond} (i : Nat) (h : tables_1_4[i]? = some w) (g : goodWord w = true) : w ∈ TW := in_TW (List.mem_append_right _ (List.mem_append_right _ (List.mem_append_right _ (List.mem_append_right _ (List.mem_append_left _ (List.mem_of_getElem? h)))))) g
theorem in_t5 {w : Cond} (i : Nat) (h : tables_1_5[i]? = some w) (g : goodWord w = true) : w ∈ TW := in_TW (List.mem_append_right _ (List.mem_append_right _ (List.mem_append_right _ (List.mem_append_right _ (List.mem_append_right _ (List.mem_append_left _ (List.mem_of_getElem? h))))))) g
theorem in_t6 {w : Cond} (i : Nat) (h : tables_1_6[i]? = some w) (g : goodWord w = true) : w ∈ TW := in_TW (List.mem_append_right _ (List.mem_append_right _ (List.mem_append_right _ (List.mem_append_right _ (List.mem_append_right _ (List.mem_append_right _ (List.mem_append_left _ (List.mem_of_getElem? h)))))))) g
theorem in_t7 {w : Cond} (i : Nat) (h : tables_1_7[i]? = some w) (g : goodWord w = true) : w ∈ TW := in_TW (List.mem_append_right _ (List.mem_append_right _ (List.mem_append_right _ (List.mem_append_right _ (List.mem_append_right _ (List.mem_append_right _ (List.mem_append_right _ (List.mem_of_getElem? h)))))))) g
