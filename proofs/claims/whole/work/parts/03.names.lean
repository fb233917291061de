/-! ===== BEGIN printed: names, fields, word lists, decode rows ===== -/
def RX0 : String := "TurnThird$Cans"
def TX0 : u_T := fun k => match k with
  | 0 => ("TurnThird$Cans", "place", "[I", true)
  | 1 => ("TurnThird$Cans", "owner", "[I", true)
  | 2 => ("TurnThird$Cans", "rest", "[I", true)
  | 3 => ("TurnThird$Cans", "way", "[I", true)
  | _ => ("TurnThird$Cans", "size", "I", false)
def tyX0 : Nat → FieldType := fun k => match k with
  | 0 => .array .int
  | 1 => .array .int
  | 2 => .array .int
  | 3 => .array .int
  | _ => .int
abbrev wsX00 : List Cond := u_ws RX0 TX0 5
theorem nmX0 : ∀ a, a < 5 → ∀ b, b < 5 → a ≠ b → (TX0 a).2.1 ≠ (TX0 b).2.1 := by decide +kernel
theorem tyX0_ok : ∀ k, k < 5 → parseFieldDescriptor (TX0 k).2.2.1 = some (tyX0 k) := by decide +kernel
abbrev cX0_init : ByteArray := prog_2_method_1_code
def yX0_init : MethodName := ⟨RX0, "<init>", "()V"⟩
abbrev cX0_size : ByteArray := prog_2_method_2_code
def yX0_size : MethodName := ⟨RX0, "size", "()I"⟩
abbrev cX0_add : ByteArray := prog_2_method_3_code
def yX0_add : MethodName := ⟨RX0, "add", "(IIII)Z"⟩
abbrev cX0_clear : ByteArray := prog_2_method_4_code
def yX0_clear : MethodName := ⟨RX0, "clear", "()V"⟩
abbrev cX0_allow : ByteArray := prog_2_method_5_code
def yX0_allow : MethodName := ⟨RX0, "allow", "(ILTurnThird$Cave;LTurnThird$Lamps;)Z"⟩
abbrev cX0_minutesTill : ByteArray := prog_2_method_6_code
def yX0_minutesTill : MethodName := ⟨RX0, "minutesTill", "(IILTurnThird$Cave;)I"⟩
def RX1 : String := "TurnThird$Cave"
def TX1 : u_T := fun k => match k with
  | 0 => ("TurnThird$Cave", "parts", "[[I", true)
  | 1 => ("TurnThird$Cave", "size", "I", false)
  | _ => ("TurnThird$Cave", "fault", "I", false)
def tyX1 : Nat → FieldType := fun k => match k with
  | 0 => .array (.array .int)
  | 1 => .int
  | _ => .int
abbrev wsX10 : List Cond := u_ws RX1 TX1 3
theorem nmX1 : ∀ a, a < 3 → ∀ b, b < 3 → a ≠ b → (TX1 a).2.1 ≠ (TX1 b).2.1 := by decide +kernel
theorem tyX1_ok : ∀ k, k < 3 → parseFieldDescriptor (TX1 k).2.2.1 = some (tyX1 k) := by decide +kernel
abbrev cX1_init : ByteArray := prog_3_method_1_code
def yX1_init : MethodName := ⟨RX1, "<init>", "()V"⟩
abbrev cX1_size : ByteArray := prog_3_method_2_code
def yX1_size : MethodName := ⟨RX1, "size", "()I"⟩
abbrev cX1_faultPlace : ByteArray := prog_3_method_3_code
def yX1_faultPlace : MethodName := ⟨RX1, "faultPlace", "()I"⟩
abbrev cX1_figure : ByteArray := prog_3_method_4_code
def yX1_figure : MethodName := ⟨RX1, "figure", "(II)I"⟩
abbrev cX1_parse : ByteArray := prog_3_method_5_code
def yX1_parse : MethodName := ⟨RX1, "parse", "(LTurnThird$Text;)V"⟩
abbrev cX1_accept : ByteArray := prog_3_method_6_code
def yX1_accept : MethodName := ⟨RX1, "accept", "(III)Z"⟩
abbrev cX1_allIn : ByteArray := prog_3_method_7_code
def yX1_allIn : MethodName := ⟨RX1, "allIn", "()I"⟩
abbrev cX1_sum : ByteArray := prog_3_method_8_code
def yX1_sum : MethodName := ⟨RX1, "sum", "(II)I"⟩
abbrev cX1_inMinutes : ByteArray := prog_3_method_9_code
def yX1_inMinutes : MethodName := ⟨RX1, "inMinutes", "(I)I"⟩
abbrev cX1_outMinutes : ByteArray := prog_3_method_10_code
def yX1_outMinutes : MethodName := ⟨RX1, "outMinutes", "(II)I"⟩
abbrev cX1_thereAndBack : ByteArray := prog_3_method_11_code
def yX1_thereAndBack : MethodName := ⟨RX1, "thereAndBack", "(II)I"⟩
abbrev cX1_reach : ByteArray := prog_3_method_12_code
def yX1_reach : MethodName := ⟨RX1, "reach", "(LTurnThird$Fraction;III)V"⟩
abbrev cX1_isOutWithin : ByteArray := prog_3_method_13_code
def yX1_isOutWithin : MethodName := ⟨RX1, "isOutWithin", "(LTurnThird$Fraction;II)Z"⟩
def RX2 : String := "TurnThird$Fraction"
def TX2 : u_T := fun k => match k with
  | 0 => ("TurnThird$Fraction", "above", "J", false)
  | _ => ("TurnThird$Fraction", "below", "J", false)
def tyX2 : Nat → FieldType := fun k => match k with
  | 0 => .long
  | _ => .long
abbrev wsX20 : List Cond := u_ws RX2 TX2 2
theorem nmX2 : ∀ a, a < 2 → ∀ b, b < 2 → a ≠ b → (TX2 a).2.1 ≠ (TX2 b).2.1 := by decide +kernel
theorem tyX2_ok : ∀ k, k < 2 → parseFieldDescriptor (TX2 k).2.2.1 = some (tyX2 k) := by decide +kernel
abbrev cX2_init : ByteArray := prog_4_method_1_code
def yX2_init : MethodName := ⟨RX2, "<init>", "()V"⟩
abbrev cX2_set : ByteArray := prog_4_method_2_code
def yX2_set : MethodName := ⟨RX2, "set", "(JJ)V"⟩
abbrev cX2_term : ByteArray := prog_4_method_3_code
def yX2_term : MethodName := ⟨RX2, "term", "(I)J"⟩
abbrev cX2_commonDivisor : ByteArray := prog_4_method_4_code
def yX2_commonDivisor : MethodName := ⟨RX2, "commonDivisor", "(JJ)J"⟩
def RX3 : String := "TurnThird$Lamps"
def TX3 : u_T := fun k => match k with
  | 0 => ("TurnThird$Lamps", "burns", "[I", true)
  | _ => ("TurnThird$Lamps", "party", "I", false)
def tyX3 : Nat → FieldType := fun k => match k with
  | 0 => .array .int
  | _ => .int
abbrev wsX30 : List Cond := u_ws RX3 TX3 2
theorem nmX3 : ∀ a, a < 2 → ∀ b, b < 2 → a ≠ b → (TX3 a).2.1 ≠ (TX3 b).2.1 := by decide +kernel
theorem tyX3_ok : ∀ k, k < 2 → parseFieldDescriptor (TX3 k).2.2.1 = some (tyX3 k) := by decide +kernel
abbrev cX3_init : ByteArray := prog_5_method_1_code
def yX3_init : MethodName := ⟨RX3, "<init>", "()V"⟩
abbrev cX3_party : ByteArray := prog_5_method_2_code
def yX3_party : MethodName := ⟨RX3, "party", "()I"⟩
abbrev cX3_setParty : ByteArray := prog_5_method_3_code
def yX3_setParty : MethodName := ⟨RX3, "setParty", "(I)V"⟩
abbrev cX3_burns : ByteArray := prog_5_method_4_code
def yX3_burns : MethodName := ⟨RX3, "burns", "(I)I"⟩
abbrev cX3_setBurns : ByteArray := prog_5_method_5_code
def yX3_setBurns : MethodName := ⟨RX3, "setBurns", "(II)V"⟩
abbrev cX3_leastBurn : ByteArray := prog_5_method_6_code
def yX3_leastBurn : MethodName := ⟨RX3, "leastBurn", "()I"⟩
abbrev cX3_toALight : ByteArray := prog_5_method_7_code
def yX3_toALight : MethodName := ⟨RX3, "toALight", "(I)I"⟩
def RX4 : String := "TurnThird$Plan"
def TX4 : u_T := fun k => match k with
  | 0 => ("TurnThird$Plan", "size", "I", false)
  | _ => ("TurnThird$Plan", "fault", "I", false)
def tyX4 : Nat → FieldType := fun k => match k with
  | 0 => .int
  | _ => .int
abbrev wsX40 : List Cond := u_ws RX4 TX4 2
theorem nmX4 : ∀ a, a < 2 → ∀ b, b < 2 → a ≠ b → (TX4 a).2.1 ≠ (TX4 b).2.1 := by decide +kernel
theorem tyX4_ok : ∀ k, k < 2 → parseFieldDescriptor (TX4 k).2.2.1 = some (tyX4 k) := by decide +kernel
abbrev cX4_init : ByteArray := prog_6_method_1_code
def yX4_init : MethodName := ⟨RX4, "<init>", "()V"⟩
abbrev cX4_size : ByteArray := prog_6_method_2_code
def yX4_size : MethodName := ⟨RX4, "size", "()I"⟩
abbrev cX4_faultPlace : ByteArray := prog_6_method_3_code
def yX4_faultPlace : MethodName := ⟨RX4, "faultPlace", "()I"⟩
abbrev cX4_parse : ByteArray := prog_6_method_4_code
def yX4_parse : MethodName := ⟨RX4, "parse", "(LTurnThird$Text;)V"⟩
abbrev cX4_isGoerFigure : ByteArray := prog_6_method_5_code
def yX4_isGoerFigure : MethodName := ⟨RX4, "isGoerFigure", "(I)Z"⟩
abbrev cX4_isAct : ByteArray := prog_6_method_6_code
def yX4_isAct : MethodName := ⟨RX4, "isAct", "(I)Z"⟩
def RX5 : String := "TurnThird$Sheets"
def TX5 : u_T := fun k => match k with
  | 0 => ("TurnThird$Sheets", "items", "[[I", true)
  | 1 => ("TurnThird$Sheets", "forms", "[I", true)
  | 2 => ("TurnThird$Sheets", "sizes", "[I", true)
  | _ => ("TurnThird$Sheets", "finding", "I", false)
def tyX5 : Nat → FieldType := fun k => match k with
  | 0 => .array (.array .int)
  | 1 => .array .int
  | 2 => .array .int
  | _ => .int
abbrev wsX50 : List Cond := u_ws RX5 TX5 4
theorem nmX5 : ∀ a, a < 4 → ∀ b, b < 4 → a ≠ b → (TX5 a).2.1 ≠ (TX5 b).2.1 := by decide +kernel
theorem tyX5_ok : ∀ k, k < 4 → parseFieldDescriptor (TX5 k).2.2.1 = some (tyX5 k) := by decide +kernel
abbrev cX5_init : ByteArray := prog_7_method_1_code
def yX5_init : MethodName := ⟨RX5, "<init>", "()V"⟩
abbrev cX5_exists : ByteArray := prog_7_method_2_code
def yX5_exists : MethodName := ⟨RX5, "exists", "(I)Z"⟩
abbrev cX5_isForm : ByteArray := prog_7_method_3_code
def yX5_isForm : MethodName := ⟨RX5, "isForm", "(I)Z"⟩
abbrev cX5_latestFinding : ByteArray := prog_7_method_4_code
def yX5_latestFinding : MethodName := ⟨RX5, "latestFinding", "()I"⟩
abbrev cX5_found : ByteArray := prog_7_method_5_code
def yX5_found : MethodName := ⟨RX5, "found", "(I)I"⟩
abbrev cX5_isLost : ByteArray := prog_7_method_6_code
def yX5_isLost : MethodName := ⟨RX5, "isLost", "(I)Z"⟩
abbrev cX5_size : ByteArray := prog_7_method_7_code
def yX5_size : MethodName := ⟨RX5, "size", "(I)I"⟩
abbrev cX5_alike : ByteArray := prog_7_method_8_code
def yX5_alike : MethodName := ⟨RX5, "alike", "(II)Z"⟩
abbrev cX5_holds : ByteArray := prog_7_method_9_code
def yX5_holds : MethodName := ⟨RX5, "holds", "(III)Z"⟩
abbrev cX5_make : ByteArray := prog_7_method_10_code
def yX5_make : MethodName := ⟨RX5, "make", "(III)V"⟩
abbrev cX5_drop : ByteArray := prog_7_method_11_code
def yX5_drop : MethodName := ⟨RX5, "drop", "(I)V"⟩
abbrev cX5_look : ByteArray := prog_7_method_12_code
def yX5_look : MethodName := ⟨RX5, "look", "(III)I"⟩
abbrev cX5_item : ByteArray := prog_7_method_13_code
def yX5_item : MethodName := ⟨RX5, "item", "(II)I"⟩
abbrev cX5_put : ByteArray := prog_7_method_14_code
def yX5_put : MethodName := ⟨RX5, "put", "(III)V"⟩
abbrev cX5_move : ByteArray := prog_7_method_15_code
def yX5_move : MethodName := ⟨RX5, "move", "(IIIII)V"⟩
abbrev cX5_cut : ByteArray := prog_7_method_16_code
def yX5_cut : MethodName := ⟨RX5, "cut", "(II)I"⟩
def RX6 : String := "TurnThird$SideWays"
def TX6 : u_T := fun k => match k with
  | 0 => ("TurnThird$SideWays", "chances", "[I", true)
  | 1 => ("TurnThird$SideWays", "minutes", "[I", true)
  | 2 => ("TurnThird$SideWays", "order", "[I", true)
  | _ => ("TurnThird$SideWays", "size", "I", false)
def tyX6 : Nat → FieldType := fun k => match k with
  | 0 => .array .int
  | 1 => .array .int
  | 2 => .array .int
  | _ => .int
abbrev wsX60 : List Cond := u_ws RX6 TX6 4
theorem nmX6 : ∀ a, a < 4 → ∀ b, b < 4 → a ≠ b → (TX6 a).2.1 ≠ (TX6 b).2.1 := by decide +kernel
theorem tyX6_ok : ∀ k, k < 4 → parseFieldDescriptor (TX6 k).2.2.1 = some (tyX6 k) := by decide +kernel
abbrev cX6_init : ByteArray := prog_8_method_1_code
def yX6_init : MethodName := ⟨RX6, "<init>", "()V"⟩
abbrev cX6_size : ByteArray := prog_8_method_2_code
def yX6_size : MethodName := ⟨RX6, "size", "()I"⟩
abbrev cX6_add : ByteArray := prog_8_method_3_code
def yX6_add : MethodName := ⟨RX6, "add", "(II)Z"⟩
abbrev cX6_dropLast : ByteArray := prog_8_method_4_code
def yX6_dropLast : MethodName := ⟨RX6, "dropLast", "()Z"⟩
abbrev cX6_tried : ByteArray := prog_8_method_5_code
def yX6_tried : MethodName := ⟨RX6, "tried", "(I)I"⟩
abbrev cX6_meanSixteenths : ByteArray := prog_8_method_6_code
def yX6_meanSixteenths : MethodName := ⟨RX6, "meanSixteenths", "()I"⟩
abbrev cX6_allChances : ByteArray := prog_8_method_7_code
def yX6_allChances : MethodName := ⟨RX6, "allChances", "()I"⟩
abbrev cX6_sort : ByteArray := prog_8_method_8_code
def yX6_sort : MethodName := ⟨RX6, "sort", "()V"⟩
abbrev cX6_isBetter : ByteArray := prog_8_method_9_code
def yX6_isBetter : MethodName := ⟨RX6, "isBetter", "(II)Z"⟩
def RX7 : String := "TurnThird$Text"
def TX7 : u_T := fun k => match k with
  | 0 => ("TurnThird$Text", "bytes", "[I", true)
  | _ => ("TurnThird$Text", "length", "I", false)
def tyX7 : Nat → FieldType := fun k => match k with
  | 0 => .array .int
  | _ => .int
abbrev wsX70 : List Cond := u_ws RX7 TX7 2
theorem nmX7 : ∀ a, a < 2 → ∀ b, b < 2 → a ≠ b → (TX7 a).2.1 ≠ (TX7 b).2.1 := by decide +kernel
theorem tyX7_ok : ∀ k, k < 2 → parseFieldDescriptor (TX7 k).2.2.1 = some (tyX7 k) := by decide +kernel
abbrev cX7_init : ByteArray := prog_9_method_1_code
def yX7_init : MethodName := ⟨RX7, "<init>", "(I)V"⟩
abbrev cX7_length : ByteArray := prog_9_method_2_code
def yX7_length : MethodName := ⟨RX7, "length", "()I"⟩
abbrev cX7_at : ByteArray := prog_9_method_3_code
def yX7_at : MethodName := ⟨RX7, "at", "(I)I"⟩
abbrev cX7_push : ByteArray := prog_9_method_4_code
def yX7_push : MethodName := ⟨RX7, "push", "(I)Z"⟩
abbrev cX7_pop : ByteArray := prog_9_method_5_code
def yX7_pop : MethodName := ⟨RX7, "pop", "()Z"⟩
abbrev cX7_clear : ByteArray := prog_9_method_6_code
def yX7_clear : MethodName := ⟨RX7, "clear", "()V"⟩
def RX8 : String := "TurnThird$Unlit"
def TX8 : u_T := fun k => match k with
  | 0 => ("TurnThird$Unlit", "minutes", "I", false)
  | _ => ("TurnThird$Unlit", "bits", "I", false)
def tyX8 : Nat → FieldType := fun k => match k with
  | 0 => .int
  | _ => .int
abbrev wsX80 : List Cond := u_ws RX8 TX8 2
theorem nmX8 : ∀ a, a < 2 → ∀ b, b < 2 → a ≠ b → (TX8 a).2.1 ≠ (TX8 b).2.1 := by decide +kernel
theorem tyX8_ok : ∀ k, k < 2 → parseFieldDescriptor (TX8 k).2.2.1 = some (tyX8 k) := by decide +kernel
abbrev cX8_init : ByteArray := prog_10_method_1_code
def yX8_init : MethodName := ⟨RX8, "<init>", "()V"⟩
abbrev cX8_minutes : ByteArray := prog_10_method_2_code
def yX8_minutes : MethodName := ⟨RX8, "minutes", "()I"⟩
abbrev cX8_bits : ByteArray := prog_10_method_3_code
def yX8_bits : MethodName := ⟨RX8, "bits", "()I"⟩
abbrev cX8_search : ByteArray := prog_10_method_4_code
def yX8_search : MethodName := ⟨RX8, "search", "(LTurnThird$Cave;II)V"⟩
abbrev cX8_ropeBits : ByteArray := prog_10_method_5_code
def yX8_ropeBits : MethodName := ⟨RX8, "ropeBits", "(LTurnThird$Cave;I)I"⟩
abbrev cX8_minutesOf : ByteArray := prog_10_method_6_code
def yX8_minutesOf : MethodName := ⟨RX8, "minutesOf", "(LTurnThird$Cave;II)I"⟩
def RX9 : String := "TurnThird$Walk"
def TX9 : u_T := fun k => match k with
  | 0 => ("TurnThird$Walk", "left", "[I", true)
  | 1 => ("TurnThird$Walk", "goes", "[Z", true)
  | 2 => ("TurnThird$Walk", "depth", "I", false)
  | 3 => ("TurnThird$Walk", "spent", "I", false)
  | 4 => ("TurnThird$Walk", "stuckAt", "I", false)
  | 5 => ("TurnThird$Walk", "nextIsUnlit", "Z", false)
  | _ => ("TurnThird$Walk", "figureIsDue", "Z", false)
def tyX9 : Nat → FieldType := fun k => match k with
  | 0 => .array .int
  | 1 => .array .boolean
  | 2 => .int
  | 3 => .int
  | 4 => .int
  | 5 => .boolean
  | _ => .boolean
abbrev wsX90 : List Cond := u_ws RX9 TX9 7
theorem nmX9 : ∀ a, a < 7 → ∀ b, b < 7 → a ≠ b → (TX9 a).2.1 ≠ (TX9 b).2.1 := by decide +kernel
theorem tyX9_ok : ∀ k, k < 7 → parseFieldDescriptor (TX9 k).2.2.1 = some (tyX9 k) := by decide +kernel
abbrev cX9_init : ByteArray := prog_11_method_1_code
def yX9_init : MethodName := ⟨RX9, "<init>", "()V"⟩
abbrev cX9_depth : ByteArray := prog_11_method_2_code
def yX9_depth : MethodName := ⟨RX9, "depth", "()I"⟩
abbrev cX9_spent : ByteArray := prog_11_method_3_code
def yX9_spent : MethodName := ⟨RX9, "spent", "()I"⟩
abbrev cX9_stuckAt : ByteArray := prog_11_method_4_code
def yX9_stuckAt : MethodName := ⟨RX9, "stuckAt", "()I"⟩
abbrev cX9_remains : ByteArray := prog_11_method_5_code
def yX9_remains : MethodName := ⟨RX9, "remains", "(I)I"⟩
abbrev cX9_run : ByteArray := prog_11_method_6_code
def yX9_run : MethodName := ⟨RX9, "run", "(LTurnThird$Text;ILTurnThird$Cave;LTurnThird$Lamps;)V"⟩
abbrev cX9_begin : ByteArray := prog_11_method_7_code
def yX9_begin : MethodName := ⟨RX9, "begin", "(LTurnThird$Lamps;)V"⟩
abbrev cX9_putOut : ByteArray := prog_11_method_8_code
def yX9_putOut : MethodName := ⟨RX9, "putOut", "(I)V"⟩
abbrev cX9_step : ByteArray := prog_11_method_9_code
def yX9_step : MethodName := ⟨RX9, "step", "(ZLTurnThird$Cave;LTurnThird$Lamps;)Z"⟩
abbrev cX9_unlitMinutes : ByteArray := prog_11_method_10_code
def yX9_unlitMinutes : MethodName := ⟨RX9, "unlitMinutes", "(IZLTurnThird$Cave;)I"⟩
abbrev cX9_litMinutes : ByteArray := prog_11_method_11_code
def yX9_litMinutes : MethodName := ⟨RX9, "litMinutes", "(IZLTurnThird$Cave;LTurnThird$Lamps;)I"⟩
abbrev cX9_going : ByteArray := prog_11_method_12_code
def yX9_going : MethodName := ⟨RX9, "going", "()I"⟩
abbrev cX9_putOutBelow : ByteArray := prog_11_method_13_code
def yX9_putOutBelow : MethodName := ⟨RX9, "putOutBelow", "(I)Z"⟩
abbrev cX9_burn : ByteArray := prog_11_method_14_code
def yX9_burn : MethodName := ⟨RX9, "burn", "(I)V"⟩
def RX10 : String := "TurnThird"
def TX10 : u_T := fun k => match k with
  | 0 => ("TurnThird", "caveText", "LTurnThird$Text;", true)
  | 1 => ("TurnThird", "planText", "LTurnThird$Text;", true)
  | 2 => ("TurnThird", "cave", "LTurnThird$Cave;", true)
  | 3 => ("TurnThird", "plan", "LTurnThird$Plan;", true)
  | 4 => ("TurnThird", "lamps", "LTurnThird$Lamps;", true)
  | 5 => ("TurnThird", "walk", "LTurnThird$Walk;", true)
  | 6 => ("TurnThird", "dark", "LTurnThird$Unlit;", true)
  | 7 => ("TurnThird", "ways", "LTurnThird$SideWays;", true)
  | 8 => ("TurnThird", "cans", "LTurnThird$Cans;", true)
  | 9 => ("TurnThird", "sheets", "LTurnThird$Sheets;", true)
  | _ => ("TurnThird", "told", "LTurnThird$Fraction;", true)
def tyX10 : Nat → FieldType := fun k => match k with
  | 0 => .object "TurnThird$Text"
  | 1 => .object "TurnThird$Text"
  | 2 => .object "TurnThird$Cave"
  | 3 => .object "TurnThird$Plan"
  | 4 => .object "TurnThird$Lamps"
  | 5 => .object "TurnThird$Walk"
  | 6 => .object "TurnThird$Unlit"
  | 7 => .object "TurnThird$SideWays"
  | 8 => .object "TurnThird$Cans"
  | 9 => .object "TurnThird$Sheets"
  | _ => .object "TurnThird$Fraction"
abbrev wsX100 : List Cond := u_ws RX10 TX10 11
theorem nmX10 : ∀ a, a < 11 → ∀ b, b < 11 → a ≠ b → (TX10 a).2.1 ≠ (TX10 b).2.1 := by decide +kernel
theorem tyX10_ok : ∀ k, k < 11 → parseFieldDescriptor (TX10 k).2.2.1 = some (tyX10 k) := by decide +kernel
abbrev cX10_init : ByteArray := prog_1_method_1_code
def yX10_init : MethodName := ⟨RX10, "<init>", "()V"⟩
abbrev cX10_type : ByteArray := prog_1_method_2_code
def yX10_type : MethodName := ⟨RX10, "type", "(II)I"⟩
abbrev cX10_wipe : ByteArray := prog_1_method_3_code
def yX10_wipe : MethodName := ⟨RX10, "wipe", "(I)I"⟩
abbrev cX10_undo : ByteArray := prog_1_method_4_code
def yX10_undo : MethodName := ⟨RX10, "undo", "(I)I"⟩
abbrev cX10_fault : ByteArray := prog_1_method_5_code
def yX10_fault : MethodName := ⟨RX10, "fault", "(I)I"⟩
abbrev cX10_part : ByteArray := prog_1_method_6_code
def yX10_part : MethodName := ⟨RX10, "part", "(II)I"⟩
abbrev cX10_goers : ByteArray := prog_1_method_7_code
def yX10_goers : MethodName := ⟨RX10, "goers", "(I)I"⟩
abbrev cX10_lamp : ByteArray := prog_1_method_8_code
def yX10_lamp : MethodName := ⟨RX10, "lamp", "(II)I"⟩
abbrev cX10_read : ByteArray := prog_1_method_9_code
def yX10_read : MethodName := ⟨RX10, "read", "(I)I"⟩
abbrev cX10_far : ByteArray := prog_1_method_10_code
def yX10_far : MethodName := ⟨RX10, "far", "(II)J"⟩
abbrev cX10_safe : ByteArray := prog_1_method_11_code
def yX10_safe : MethodName := ⟨RX10, "safe", "(II)J"⟩
abbrev cX10_rule : ByteArray := prog_1_method_12_code
def yX10_rule : MethodName := ⟨RX10, "rule", "(III)J"⟩
abbrev cX10_point : ByteArray := prog_1_method_13_code
def yX10_point : MethodName := ⟨RX10, "point", "(I)J"⟩
abbrev cX10_judged : ByteArray := prog_1_method_14_code
def yX10_judged : MethodName := ⟨RX10, "judged", "()I"⟩
abbrev cX10_state : ByteArray := prog_1_method_15_code
def yX10_state : MethodName := ⟨RX10, "state", "(II)I"⟩
abbrev cX10_left : ByteArray := prog_1_method_16_code
def yX10_left : MethodName := ⟨RX10, "left", "(II)I"⟩
abbrev cX10_home : ByteArray := prog_1_method_17_code
def yX10_home : MethodName := ⟨RX10, "home", "()I"⟩
abbrev cX10_unlit : ByteArray := prog_1_method_18_code
def yX10_unlit : MethodName := ⟨RX10, "unlit", "(III)I"⟩
abbrev cX10_help : ByteArray := prog_1_method_19_code
def yX10_help : MethodName := ⟨RX10, "help", "(III)J"⟩
abbrev cX10_least : ByteArray := prog_1_method_20_code
def yX10_least : MethodName := ⟨RX10, "least", "(II)I"⟩
abbrev cX10_side : ByteArray := prog_1_method_21_code
def yX10_side : MethodName := ⟨RX10, "side", "(II)I"⟩
abbrev cX10_gone : ByteArray := prog_1_method_22_code
def yX10_gone : MethodName := ⟨RX10, "gone", "()I"⟩
abbrev cX10_first : ByteArray := prog_1_method_23_code
def yX10_first : MethodName := ⟨RX10, "first", "(I)I"⟩
abbrev cX10_mean : ByteArray := prog_1_method_24_code
def yX10_mean : MethodName := ⟨RX10, "mean", "(I)J"⟩
abbrev cX10_can : ByteArray := prog_1_method_25_code
def yX10_can : MethodName := ⟨RX10, "can", "(IIII)I"⟩
abbrev cX10_forget : ByteArray := prog_1_method_26_code
def yX10_forget : MethodName := ⟨RX10, "forget", "()I"⟩
abbrev cX10_turned : ByteArray := prog_1_method_27_code
def yX10_turned : MethodName := ⟨RX10, "turned", "()I"⟩
abbrev cX10_sheet : ByteArray := prog_1_method_28_code
def yX10_sheet : MethodName := ⟨RX10, "sheet", "(III)I"⟩
abbrev cX10_lose : ByteArray := prog_1_method_29_code
def yX10_lose : MethodName := ⟨RX10, "lose", "(I)I"⟩
abbrev cX10_lay : ByteArray := prog_1_method_30_code
def yX10_lay : MethodName := ⟨RX10, "lay", "(IIII)I"⟩
abbrev cX10_get : ByteArray := prog_1_method_31_code
def yX10_get : MethodName := ⟨RX10, "get", "(III)I"⟩
abbrev cX10_copy : ByteArray := prog_1_method_32_code
def yX10_copy : MethodName := ⟨RX10, "copy", "(IIIII)I"⟩
abbrev cX10_write : ByteArray := prog_1_method_33_code
def yX10_write : MethodName := ⟨RX10, "write", "(I)I"⟩
abbrev cX10_count : ByteArray := prog_1_method_34_code
def yX10_count : MethodName := ⟨RX10, "count", "(I)I"⟩
abbrev cX10_digest : ByteArray := prog_1_method_35_code
def yX10_digest : MethodName := ⟨RX10, "digest", "()J"⟩
abbrev cX10_mixGoers : ByteArray := prog_1_method_36_code
def yX10_mixGoers : MethodName := ⟨RX10, "mixGoers", "(J)J"⟩
abbrev cX10_mixFailures : ByteArray := prog_1_method_37_code
def yX10_mixFailures : MethodName := ⟨RX10, "mixFailures", "(J)J"⟩
abbrev cX10_mix : ByteArray := prog_1_method_38_code
def yX10_mix : MethodName := ⟨RX10, "mix", "(JJ)J"⟩
abbrev cX10_within : ByteArray := prog_1_method_39_code
def yX10_within : MethodName := ⟨RX10, "within", "(III)Z"⟩
abbrev cX10_refusal : ByteArray := prog_1_method_40_code
def yX10_refusal : MethodName := ⟨RX10, "refusal", "(I)J"⟩
abbrev cX10_isGoer : ByteArray := prog_1_method_41_code
def yX10_isGoer : MethodName := ⟨RX10, "isGoer", "(I)Z"⟩
abbrev cX10_textOf : ByteArray := prog_1_method_42_code
def yX10_textOf : MethodName := ⟨RX10, "textOf", "(I)LTurnThird$Text;"⟩
abbrev cX10_parseAgain : ByteArray := prog_1_method_43_code
def yX10_parseAgain : MethodName := ⟨RX10, "parseAgain", "(I)V"⟩
abbrev cX10_helped : ByteArray := prog_1_method_44_code
def yX10_helped : MethodName := ⟨RX10, "helped", "(II)V"⟩
def RX11 : String := "TurnThirdModel"
def TX11 : u_T := fun k => match k with
  | 0 => ("TurnThirdModel", "forms", "[I", true)
  | 1 => ("TurnThirdModel", "sizes", "[I", true)
  | 2 => ("TurnThirdModel", "items", "[I", true)
  | 3 => ("TurnThirdModel", "moved", "[I", true)
  | 4 => ("TurnThirdModel", "latest", "I", false)
  | 5 => ("TurnThirdModel", "bytes", "[I", true)
  | 6 => ("TurnThirdModel", "typed", "[I", true)
  | 7 => ("TurnThirdModel", "at", "I", false)
  | 8 => ("TurnThirdModel", "parts", "I", false)
  | 9 => ("TurnThirdModel", "takes", "[I", true)
  | 10 => ("TurnThirdModel", "isRoped", "[Z", true)
  | 11 => ("TurnThirdModel", "planned", "I", false)
  | 12 => ("TurnThirdModel", "goers", "I", false)
  | 13 => ("TurnThirdModel", "lamps", "[I", true)
  | 14 => ("TurnThirdModel", "place", "I", false)
  | 15 => ("TurnThirdModel", "minutes", "I", false)
  | 16 => ("TurnThirdModel", "firstNot", "I", false)
  | 17 => ("TurnThirdModel", "left", "[I", true)
  | 18 => ("TurnThirdModel", "goes", "[Z", true)
  | 19 => ("TurnThirdModel", "dark", "[I", true)
  | 20 => ("TurnThirdModel", "sides", "I", false)
  | 21 => ("TurnThirdModel", "sideWay", "[I", true)
  | 22 => ("TurnThirdModel", "order", "[I", true)
  | 23 => ("TurnThirdModel", "cans", "I", false)
  | _ => ("TurnThirdModel", "can", "[I", true)
def tyX11 : Nat → FieldType := fun k => match k with
  | 0 => .array .int
  | 1 => .array .int
  | 2 => .array .int
  | 3 => .array .int
  | 4 => .int
  | 5 => .array .int
  | 6 => .array .int
  | 7 => .int
  | 8 => .int
  | 9 => .array .int
  | 10 => .array .boolean
  | 11 => .int
  | 12 => .int
  | 13 => .array .int
  | 14 => .int
  | 15 => .int
  | 16 => .int
  | 17 => .array .int
  | 18 => .array .boolean
  | 19 => .array .int
  | 20 => .int
  | 21 => .array .int
  | 22 => .array .int
  | 23 => .int
  | _ => .array .int
abbrev wsX110 : List Cond := u_ws RX11 TX11 25
theorem nmX11 : ∀ a, a < 25 → ∀ b, b < 25 → a ≠ b → (TX11 a).2.1 ≠ (TX11 b).2.1 := by decide +kernel
theorem tyX11_ok : ∀ k, k < 25 → parseFieldDescriptor (TX11 k).2.2.1 = some (tyX11 k) := by decide +kernel
abbrev cX11_init : ByteArray := prog_13_method_1_code
def yX11_init : MethodName := ⟨RX11, "<init>", "()V"⟩
abbrev cX11_in : ByteArray := prog_13_method_3_code
def yX11_in : MethodName := ⟨RX11, "in", "(JJJ)Z"⟩
abbrev cX11_no : ByteArray := prog_13_method_4_code
def yX11_no : MethodName := ⟨RX11, "no", "(I)J"⟩
abbrev cX11_isTwo : ByteArray := prog_13_method_5_code
def yX11_isTwo : MethodName := ⟨RX11, "isTwo", "(I)Z"⟩
abbrev cX11_isIn : ByteArray := prog_13_method_6_code
def yX11_isIn : MethodName := ⟨RX11, "isIn", "(II)Z"⟩
abbrev cX11_lesser : ByteArray := prog_13_method_7_code
def yX11_lesser : MethodName := ⟨RX11, "lesser", "(II)I"⟩
abbrev cX11_part : ByteArray := prog_13_method_8_code
def yX11_part : MethodName := ⟨RX11, "part", "(JJI)J"⟩
abbrev cX11_met : ByteArray := prog_13_method_9_code
def yX11_met : MethodName := ⟨RX11, "met", "(I)I"⟩
abbrev cX11_isSheet : ByteArray := prog_13_method_10_code
def yX11_isSheet : MethodName := ⟨RX11, "isSheet", "(I)Z"⟩
abbrev cX11_sheet : ByteArray := prog_13_method_11_code
def yX11_sheet : MethodName := ⟨RX11, "sheet", "(III)I"⟩
abbrev cX11_lose : ByteArray := prog_13_method_12_code
def yX11_lose : MethodName := ⟨RX11, "lose", "(I)I"⟩
abbrev cX11_lacks : ByteArray := prog_13_method_13_code
def yX11_lacks : MethodName := ⟨RX11, "lacks", "(III)I"⟩
abbrev cX11_cut : ByteArray := prog_13_method_14_code
def yX11_cut : MethodName := ⟨RX11, "cut", "(II)I"⟩
abbrev cX11_lay : ByteArray := prog_13_method_15_code
def yX11_lay : MethodName := ⟨RX11, "lay", "(IIII)I"⟩
abbrev cX11_get : ByteArray := prog_13_method_16_code
def yX11_get : MethodName := ⟨RX11, "get", "(III)I"⟩
abbrev cX11_copy : ByteArray := prog_13_method_17_code
def yX11_copy : MethodName := ⟨RX11, "copy", "(IIIII)I"⟩
abbrev cX11_type : ByteArray := prog_13_method_18_code
def yX11_type : MethodName := ⟨RX11, "type", "(II)I"⟩
abbrev cX11_wipe : ByteArray := prog_13_method_19_code
def yX11_wipe : MethodName := ⟨RX11, "wipe", "(I)I"⟩
abbrev cX11_undo : ByteArray := prog_13_method_20_code
def yX11_undo : MethodName := ⟨RX11, "undo", "(I)I"⟩
abbrev cX11_here : ByteArray := prog_13_method_21_code
def yX11_here : MethodName := ⟨RX11, "here", "(I)I"⟩
abbrev cX11_readsPart : ByteArray := prog_13_method_22_code
def yX11_readsPart : MethodName := ⟨RX11, "readsPart", "()Z"⟩
abbrev cX11_readsCave : ByteArray := prog_13_method_23_code
def yX11_readsCave : MethodName := ⟨RX11, "readsCave", "()I"⟩
abbrev cX11_isStep : ByteArray := prog_13_method_24_code
def yX11_isStep : MethodName := ⟨RX11, "isStep", "(I)Z"⟩
abbrev cX11_readsPlan : ByteArray := prog_13_method_25_code
def yX11_readsPlan : MethodName := ⟨RX11, "readsPlan", "()I"⟩
abbrev cX11_reads : ByteArray := prog_13_method_26_code
def yX11_reads : MethodName := ⟨RX11, "reads", "()V"⟩
abbrev cX11_fault : ByteArray := prog_13_method_27_code
def yX11_fault : MethodName := ⟨RX11, "fault", "(I)I"⟩
abbrev cX11_partOf : ByteArray := prog_13_method_28_code
def yX11_partOf : MethodName := ⟨RX11, "partOf", "(II)I"⟩
abbrev cX11_part_ : ByteArray := prog_13_method_29_code
def yX11_part_ : MethodName := ⟨RX11, "part", "(II)I"⟩
abbrev cX11_goers : ByteArray := prog_13_method_30_code
def yX11_goers : MethodName := ⟨RX11, "goers", "(I)I"⟩
abbrev cX11_lamp : ByteArray := prog_13_method_31_code
def yX11_lamp : MethodName := ⟨RX11, "lamp", "(II)I"⟩
abbrev cX11_read : ByteArray := prog_13_method_32_code
def yX11_read : MethodName := ⟨RX11, "read", "(I)I"⟩
abbrev cX11_isGoer : ByteArray := prog_13_method_33_code
def yX11_isGoer : MethodName := ⟨RX11, "isGoer", "(I)Z"⟩
abbrev cX11_outBy : ByteArray := prog_13_method_34_code
def yX11_outBy : MethodName := ⟨RX11, "outBy", "(II)I"⟩
abbrev cX11_toLight : ByteArray := prog_13_method_35_code
def yX11_toLight : MethodName := ⟨RX11, "toLight", "(I)I"⟩
abbrev cX11_leastLamp : ByteArray := prog_13_method_36_code
def yX11_leastLamp : MethodName := ⟨RX11, "leastLamp", "()I"⟩
abbrev cX11_placeOf : ByteArray := prog_13_method_37_code
def yX11_placeOf : MethodName := ⟨RX11, "placeOf", "(III)J"⟩
abbrev cX11_far : ByteArray := prog_13_method_38_code
def yX11_far : MethodName := ⟨RX11, "far", "(II)J"⟩
abbrev cX11_mayFail : ByteArray := prog_13_method_39_code
def yX11_mayFail : MethodName := ⟨RX11, "mayFail", "(I)Z"⟩
abbrev cX11_safeOf : ByteArray := prog_13_method_40_code
def yX11_safeOf : MethodName := ⟨RX11, "safeOf", "(II)J"⟩
abbrev cX11_safe : ByteArray := prog_13_method_41_code
def yX11_safe : MethodName := ⟨RX11, "safe", "(II)J"⟩
abbrev cX11_ruleOf : ByteArray := prog_13_method_42_code
def yX11_ruleOf : MethodName := ⟨RX11, "ruleOf", "(III)J"⟩
abbrev cX11_rule : ByteArray := prog_13_method_43_code
def yX11_rule : MethodName := ⟨RX11, "rule", "(III)J"⟩
abbrev cX11_inAll : ByteArray := prog_13_method_44_code
def yX11_inAll : MethodName := ⟨RX11, "inAll", "()I"⟩
abbrev cX11_pointOf : ByteArray := prog_13_method_45_code
def yX11_pointOf : MethodName := ⟨RX11, "pointOf", "(I)J"⟩
abbrev cX11_point : ByteArray := prog_13_method_46_code
def yX11_point : MethodName := ⟨RX11, "point", "(I)J"⟩
abbrev cX11_going : ByteArray := prog_13_method_47_code
def yX11_going : MethodName := ⟨RX11, "going", "()I"⟩
abbrev cX11_fails : ByteArray := prog_13_method_48_code
def yX11_fails : MethodName := ⟨RX11, "fails", "(I)V"⟩
abbrev cX11_lights : ByteArray := prog_13_method_49_code
def yX11_lights : MethodName := ⟨RX11, "lights", "(IZ)I"⟩
abbrev cX11_steps : ByteArray := prog_13_method_50_code
def yX11_steps : MethodName := ⟨RX11, "steps", "(ZZ)Z"⟩
abbrev cX11_plans : ByteArray := prog_13_method_51_code
def yX11_plans : MethodName := ⟨RX11, "plans", "(I)V"⟩
abbrev cX11_plansAll : ByteArray := prog_13_method_52_code
def yX11_plansAll : MethodName := ⟨RX11, "plansAll", "()V"⟩
abbrev cX11_judged : ByteArray := prog_13_method_53_code
def yX11_judged : MethodName := ⟨RX11, "judged", "()I"⟩
abbrev cX11_stateOf : ByteArray := prog_13_method_54_code
def yX11_stateOf : MethodName := ⟨RX11, "stateOf", "(II)I"⟩
abbrev cX11_state : ByteArray := prog_13_method_55_code
def yX11_state : MethodName := ⟨RX11, "state", "(II)I"⟩
abbrev cX11_leftOf : ByteArray := prog_13_method_56_code
def yX11_leftOf : MethodName := ⟨RX11, "leftOf", "(II)I"⟩
abbrev cX11_left : ByteArray := prog_13_method_57_code
def yX11_left : MethodName := ⟨RX11, "left", "(II)I"⟩
abbrev cX11_homeNow : ByteArray := prog_13_method_58_code
def yX11_homeNow : MethodName := ⟨RX11, "homeNow", "()I"⟩
abbrev cX11_home : ByteArray := prog_13_method_59_code
def yX11_home : MethodName := ⟨RX11, "home", "()I"⟩
abbrev cX11_findDark : ByteArray := prog_13_method_60_code
def yX11_findDark : MethodName := ⟨RX11, "findDark", "(II)V"⟩
abbrev cX11_unlit : ByteArray := prog_13_method_61_code
def yX11_unlit : MethodName := ⟨RX11, "unlit", "(III)I"⟩
abbrev cX11_help : ByteArray := prog_13_method_62_code
def yX11_help : MethodName := ⟨RX11, "help", "(III)J"⟩
abbrev cX11_leastOf : ByteArray := prog_13_method_63_code
def yX11_leastOf : MethodName := ⟨RX11, "leastOf", "(II)I"⟩
abbrev cX11_least : ByteArray := prog_13_method_64_code
def yX11_least : MethodName := ⟨RX11, "least", "(II)I"⟩
abbrev cX11_sixteenths : ByteArray := prog_13_method_65_code
def yX11_sixteenths : MethodName := ⟨RX11, "sixteenths", "()I"⟩
abbrev cX11_side : ByteArray := prog_13_method_66_code
def yX11_side : MethodName := ⟨RX11, "side", "(II)I"⟩
abbrev cX11_gone : ByteArray := prog_13_method_67_code
def yX11_gone : MethodName := ⟨RX11, "gone", "()I"⟩
abbrev cX11_findOrder : ByteArray := prog_13_method_68_code
def yX11_findOrder : MethodName := ⟨RX11, "findOrder", "()V"⟩
abbrev cX11_firstOf : ByteArray := prog_13_method_69_code
def yX11_firstOf : MethodName := ⟨RX11, "firstOf", "(I)I"⟩
abbrev cX11_first : ByteArray := prog_13_method_70_code
def yX11_first : MethodName := ⟨RX11, "first", "(I)I"⟩
abbrev cX11_meanOf : ByteArray := prog_13_method_71_code
def yX11_meanOf : MethodName := ⟨RX11, "meanOf", "(I)J"⟩
abbrev cX11_mean : ByteArray := prog_13_method_72_code
def yX11_mean : MethodName := ⟨RX11, "mean", "(I)J"⟩
abbrev cX11_can : ByteArray := prog_13_method_73_code
def yX11_can : MethodName := ⟨RX11, "can", "(IIII)I"⟩
abbrev cX11_forget : ByteArray := prog_13_method_74_code
def yX11_forget : MethodName := ⟨RX11, "forget", "()I"⟩
abbrev cX11_between : ByteArray := prog_13_method_75_code
def yX11_between : MethodName := ⟨RX11, "between", "(III)I"⟩
abbrev cX11_isSo : ByteArray := prog_13_method_76_code
def yX11_isSo : MethodName := ⟨RX11, "isSo", "(II)Z"⟩
abbrev cX11_turnedNow : ByteArray := prog_13_method_77_code
def yX11_turnedNow : MethodName := ⟨RX11, "turnedNow", "()I"⟩
abbrev cX11_turned : ByteArray := prog_13_method_78_code
def yX11_turned : MethodName := ⟨RX11, "turned", "()I"⟩
abbrev cX11_write : ByteArray := prog_13_method_79_code
def yX11_write : MethodName := ⟨RX11, "write", "(I)I"⟩
abbrev cX11_count : ByteArray := prog_13_method_80_code
def yX11_count : MethodName := ⟨RX11, "count", "(I)I"⟩
abbrev cX11_digest : ByteArray := prog_13_method_81_code
def yX11_digest : MethodName := ⟨RX11, "digest", "()J"⟩
def RJ9 : String := "java/lang/Math"
def TJ9 : u_T := fun k => match k with
  | _ => ("", "", "", false)
def tyJ9 : Nat → FieldType := fun k => match k with
  | _ => .int
abbrev wsJ90 : List Cond := u_ws RJ9 TJ9 0
theorem nmJ9 : ∀ a, a < 0 → ∀ b, b < 0 → a ≠ b → (TJ9 a).2.1 ≠ (TJ9 b).2.1 := by decide +kernel
theorem tyJ9_ok : ∀ k, k < 0 → parseFieldDescriptor (TJ9 k).2.2.1 = some (tyJ9 k) := by decide +kernel
abbrev cJ9_max_7cf53 : ByteArray := prog_14_method_65_code
def yJ9_max_7cf53 : MethodName := ⟨RJ9, "max", "(II)I"⟩
abbrev cJ9_min_7cf53 : ByteArray := prog_14_method_69_code
def yJ9_min_7cf53 : MethodName := ⟨RJ9, "min", "(II)I"⟩
def RJ10 : String := "java/lang/System"
def TJ10 : u_T := fun k => match k with
  | _ => ("", "", "", false)
def tyJ10 : Nat → FieldType := fun k => match k with
  | _ => .int
abbrev wsJ100 : List Cond := u_ws RJ10 TJ10 0
theorem nmJ10 : ∀ a, a < 0 → ∀ b, b < 0 → a ≠ b → (TJ10 a).2.1 ≠ (TJ10 b).2.1 := by decide +kernel
theorem tyJ10_ok : ∀ k, k < 0 → parseFieldDescriptor (TJ10 k).2.2.1 = some (tyJ10 k) := by decide +kernel
def RL : String := "TurnThirdLaw"
abbrev cL_law : ByteArray := code
def yL_law : MethodName := ⟨RL, "law", "([I)Z"⟩
def wsL_law_r1 : List Cond := [Cond.classLink RL 7 RX10, Cond.instantiable RX10 11, Cond.initialized RX10, Cond.classLink RL 10 RX11, Cond.instantiable RX11 25, Cond.initialized RX11, Cond.methodLink RL 9 yX10_init, Cond.instanceMethod yX10_init, Cond.code yX10_init cX10_init 1 none, Cond.methodLink RX10 1 objectInit, Cond.instanceMethod objectInit, Cond.code objectInit ⟨#[0xb1]⟩ 1 none, Cond.classLink RX10 7 RX7, Cond.instantiable RX7 2, Cond.initialized RX7, Cond.fieldLink RX10 14 "TurnThird" "caveText" "LTurnThird$Text;", Cond.fieldLink RX10 18 "TurnThird" "planText" "LTurnThird$Text;", Cond.classLink RX10 21 RX1, Cond.instantiable RX1 3, Cond.initialized RX1, Cond.fieldLink RX10 24 "TurnThird" "cave" "LTurnThird$Cave;", Cond.classLink RX10 28 RX4, Cond.instantiable RX4 2, Cond.initialized RX4]
def wsL_law_r2 : List Cond := [Cond.fieldLink RX10 31 "TurnThird" "plan" "LTurnThird$Plan;", Cond.classLink RX10 35 RX3, Cond.instantiable RX3 2, Cond.initialized RX3, Cond.fieldLink RX10 38 "TurnThird" "lamps" "LTurnThird$Lamps;", Cond.classLink RX10 42 RX9, Cond.instantiable RX9 7, Cond.initialized RX9, Cond.fieldLink RX10 45 "TurnThird" "walk" "LTurnThird$Walk;", Cond.classLink RX10 49 RX8, Cond.instantiable RX8 2, Cond.initialized RX8, Cond.fieldLink RX10 52 "TurnThird" "dark" "LTurnThird$Unlit;", Cond.classLink RX10 56 RX6, Cond.instantiable RX6 4, Cond.initialized RX6, Cond.fieldLink RX10 59 "TurnThird" "ways" "LTurnThird$SideWays;", Cond.classLink RX10 63 RX0, Cond.instantiable RX0 5, Cond.initialized RX0, Cond.fieldLink RX10 66 "TurnThird" "cans" "LTurnThird$Cans;", Cond.classLink RX10 70 RX5, Cond.instantiable RX5 4, Cond.initialized RX5]
def wsL_law_r3 : List Cond := [Cond.fieldLink RX10 73 "TurnThird" "sheets" "LTurnThird$Sheets;", Cond.classLink RX10 77 RX2, Cond.instantiable RX2 2, Cond.initialized RX2, Cond.fieldLink RX10 80 "TurnThird" "told" "LTurnThird$Fraction;", Cond.methodLink RX10 11 yX7_init, Cond.instanceMethod yX7_init, Cond.code yX7_init cX7_init 2 none, Cond.methodLink RX7 3 objectInit, Cond.fieldLink RX7 9 "TurnThird$Text" "length" "I", Cond.methodLink RX7 15 Lib.Math.max.name, Cond.static Lib.Math.max.name, Cond.initialized "java/lang/Math", Cond.code Lib.Math.max.name Lib.Math.max.code 2 (some .int), Cond.arrayClass .int, Cond.fieldLink RX7 21 "TurnThird$Text" "bytes" "[I", Cond.instanceMethod yX1_init, Cond.code yX1_init cX1_init 1 none, Cond.methodLink RX1 3 objectInit, Cond.classLink RX1 9 "[[I", Cond.fieldLink RX1 11 "TurnThird$Cave" "parts" "[[I", Cond.fieldLink RX1 16 "TurnThird$Cave" "size" "I", Cond.fieldLink RX1 20 "TurnThird$Cave" "fault" "I", Cond.instanceMethod yX4_init]
def wsL_law_r4 : List Cond := [Cond.code yX4_init cX4_init 1 none, Cond.methodLink RX4 3 objectInit, Cond.fieldLink RX4 9 "TurnThird$Plan" "size" "I", Cond.fieldLink RX4 15 "TurnThird$Plan" "fault" "I", Cond.instanceMethod yX3_init, Cond.code yX3_init cX3_init 1 none, Cond.methodLink RX3 3 objectInit, Cond.fieldLink RX3 9 "TurnThird$Lamps" "burns" "[I", Cond.fieldLink RX3 15 "TurnThird$Lamps" "party" "I", Cond.instanceMethod yX9_init, Cond.code yX9_init cX9_init 1 none, Cond.methodLink RX9 3 objectInit, Cond.fieldLink RX9 9 "TurnThird$Walk" "left" "[I", Cond.arrayClass .boolean, Cond.fieldLink RX9 15 "TurnThird$Walk" "goes" "[Z", Cond.fieldLink RX9 19 "TurnThird$Walk" "depth" "I", Cond.fieldLink RX9 23 "TurnThird$Walk" "spent" "I", Cond.fieldLink RX9 26 "TurnThird$Walk" "stuckAt" "I", Cond.fieldLink RX9 29 "TurnThird$Walk" "nextIsUnlit" "Z", Cond.fieldLink RX9 33 "TurnThird$Walk" "figureIsDue" "Z", Cond.instanceMethod yX8_init, Cond.code yX8_init cX8_init 1 none, Cond.methodLink RX8 3 objectInit, Cond.fieldLink RX8 9 "TurnThird$Unlit" "minutes" "I"]
def wsL_law_r5 : List Cond := [Cond.fieldLink RX8 15 "TurnThird$Unlit" "bits" "I", Cond.instanceMethod yX6_init, Cond.code yX6_init cX6_init 1 none, Cond.methodLink RX6 3 objectInit, Cond.fieldLink RX6 11 "TurnThird$SideWays" "chances" "[I", Cond.fieldLink RX6 15 "TurnThird$SideWays" "minutes" "[I", Cond.fieldLink RX6 18 "TurnThird$SideWays" "order" "[I", Cond.fieldLink RX6 21 "TurnThird$SideWays" "size" "I", Cond.instanceMethod yX0_init, Cond.code yX0_init cX0_init 1 none, Cond.methodLink RX0 1 objectInit, Cond.fieldLink RX0 9 "TurnThird$Cans" "place" "[I", Cond.fieldLink RX0 13 "TurnThird$Cans" "owner" "[I", Cond.fieldLink RX0 16 "TurnThird$Cans" "rest" "[I", Cond.fieldLink RX0 19 "TurnThird$Cans" "way" "[I", Cond.fieldLink RX0 22 "TurnThird$Cans" "size" "I", Cond.instanceMethod yX5_init, Cond.code yX5_init cX5_init 1 none, Cond.methodLink RX5 3 objectInit, Cond.classLink RX5 11 "[[I", Cond.fieldLink RX5 13 "TurnThird$Sheets" "items" "[[I", Cond.fieldLink RX5 16 "TurnThird$Sheets" "forms" "[I", Cond.fieldLink RX5 20 "TurnThird$Sheets" "sizes" "[I", Cond.fieldLink RX5 23 "TurnThird$Sheets" "finding" "I"]
def wsL_law_r6 : List Cond := [Cond.instanceMethod yX2_init, Cond.code yX2_init cX2_init 1 none, Cond.methodLink RX2 1 objectInit, Cond.fieldLink RX2 7 "TurnThird$Fraction" "above" "J", Cond.fieldLink RX2 13 "TurnThird$Fraction" "below" "J", Cond.methodLink RL 12 yX11_init, Cond.instanceMethod yX11_init, Cond.code yX11_init cX11_init 2 none, Cond.methodLink RX11 1 objectInit, Cond.fieldLink RX11 7 "TurnThirdModel" "forms" "[I", Cond.fieldLink RX11 13 "TurnThirdModel" "sizes" "[I", Cond.fieldLink RX11 16 "TurnThirdModel" "items" "[I", Cond.fieldLink RX11 19 "TurnThirdModel" "moved" "[I", Cond.fieldLink RX11 22 "TurnThirdModel" "bytes" "[I", Cond.fieldLink RX11 25 "TurnThirdModel" "typed" "[I", Cond.fieldLink RX11 28 "TurnThirdModel" "takes" "[I", Cond.fieldLink RX11 31 "TurnThirdModel" "isRoped" "[Z", Cond.fieldLink RX11 35 "TurnThirdModel" "lamps" "[I", Cond.fieldLink RX11 38 "TurnThirdModel" "left" "[I", Cond.fieldLink RX11 41 "TurnThirdModel" "goes" "[Z", Cond.fieldLink RX11 44 "TurnThirdModel" "dark" "[I", Cond.fieldLink RX11 47 "TurnThirdModel" "sideWay" "[I", Cond.fieldLink RX11 50 "TurnThirdModel" "order" "[I", Cond.fieldLink RX11 53 "TurnThirdModel" "can" "[I"]
def wsL_law_r7 : List Cond := [Cond.fieldLink RX11 56 "TurnThirdModel" "goers" "I", Cond.methodLink RL 13 yX10_type, Cond.instanceMethod yX10_type, Cond.selects RX10 yX10_type yX10_type, Cond.code yX10_type cX10_type 4 (some .int), Cond.methodLink RX10 84 yX10_textOf, Cond.instanceMethod yX10_textOf, Cond.selects RX10 yX10_textOf yX10_textOf, Cond.code yX10_textOf cX10_textOf 2 (some (.object "TurnThird$Text")), Cond.methodLink RX10 88 yX10_within, Cond.static yX10_within, Cond.code yX10_within cX10_within 3 (some .boolean), Cond.methodLink RX10 92 yX7_push, Cond.instanceMethod yX7_push, Cond.selects RX7 yX7_push yX7_push, Cond.code yX7_push cX7_push 2 (some .boolean), Cond.methodLink RX10 96 yX10_parseAgain, Cond.instanceMethod yX10_parseAgain, Cond.selects RX10 yX10_parseAgain yX10_parseAgain, Cond.code yX10_parseAgain cX10_parseAgain 2 none, Cond.methodLink RX10 338 yX1_parse, Cond.instanceMethod yX1_parse, Cond.selects RX1 yX1_parse yX1_parse, Cond.code yX1_parse cX1_parse 4 none]
def wsL_law_r8 : List Cond := [Cond.methodLink RX1 23 yX7_length, Cond.instanceMethod yX7_length, Cond.selects RX7 yX7_length yX7_length, Cond.code yX7_length cX7_length 1 (some .int), Cond.methodLink RX1 29 yX7_at, Cond.instanceMethod yX7_at, Cond.selects RX7 yX7_at yX7_at, Cond.code yX7_at cX7_at 2 (some .int), Cond.methodLink RX1 33 yX1_accept, Cond.instanceMethod yX1_accept, Cond.selects RX1 yX1_accept yX1_accept, Cond.code yX1_accept cX1_accept 4 (some .boolean), Cond.methodLink RX10 342 yX4_parse, Cond.instanceMethod yX4_parse, Cond.selects RX4 yX4_parse yX4_parse, Cond.code yX4_parse cX4_parse 6 none, Cond.methodLink RX4 18 yX7_length, Cond.methodLink RX4 24 yX7_at, Cond.methodLink RX4 28 yX4_isGoerFigure, Cond.static yX4_isGoerFigure, Cond.code yX4_isGoerFigure cX4_isGoerFigure 1 (some .boolean), Cond.methodLink RX4 32 yX4_isAct, Cond.static yX4_isAct, Cond.code yX4_isAct cX4_isAct 1 (some .boolean)]
def wsL_law_r9 : List Cond := [Cond.methodLink RX10 99 yX7_length, Cond.methodLink RL 17 yX11_type, Cond.instanceMethod yX11_type, Cond.selects RX11 yX11_type yX11_type, Cond.code yX11_type cX11_type 3 (some .int), Cond.constantLong RX11 93 (255), Cond.methodLink RX11 90 yX11_isTwo, Cond.static yX11_isTwo, Cond.code yX11_isTwo cX11_isTwo 1 (some .boolean), Cond.methodLink RX11 62 yX11_in, Cond.static yX11_in, Cond.code yX11_in cX11_in 6 (some .boolean), Cond.methodLink RL 18 yX10_wipe, Cond.instanceMethod yX10_wipe, Cond.selects RX10 yX10_wipe yX10_wipe, Cond.code yX10_wipe cX10_wipe 4 (some .int), Cond.methodLink RX10 103 yX7_clear, Cond.instanceMethod yX7_clear, Cond.selects RX7 yX7_clear yX7_clear, Cond.code yX7_clear cX7_clear 1 none, Cond.methodLink RL 22 yX11_wipe, Cond.instanceMethod yX11_wipe, Cond.selects RX11 yX11_wipe yX11_wipe, Cond.code yX11_wipe cX11_wipe 3 (some .int)]
def wsL_law_r10 : List Cond := [Cond.methodLink RL 23 yX10_undo, Cond.instanceMethod yX10_undo, Cond.selects RX10 yX10_undo yX10_undo, Cond.code yX10_undo cX10_undo 3 (some .int), Cond.methodLink RX10 106 yX7_pop, Cond.instanceMethod yX7_pop, Cond.selects RX7 yX7_pop yX7_pop, Cond.code yX7_pop cX7_pop 1 (some .boolean), Cond.methodLink RL 26 yX11_undo, Cond.instanceMethod yX11_undo, Cond.selects RX11 yX11_undo yX11_undo, Cond.code yX11_undo cX11_undo 2 (some .int), Cond.methodLink RL 27 yX10_fault, Cond.instanceMethod yX10_fault, Cond.selects RX10 yX10_fault yX10_fault, Cond.code yX10_fault cX10_fault 2 (some .int), Cond.methodLink RX10 110 yX1_faultPlace, Cond.instanceMethod yX1_faultPlace, Cond.selects RX1 yX1_faultPlace yX1_faultPlace, Cond.code yX1_faultPlace cX1_faultPlace 1 (some .int), Cond.methodLink RX10 113 yX4_faultPlace, Cond.instanceMethod yX4_faultPlace, Cond.selects RX4 yX4_faultPlace yX4_faultPlace, Cond.code yX4_faultPlace cX4_faultPlace 1 (some .int)]
def wsL_law_r11 : List Cond := [Cond.methodLink RL 30 yX11_fault, Cond.instanceMethod yX11_fault, Cond.selects RX11 yX11_fault yX11_fault, Cond.code yX11_fault cX11_fault 2 (some .int), Cond.methodLink RX11 120 yX11_readsCave, Cond.instanceMethod yX11_readsCave, Cond.selects RX11 yX11_readsCave yX11_readsCave, Cond.code yX11_readsCave cX11_readsCave 3 (some .int), Cond.fieldLink RX11 95 "TurnThirdModel" "at" "I", Cond.fieldLink RX11 98 "TurnThirdModel" "parts" "I", Cond.methodLink RX11 106 yX11_readsPart, Cond.instanceMethod yX11_readsPart, Cond.selects RX11 yX11_readsPart yX11_readsPart, Cond.code yX11_readsPart cX11_readsPart 3 (some .boolean), Cond.constantLong RX11 104 (9), Cond.methodLink RX11 101 yX11_here, Cond.instanceMethod yX11_here, Cond.selects RX11 yX11_here yX11_here, Cond.code yX11_here cX11_here 2 (some .int), Cond.methodLink RX11 124 yX11_readsPlan, Cond.instanceMethod yX11_readsPlan, Cond.selects RX11 yX11_readsPlan yX11_readsPlan, Cond.code yX11_readsPlan cX11_readsPlan 1 (some .int), Cond.fieldLink RX11 110 "TurnThirdModel" "planned" "I"]
def wsL_law_r12 : List Cond := [Cond.constantLong RX11 116 (48), Cond.constantLong RX11 118 (51), Cond.methodLink RX11 113 yX11_isStep, Cond.static yX11_isStep, Cond.code yX11_isStep cX11_isStep 1 (some .boolean), Cond.methodLink RL 31 yX10_part, Cond.instanceMethod yX10_part, Cond.selects RX10 yX10_part yX10_part, Cond.code yX10_part cX10_part 3 (some .int), Cond.methodLink RX10 114 yX1_size, Cond.instanceMethod yX1_size, Cond.selects RX1 yX1_size yX1_size, Cond.code yX1_size cX1_size 1 (some .int), Cond.methodLink RX10 117 yX1_figure, Cond.instanceMethod yX1_figure, Cond.selects RX1 yX1_figure yX1_figure, Cond.code yX1_figure cX1_figure 3 (some .int), Cond.methodLink RL 34 yX11_part_, Cond.instanceMethod yX11_part_, Cond.selects RX11 yX11_part_ yX11_part_, Cond.code yX11_part_ cX11_part_ 3 (some .int), Cond.constantLong RX11 69 (3), Cond.methodLink RX11 127 yX11_reads, Cond.instanceMethod yX11_reads]
def wsL_law_r13 : List Cond := [Cond.selects RX11 yX11_reads yX11_reads, Cond.code yX11_reads cX11_reads 1 none, Cond.methodLink RX11 130 yX11_partOf, Cond.instanceMethod yX11_partOf, Cond.selects RX11 yX11_partOf yX11_partOf, Cond.code yX11_partOf cX11_partOf 3 (some .int), Cond.methodLink RL 35 yX10_goers, Cond.instanceMethod yX10_goers, Cond.selects RX10 yX10_goers yX10_goers, Cond.code yX10_goers cX10_goers 3 (some .int), Cond.methodLink RX10 121 yX3_party, Cond.instanceMethod yX3_party, Cond.selects RX3 yX3_party yX3_party, Cond.code yX3_party cX3_party 1 (some .int), Cond.methodLink RX10 124 yX3_setParty, Cond.instanceMethod yX3_setParty, Cond.selects RX3 yX3_setParty yX3_setParty, Cond.code yX3_setParty cX3_setParty 2 none, Cond.methodLink RL 38 yX11_goers, Cond.instanceMethod yX11_goers, Cond.selects RX11 yX11_goers yX11_goers, Cond.code yX11_goers cX11_goers 3 (some .int), Cond.constantLong RX11 133 (4), Cond.methodLink RL 39 yX10_lamp]
def wsL_law_r14 : List Cond := [Cond.instanceMethod yX10_lamp, Cond.selects RX10 yX10_lamp yX10_lamp, Cond.code yX10_lamp cX10_lamp 4 (some .int), Cond.methodLink RX10 127 yX3_burns, Cond.instanceMethod yX3_burns, Cond.selects RX3 yX3_burns yX3_burns, Cond.code yX3_burns cX3_burns 2 (some .int), Cond.methodLink RX10 131 yX3_setBurns, Cond.instanceMethod yX3_setBurns, Cond.selects RX3 yX3_setBurns yX3_setBurns, Cond.code yX3_setBurns cX3_setBurns 3 none, Cond.methodLink RL 42 yX11_lamp, Cond.instanceMethod yX11_lamp, Cond.selects RX11 yX11_lamp yX11_lamp, Cond.code yX11_lamp cX11_lamp 4 (some .int), Cond.constantLong RX11 135 (999), Cond.methodLink RL 43 yX10_read, Cond.instanceMethod yX10_read, Cond.selects RX10 yX10_read yX10_read, Cond.code yX10_read cX10_read 4 (some .int), Cond.methodLink RX10 146 Lib.Math.min.name, Cond.static Lib.Math.min.name, Cond.code Lib.Math.min.name Lib.Math.min.code 2 (some .int), Cond.methodLink RX10 135 yX5_exists]
def wsL_law_r15 : List Cond := [Cond.static yX5_exists, Cond.code yX5_exists cX5_exists 1 (some .boolean), Cond.methodLink RX10 138 yX5_isLost, Cond.instanceMethod yX5_isLost, Cond.selects RX5 yX5_isLost yX5_isLost, Cond.code yX5_isLost cX5_isLost 2 (some .boolean), Cond.methodLink RX5 27 yX5_exists, Cond.methodLink RX10 141 yX5_found, Cond.instanceMethod yX5_found, Cond.selects RX5 yX5_found yX5_found, Cond.code yX5_found cX5_found 2 (some .int), Cond.methodLink RX10 144 yX5_size, Cond.instanceMethod yX5_size, Cond.selects RX5 yX5_size yX5_size, Cond.code yX5_size cX5_size 2 (some .int), Cond.methodLink RX5 31 yX5_isLost, Cond.methodLink RX10 151 yX5_item, Cond.instanceMethod yX5_item, Cond.selects RX5 yX5_item yX5_item, Cond.code yX5_item cX5_item 3 (some .int), Cond.methodLink RX5 44 yX5_holds, Cond.instanceMethod yX5_holds, Cond.selects RX5 yX5_holds yX5_holds, Cond.code yX5_holds cX5_holds 4 (some .boolean)]
def wsL_law_r16 : List Cond := [Cond.methodLink RX5 34 yX5_size, Cond.methodLink RL 46 yX11_read, Cond.instanceMethod yX11_read, Cond.selects RX11 yX11_read yX11_read, Cond.code yX11_read cX11_read 3 (some .int), Cond.methodLink RX11 71 yX11_isSheet, Cond.static yX11_isSheet, Cond.code yX11_isSheet cX11_isSheet 1 (some .boolean), Cond.methodLink RX11 77 yX11_met, Cond.instanceMethod yX11_met, Cond.selects RX11 yX11_met yX11_met, Cond.code yX11_met cX11_met 2 (some .int), Cond.fieldLink RX11 66 "TurnThirdModel" "latest" "I", Cond.methodLink RX11 137 yX11_lamp, Cond.methodLink RL 47 yX10_far, Cond.instanceMethod yX10_far, Cond.selects RX10 yX10_far yX10_far, Cond.code yX10_far cX10_far 3 (some .long), Cond.methodLink RX10 154 yX10_isGoer, Cond.instanceMethod yX10_isGoer, Cond.selects RX10 yX10_isGoer yX10_isGoer, Cond.code yX10_isGoer cX10_isGoer 2 (some .boolean), Cond.methodLink RX10 157 yX10_refusal, Cond.static yX10_refusal]
def wsL_law_r17 : List Cond := [Cond.code yX10_refusal cX10_refusal 1 (some .long), Cond.constantLong RX10 336 (-9223372036854775808), Cond.methodLink RX10 161 yX1_reach, Cond.instanceMethod yX1_reach, Cond.selects RX1 yX1_reach yX1_reach, Cond.code yX1_reach cX1_reach 10 none, Cond.methodLink RX1 50 yX1_thereAndBack, Cond.instanceMethod yX1_thereAndBack, Cond.selects RX1 yX1_thereAndBack yX1_thereAndBack, Cond.code yX1_thereAndBack cX1_thereAndBack 4 (some .int), Cond.methodLink RX1 44 yX1_outMinutes, Cond.instanceMethod yX1_outMinutes, Cond.selects RX1 yX1_outMinutes yX1_outMinutes, Cond.code yX1_outMinutes cX1_outMinutes 3 (some .int), Cond.methodLink RX1 41 yX1_figure, Cond.methodLink RX1 47 yX1_inMinutes, Cond.instanceMethod yX1_inMinutes, Cond.selects RX1 yX1_inMinutes yX1_inMinutes, Cond.code yX1_inMinutes cX1_inMinutes 2 (some .int), Cond.methodLink RX1 53 yX2_set, Cond.instanceMethod yX2_set, Cond.selects RX2 yX2_set yX2_set, Cond.code yX2_set cX2_set 7 none, Cond.methodLink RX2 16 yX2_commonDivisor]
def wsL_law_r18 : List Cond := [Cond.static yX2_commonDivisor, Cond.code yX2_commonDivisor cX2_commonDivisor 11 (some .long), Cond.methodLink RX10 165 yX2_term, Cond.instanceMethod yX2_term, Cond.selects RX2 yX2_term yX2_term, Cond.code yX2_term cX2_term 2 (some .long), Cond.methodLink RL 51 yX11_far, Cond.instanceMethod yX11_far, Cond.selects RX11 yX11_far yX11_far, Cond.code yX11_far cX11_far 3 (some .long), Cond.methodLink RX11 150 yX11_isGoer, Cond.instanceMethod yX11_isGoer, Cond.selects RX11 yX11_isGoer yX11_isGoer, Cond.code yX11_isGoer cX11_isGoer 2 (some .boolean), Cond.methodLink RX11 153 yX11_placeOf, Cond.instanceMethod yX11_placeOf, Cond.selects RX11 yX11_placeOf yX11_placeOf, Cond.code yX11_placeOf cX11_placeOf 7 (some .long), Cond.methodLink RX11 143 yX11_outBy, Cond.instanceMethod yX11_outBy, Cond.selects RX11 yX11_outBy yX11_outBy, Cond.code yX11_outBy cX11_outBy 3 (some .int), Cond.methodLink RX11 146 yX11_part, Cond.static yX11_part]
def wsL_law_r19 : List Cond := [Cond.code yX11_part cX11_part 11 (some .long), Cond.methodLink RX11 157 yX11_no, Cond.static yX11_no, Cond.code yX11_no cX11_no 1 (some .long), Cond.constantLong RX11 60 (-9223372036854775808), Cond.methodLink RL 52 yX10_safe, Cond.instanceMethod yX10_safe, Cond.selects RX10 yX10_safe yX10_safe, Cond.code yX10_safe cX10_safe 3 (some .long), Cond.methodLink RX10 168 yX3_leastBurn, Cond.instanceMethod yX3_leastBurn, Cond.selects RX3 yX3_leastBurn yX3_leastBurn, Cond.code yX3_leastBurn cX3_leastBurn 3 (some .int), Cond.methodLink RX3 22 Lib.Math.min.name, Cond.methodLink RX3 19 yX3_burns, Cond.methodLink RX10 171 yX3_toALight, Cond.instanceMethod yX3_toALight, Cond.selects RX3 yX3_toALight yX3_toALight, Cond.code yX3_toALight cX3_toALight 2 (some .int), Cond.methodLink RL 55 yX11_safe, Cond.instanceMethod yX11_safe, Cond.selects RX11 yX11_safe yX11_safe, Cond.code yX11_safe cX11_safe 3 (some .long), Cond.methodLink RX11 167 yX11_mayFail]
def wsL_law_r20 : List Cond := [Cond.instanceMethod yX11_mayFail, Cond.selects RX11 yX11_mayFail yX11_mayFail, Cond.code yX11_mayFail cX11_mayFail 2 (some .boolean), Cond.methodLink RX11 170 yX11_safeOf, Cond.instanceMethod yX11_safeOf, Cond.selects RX11 yX11_safeOf yX11_safeOf, Cond.code yX11_safeOf cX11_safeOf 3 (some .long), Cond.methodLink RX11 161 yX11_leastLamp, Cond.instanceMethod yX11_leastLamp, Cond.selects RX11 yX11_leastLamp yX11_leastLamp, Cond.code yX11_leastLamp cX11_leastLamp 3 (some .int), Cond.methodLink RX11 140 yX11_lesser, Cond.static yX11_lesser, Cond.code yX11_lesser cX11_lesser 2 (some .int), Cond.methodLink RX11 164 yX11_toLight, Cond.instanceMethod yX11_toLight, Cond.selects RX11 yX11_toLight yX11_toLight, Cond.code yX11_toLight cX11_toLight 2 (some .int), Cond.methodLink RL 56 yX10_rule, Cond.instanceMethod yX10_rule, Cond.selects RX10 yX10_rule yX10_rule, Cond.code yX10_rule cX10_rule 5 (some .long), Cond.methodLink RX10 174 yX1_isOutWithin, Cond.instanceMethod yX1_isOutWithin]
def wsL_law_r21 : List Cond := [Cond.selects RX1 yX1_isOutWithin yX1_isOutWithin, Cond.code yX1_isOutWithin cX1_isOutWithin 10 (some .boolean), Cond.methodLink RX1 59 yX2_term, Cond.methodLink RL 60 yX11_rule, Cond.instanceMethod yX11_rule, Cond.selects RX11 yX11_rule yX11_rule, Cond.code yX11_rule cX11_rule 4 (some .long), Cond.constantLong RX11 75 (2), Cond.methodLink RX11 174 yX11_ruleOf, Cond.instanceMethod yX11_ruleOf, Cond.selects RX11 yX11_ruleOf yX11_ruleOf, Cond.code yX11_ruleOf cX11_ruleOf 12 (some .long), Cond.methodLink RL 61 yX10_point, Cond.instanceMethod yX10_point, Cond.selects RX10 yX10_point yX10_point, Cond.code yX10_point cX10_point 2 (some .long), Cond.methodLink RX10 178 yX1_allIn, Cond.instanceMethod yX1_allIn, Cond.selects RX1 yX1_allIn yX1_allIn, Cond.code yX1_allIn cX1_allIn 1 (some .int), Cond.methodLink RX1 37 yX1_sum, Cond.instanceMethod yX1_sum, Cond.selects RX1 yX1_sum yX1_sum, Cond.code yX1_sum cX1_sum 5 (some .int)]
def wsL_law_r22 : List Cond := [Cond.methodLink RL 65 yX11_point, Cond.instanceMethod yX11_point, Cond.selects RX11 yX11_point yX11_point, Cond.code yX11_point cX11_point 2 (some .long), Cond.methodLink RX11 180 yX11_pointOf, Cond.instanceMethod yX11_pointOf, Cond.selects RX11 yX11_pointOf yX11_pointOf, Cond.code yX11_pointOf cX11_pointOf 6 (some .long), Cond.methodLink RX11 177 yX11_inAll, Cond.instanceMethod yX11_inAll, Cond.selects RX11 yX11_inAll yX11_inAll, Cond.code yX11_inAll cX11_inAll 3 (some .int), Cond.methodLink RL 66 yX10_judged, Cond.instanceMethod yX10_judged, Cond.selects RX10 yX10_judged yX10_judged, Cond.code yX10_judged cX10_judged 1 (some .int), Cond.methodLink RX10 181 yX4_size, Cond.instanceMethod yX4_size, Cond.selects RX4 yX4_size yX4_size, Cond.code yX4_size cX4_size 1 (some .int), Cond.methodLink RX10 182 yX9_run, Cond.instanceMethod yX9_run, Cond.selects RX9 yX9_run yX9_run, Cond.code yX9_run cX9_run 7 none]
def wsL_law_r23 : List Cond := [Cond.methodLink RX9 36 yX9_begin, Cond.instanceMethod yX9_begin, Cond.selects RX9 yX9_begin yX9_begin, Cond.code yX9_begin cX9_begin 3 none, Cond.methodLink RX9 54 yX3_burns, Cond.methodLink RX9 59 yX3_party, Cond.methodLink RX9 40 yX7_at, Cond.methodLink RX9 46 yX9_putOut, Cond.instanceMethod yX9_putOut, Cond.selects RX9 yX9_putOut yX9_putOut, Cond.code yX9_putOut cX9_putOut 2 none, Cond.methodLink RX9 50 yX9_step, Cond.instanceMethod yX9_step, Cond.selects RX9 yX9_step yX9_step, Cond.code yX9_step cX9_step 7 (some .boolean), Cond.methodLink RX9 63 yX1_size, Cond.methodLink RX9 68 yX9_unlitMinutes, Cond.static yX9_unlitMinutes, Cond.code yX9_unlitMinutes cX9_unlitMinutes 3 (some .int), Cond.methodLink RX9 79 yX1_figure, Cond.methodLink RX9 83 yX1_inMinutes, Cond.methodLink RX9 86 yX1_outMinutes, Cond.methodLink RX9 72 yX9_litMinutes, Cond.instanceMethod yX9_litMinutes]
def wsL_law_r24 : List Cond := [Cond.selects RX9 yX9_litMinutes yX9_litMinutes, Cond.code yX9_litMinutes cX9_litMinutes 9 (some .int), Cond.methodLink RX9 89 yX9_going, Cond.instanceMethod yX9_going, Cond.selects RX9 yX9_going yX9_going, Cond.code yX9_going cX9_going 3 (some .int), Cond.methodLink RX9 92 yX3_toALight, Cond.methodLink RX9 95 yX9_putOutBelow, Cond.instanceMethod yX9_putOutBelow, Cond.selects RX9 yX9_putOutBelow yX9_putOutBelow, Cond.code yX9_putOutBelow cX9_putOutBelow 4 (some .boolean), Cond.methodLink RX9 76 yX9_burn, Cond.instanceMethod yX9_burn, Cond.selects RX9 yX9_burn yX9_burn, Cond.code yX9_burn cX9_burn 3 none, Cond.methodLink RX10 186 yX9_stuckAt, Cond.instanceMethod yX9_stuckAt, Cond.selects RX9 yX9_stuckAt yX9_stuckAt, Cond.code yX9_stuckAt cX9_stuckAt 1 (some .int), Cond.methodLink RL 70 yX11_judged, Cond.instanceMethod yX11_judged, Cond.selects RX11 yX11_judged yX11_judged, Cond.code yX11_judged cX11_judged 1 (some .int), Cond.fieldLink RX11 200 "TurnThirdModel" "firstNot" "I"]
def wsL_law_r25 : List Cond := [Cond.methodLink RX11 210 yX11_plansAll, Cond.instanceMethod yX11_plansAll, Cond.selects RX11 yX11_plansAll yX11_plansAll, Cond.code yX11_plansAll cX11_plansAll 1 none, Cond.methodLink RX11 207 yX11_plans, Cond.instanceMethod yX11_plans, Cond.selects RX11 yX11_plans yX11_plans, Cond.code yX11_plans cX11_plans 5 none, Cond.fieldLink RX11 190 "TurnThirdModel" "place" "I", Cond.fieldLink RX11 197 "TurnThirdModel" "minutes" "I", Cond.methodLink RX11 203 yX11_steps, Cond.instanceMethod yX11_steps, Cond.selects RX11 yX11_steps yX11_steps, Cond.code yX11_steps cX11_steps 6 (some .boolean), Cond.methodLink RX11 193 yX11_lights, Cond.instanceMethod yX11_lights, Cond.selects RX11 yX11_lights yX11_lights, Cond.code yX11_lights cX11_lights 7 (some .int), Cond.methodLink RX11 183 yX11_going, Cond.instanceMethod yX11_going, Cond.selects RX11 yX11_going yX11_going, Cond.code yX11_going cX11_going 3 (some .int), Cond.methodLink RX11 186 yX11_fails, Cond.instanceMethod yX11_fails]
def wsL_law_r26 : List Cond := [Cond.selects RX11 yX11_fails yX11_fails, Cond.code yX11_fails cX11_fails 2 none, Cond.methodLink RL 71 yX10_state, Cond.instanceMethod yX10_state, Cond.selects RX10 yX10_state yX10_state, Cond.code yX10_state cX10_state 3 (some .int), Cond.methodLink RX10 189 yX9_depth, Cond.instanceMethod yX9_depth, Cond.selects RX9 yX9_depth yX9_depth, Cond.code yX9_depth cX9_depth 1 (some .int), Cond.methodLink RX10 192 yX9_spent, Cond.instanceMethod yX9_spent, Cond.selects RX9 yX9_spent yX9_spent, Cond.code yX9_spent cX9_spent 1 (some .int), Cond.methodLink RL 74 yX11_state, Cond.instanceMethod yX11_state, Cond.selects RX11 yX11_state yX11_state, Cond.code yX11_state cX11_state 3 (some .int), Cond.methodLink RX11 213 yX11_stateOf, Cond.instanceMethod yX11_stateOf, Cond.selects RX11 yX11_stateOf yX11_stateOf, Cond.code yX11_stateOf cX11_stateOf 3 (some .int), Cond.methodLink RL 75 yX10_left, Cond.instanceMethod yX10_left]
def wsL_law_r27 : List Cond := [Cond.selects RX10 yX10_left yX10_left, Cond.code yX10_left cX10_left 3 (some .int), Cond.methodLink RX10 195 yX9_remains, Cond.instanceMethod yX9_remains, Cond.selects RX9 yX9_remains yX9_remains, Cond.code yX9_remains cX9_remains 2 (some .int), Cond.methodLink RL 78 yX11_left, Cond.instanceMethod yX11_left, Cond.selects RX11 yX11_left yX11_left, Cond.code yX11_left cX11_left 3 (some .int), Cond.methodLink RX11 216 yX11_leftOf, Cond.instanceMethod yX11_leftOf, Cond.selects RX11 yX11_leftOf yX11_leftOf, Cond.code yX11_leftOf cX11_leftOf 3 (some .int), Cond.methodLink RL 79 yX10_home, Cond.instanceMethod yX10_home, Cond.selects RX10 yX10_home yX10_home, Cond.code yX10_home cX10_home 1 (some .int), Cond.methodLink RL 82 yX11_home, Cond.instanceMethod yX11_home, Cond.selects RX11 yX11_home yX11_home, Cond.code yX11_home cX11_home 1 (some .int), Cond.methodLink RX11 219 yX11_homeNow, Cond.instanceMethod yX11_homeNow]
def wsL_law_r28 : List Cond := [Cond.selects RX11 yX11_homeNow yX11_homeNow, Cond.code yX11_homeNow cX11_homeNow 1 (some .int), Cond.methodLink RL 83 yX10_unlit, Cond.instanceMethod yX10_unlit, Cond.selects RX10 yX10_unlit yX10_unlit, Cond.code yX10_unlit cX10_unlit 5 (some .int), Cond.methodLink RX10 198 yX8_search, Cond.instanceMethod yX8_search, Cond.selects RX8 yX8_search yX8_search, Cond.code yX8_search cX8_search 9 none, Cond.methodLink RX8 20 yX1_sum, Cond.methodLink RX8 24 yX8_ropeBits, Cond.static yX8_ropeBits, Cond.code yX8_ropeBits cX8_ropeBits 4 (some .int), Cond.methodLink RX8 32 yX1_figure, Cond.methodLink RX8 28 yX8_minutesOf, Cond.static yX8_minutesOf, Cond.code yX8_minutesOf cX8_minutesOf 5 (some .int), Cond.methodLink RX10 202 yX8_minutes, Cond.instanceMethod yX8_minutes, Cond.selects RX8 yX8_minutes yX8_minutes, Cond.code yX8_minutes cX8_minutes 1 (some .int), Cond.methodLink RX10 205 yX8_bits, Cond.instanceMethod yX8_bits]
def wsL_law_r29 : List Cond := [Cond.selects RX8 yX8_bits yX8_bits, Cond.code yX8_bits cX8_bits 1 (some .int), Cond.methodLink RL 87 yX11_unlit, Cond.instanceMethod yX11_unlit, Cond.selects RX11 yX11_unlit yX11_unlit, Cond.code yX11_unlit cX11_unlit 4 (some .int), Cond.methodLink RX11 226 yX11_findDark, Cond.instanceMethod yX11_findDark, Cond.selects RX11 yX11_findDark yX11_findDark, Cond.code yX11_findDark cX11_findDark 9 none, Cond.methodLink RX11 222 yX11_isIn, Cond.static yX11_isIn, Cond.code yX11_isIn cX11_isIn 2 (some .boolean), Cond.methodLink RL 88 yX10_help, Cond.instanceMethod yX10_help, Cond.selects RX10 yX10_help yX10_help, Cond.code yX10_help cX10_help 4 (some .long), Cond.methodLink RX10 208 yX10_helped, Cond.instanceMethod yX10_helped, Cond.selects RX10 yX10_helped yX10_helped, Cond.code yX10_helped cX10_helped 3 none, Cond.methodLink RX10 227 yX2_set, Cond.methodLink RL 91 yX11_help, Cond.instanceMethod yX11_help]
def wsL_law_r30 : List Cond := [Cond.selects RX11 yX11_help yX11_help, Cond.code yX11_help cX11_help 4 (some .long), Cond.constantLong RX11 230 (6), Cond.methodLink RL 92 yX10_least, Cond.instanceMethod yX10_least, Cond.selects RX10 yX10_least yX10_least, Cond.code yX10_least cX10_least 4 (some .int), Cond.methodLink RL 95 yX11_least, Cond.instanceMethod yX11_least, Cond.selects RX11 yX11_least yX11_least, Cond.code yX11_least cX11_least 3 (some .int), Cond.methodLink RX11 232 yX11_leastOf, Cond.static yX11_leastOf, Cond.code yX11_leastOf cX11_leastOf 3 (some .int), Cond.methodLink RL 96 yX10_side, Cond.instanceMethod yX10_side, Cond.selects RX10 yX10_side yX10_side, Cond.code yX10_side cX10_side 3 (some .int), Cond.methodLink RX10 211 yX6_add, Cond.instanceMethod yX6_add, Cond.selects RX6 yX6_add yX6_add, Cond.code yX6_add cX6_add 3 (some .boolean), Cond.methodLink RX6 25 yX6_allChances, Cond.instanceMethod yX6_allChances]
def wsL_law_r31 : List Cond := [Cond.selects RX6 yX6_allChances yX6_allChances, Cond.code yX6_allChances cX6_allChances 3 (some .int), Cond.methodLink RX6 29 yX6_sort, Cond.instanceMethod yX6_sort, Cond.selects RX6 yX6_sort yX6_sort, Cond.code yX6_sort cX6_sort 3 none, Cond.methodLink RX6 32 yX6_isBetter, Cond.instanceMethod yX6_isBetter, Cond.selects RX6 yX6_isBetter yX6_isBetter, Cond.code yX6_isBetter cX6_isBetter 3 (some .boolean), Cond.methodLink RX10 215 yX6_size, Cond.instanceMethod yX6_size, Cond.selects RX6 yX6_size yX6_size, Cond.code yX6_size cX6_size 1 (some .int), Cond.methodLink RL 99 yX11_side, Cond.instanceMethod yX11_side, Cond.selects RX11 yX11_side yX11_side, Cond.code yX11_side cX11_side 3 (some .int), Cond.constantLong RX11 238 (16), Cond.constantLong RX11 240 (99), Cond.fieldLink RX11 235 "TurnThirdModel" "sides" "I", Cond.methodLink RX11 242 yX11_sixteenths, Cond.instanceMethod yX11_sixteenths, Cond.selects RX11 yX11_sixteenths yX11_sixteenths]
def wsL_law_r32 : List Cond := [Cond.code yX11_sixteenths cX11_sixteenths 3 (some .int), Cond.methodLink RL 100 yX10_gone, Cond.instanceMethod yX10_gone, Cond.selects RX10 yX10_gone yX10_gone, Cond.code yX10_gone cX10_gone 1 (some .int), Cond.methodLink RX10 216 yX6_dropLast, Cond.instanceMethod yX6_dropLast, Cond.selects RX6 yX6_dropLast yX6_dropLast, Cond.code yX6_dropLast cX6_dropLast 1 (some .boolean), Cond.methodLink RL 103 yX11_gone, Cond.instanceMethod yX11_gone, Cond.selects RX11 yX11_gone yX11_gone, Cond.code yX11_gone cX11_gone 1 (some .int), Cond.methodLink RL 104 yX10_first, Cond.instanceMethod yX10_first, Cond.selects RX10 yX10_first yX10_first, Cond.code yX10_first cX10_first 2 (some .int), Cond.methodLink RX10 219 yX6_tried, Cond.instanceMethod yX6_tried, Cond.selects RX6 yX6_tried yX6_tried, Cond.code yX6_tried cX6_tried 2 (some .int), Cond.methodLink RL 107 yX11_first, Cond.instanceMethod yX11_first, Cond.selects RX11 yX11_first yX11_first]
def wsL_law_r33 : List Cond := [Cond.code yX11_first cX11_first 2 (some .int), Cond.constantLong RX11 248 (5), Cond.methodLink RX11 250 yX11_firstOf, Cond.instanceMethod yX11_firstOf, Cond.selects RX11 yX11_firstOf yX11_firstOf, Cond.code yX11_firstOf cX11_firstOf 2 (some .int), Cond.methodLink RX11 245 yX11_findOrder, Cond.instanceMethod yX11_findOrder, Cond.selects RX11 yX11_findOrder yX11_findOrder, Cond.code yX11_findOrder cX11_findOrder 6 none, Cond.methodLink RL 108 yX10_mean, Cond.instanceMethod yX10_mean, Cond.selects RX10 yX10_mean yX10_mean, Cond.code yX10_mean cX10_mean 2 (some .long), Cond.constantLong RX10 225 (16), Cond.methodLink RX10 222 yX6_meanSixteenths, Cond.instanceMethod yX6_meanSixteenths, Cond.selects RX6 yX6_meanSixteenths yX6_meanSixteenths, Cond.code yX6_meanSixteenths cX6_meanSixteenths 5 (some .int), Cond.methodLink RL 111 yX11_mean, Cond.instanceMethod yX11_mean, Cond.selects RX11 yX11_mean yX11_mean, Cond.code yX11_mean cX11_mean 2 (some .long), Cond.methodLink RX11 253 yX11_meanOf]
def wsL_law_r34 : List Cond := [Cond.instanceMethod yX11_meanOf, Cond.selects RX11 yX11_meanOf yX11_meanOf, Cond.code yX11_meanOf cX11_meanOf 6 (some .long), Cond.methodLink RL 112 yX10_can, Cond.instanceMethod yX10_can, Cond.selects RX10 yX10_can yX10_can, Cond.code yX10_can cX10_can 6 (some .int), Cond.methodLink RX10 231 yX0_add, Cond.instanceMethod yX0_add, Cond.selects RX0 yX0_add yX0_add, Cond.code yX0_add cX0_add 5 (some .boolean), Cond.methodLink RX10 234 yX0_size, Cond.instanceMethod yX0_size, Cond.selects RX0 yX0_size yX0_size, Cond.code yX0_size cX0_size 1 (some .int), Cond.methodLink RL 116 yX11_can, Cond.instanceMethod yX11_can, Cond.selects RX11 yX11_can yX11_can, Cond.code yX11_can cX11_can 5 (some .int), Cond.fieldLink RX11 256 "TurnThirdModel" "cans" "I", Cond.methodLink RL 117 yX10_forget, Cond.instanceMethod yX10_forget, Cond.selects RX10 yX10_forget yX10_forget, Cond.code yX10_forget cX10_forget 2 (some .int)]
def wsL_law_r35 : List Cond := [Cond.methodLink RX10 235 yX0_clear, Cond.instanceMethod yX0_clear, Cond.selects RX0 yX0_clear yX0_clear, Cond.code yX0_clear cX0_clear 1 none, Cond.methodLink RL 120 yX11_forget, Cond.instanceMethod yX11_forget, Cond.selects RX11 yX11_forget yX11_forget, Cond.code yX11_forget cX11_forget 2 (some .int), Cond.methodLink RL 121 yX10_turned, Cond.instanceMethod yX10_turned, Cond.selects RX10 yX10_turned yX10_turned, Cond.code yX10_turned cX10_turned 3 (some .int), Cond.methodLink RX10 236 yX0_allow, Cond.instanceMethod yX0_allow, Cond.selects RX0 yX0_allow yX0_allow, Cond.code yX0_allow cX0_allow 5 (some .boolean), Cond.methodLink RX0 26 yX3_burns, Cond.methodLink RX0 32 yX0_minutesTill, Cond.instanceMethod yX0_minutesTill, Cond.selects RX0 yX0_minutesTill yX0_minutesTill, Cond.code yX0_minutesTill cX0_minutesTill 5 (some .int), Cond.methodLink RX0 38 yX1_sum, Cond.methodLink RL 124 yX11_turned, Cond.instanceMethod yX11_turned]
def wsL_law_r36 : List Cond := [Cond.selects RX11 yX11_turned yX11_turned, Cond.code yX11_turned cX11_turned 1 (some .int), Cond.methodLink RX11 265 yX11_turnedNow, Cond.instanceMethod yX11_turnedNow, Cond.selects RX11 yX11_turnedNow yX11_turnedNow, Cond.code yX11_turnedNow cX11_turnedNow 5 (some .int), Cond.methodLink RX11 262 yX11_isSo, Cond.instanceMethod yX11_isSo, Cond.selects RX11 yX11_isSo yX11_isSo, Cond.code yX11_isSo cX11_isSo 6 (some .boolean), Cond.methodLink RX11 259 yX11_between, Cond.instanceMethod yX11_between, Cond.selects RX11 yX11_between yX11_between, Cond.code yX11_between cX11_between 6 (some .int), Cond.methodLink RL 125 yX10_sheet, Cond.instanceMethod yX10_sheet, Cond.selects RX10 yX10_sheet yX10_sheet, Cond.code yX10_sheet cX10_sheet 4 (some .int), Cond.methodLink RX10 240 yX5_isForm, Cond.static yX5_isForm, Cond.code yX5_isForm cX5_isForm 1 (some .boolean), Cond.methodLink RX10 243 yX5_make, Cond.instanceMethod yX5_make, Cond.selects RX5 yX5_make yX5_make]
def wsL_law_r37 : List Cond := [Cond.code yX5_make cX5_make 5 none, Cond.methodLink RL 128 yX11_sheet, Cond.instanceMethod yX11_sheet, Cond.selects RX11 yX11_sheet yX11_sheet, Cond.code yX11_sheet cX11_sheet 5 (some .int), Cond.methodLink RL 129 yX10_lose, Cond.instanceMethod yX10_lose, Cond.selects RX10 yX10_lose yX10_lose, Cond.code yX10_lose cX10_lose 3 (some .int), Cond.methodLink RX10 247 yX5_drop, Cond.instanceMethod yX5_drop, Cond.selects RX5 yX5_drop yX5_drop, Cond.code yX5_drop cX5_drop 2 none, Cond.methodLink RL 132 yX11_lose, Cond.instanceMethod yX11_lose, Cond.selects RX11 yX11_lose yX11_lose, Cond.code yX11_lose cX11_lose 2 (some .int), Cond.methodLink RL 133 yX10_lay, Cond.instanceMethod yX10_lay, Cond.selects RX10 yX10_lay yX10_lay, Cond.code yX10_lay cX10_lay 6 (some .int), Cond.methodLink RX10 250 yX5_look, Cond.instanceMethod yX5_look, Cond.selects RX5 yX5_look yX5_look]
def wsL_law_r38 : List Cond := [Cond.code yX5_look cX5_look 4 (some .int), Cond.methodLink RX5 38 yX5_isForm, Cond.methodLink RX5 41 yX5_found, Cond.methodLink RX10 254 yX5_put, Cond.instanceMethod yX5_put, Cond.selects RX5 yX5_put yX5_put, Cond.code yX5_put cX5_put 4 none, Cond.methodLink RX5 48 yX5_cut, Cond.static yX5_cut, Cond.code yX5_cut cX5_cut 2 (some .int), Cond.methodLink RL 136 yX11_lay, Cond.instanceMethod yX11_lay, Cond.selects RX11 yX11_lay yX11_lay, Cond.code yX11_lay cX11_lay 6 (some .int), Cond.methodLink RX11 81 yX11_lacks, Cond.instanceMethod yX11_lacks, Cond.selects RX11 yX11_lacks yX11_lacks, Cond.code yX11_lacks cX11_lacks 4 (some .int), Cond.methodLink RX11 85 yX11_cut, Cond.static yX11_cut, Cond.code yX11_cut cX11_cut 2 (some .int), Cond.methodLink RL 137 yX10_get, Cond.instanceMethod yX10_get, Cond.selects RX10 yX10_get yX10_get]
def wsL_law_r39 : List Cond := [Cond.code yX10_get cX10_get 4 (some .int), Cond.constant RX10 257 (-2147483648), Cond.methodLink RL 140 yX11_get, Cond.instanceMethod yX11_get, Cond.selects RX11 yX11_get yX11_get, Cond.code yX11_get cX11_get 4 (some .int), Cond.constant RX11 89 (-2147483648), Cond.methodLink RL 141 yX10_copy, Cond.instanceMethod yX10_copy, Cond.selects RX10 yX10_copy yX10_copy, Cond.code yX10_copy cX10_copy 6 (some .int), Cond.methodLink RX10 258 yX5_alike, Cond.instanceMethod yX5_alike, Cond.selects RX5 yX5_alike yX5_alike, Cond.code yX5_alike cX5_alike 3 (some .boolean), Cond.methodLink RX10 261 yX5_holds, Cond.methodLink RX10 264 yX5_move, Cond.instanceMethod yX5_move, Cond.selects RX5 yX5_move yX5_move, Cond.code yX5_move cX5_move 6 none, Cond.methodLink RX5 52 arraycopyName, Cond.native arraycopyName, Cond.static arraycopyName, Cond.initialized "java/lang/System"]
def wsL_law_r40 : List Cond := [Cond.methodLink RL 145 yX11_copy, Cond.instanceMethod yX11_copy, Cond.selects RX11 yX11_copy yX11_copy, Cond.code yX11_copy cX11_copy 7 (some .int), Cond.methodLink RL 146 yX10_write, Cond.instanceMethod yX10_write, Cond.selects RX10 yX10_write yX10_write, Cond.code yX10_write cX10_write 4 (some .int), Cond.methodLink RL 149 yX11_write, Cond.instanceMethod yX11_write, Cond.selects RX11 yX11_write yX11_write, Cond.code yX11_write cX11_write 4 (some .int), Cond.methodLink RL 150 yX10_count, Cond.instanceMethod yX10_count, Cond.selects RX10 yX10_count yX10_count, Cond.code yX10_count cX10_count 2 (some .int), Cond.methodLink RX10 268 yX5_latestFinding, Cond.instanceMethod yX5_latestFinding, Cond.selects RX5 yX5_latestFinding yX5_latestFinding, Cond.code yX5_latestFinding cX5_latestFinding 1 (some .int), Cond.methodLink RL 153 yX11_count, Cond.instanceMethod yX11_count, Cond.selects RX11 yX11_count yX11_count, Cond.code yX11_count cX11_count 2 (some .int)]
def wsL_law_r41 : List Cond := [Cond.methodLink RL 154 yX10_digest, Cond.instanceMethod yX10_digest, Cond.selects RX10 yX10_digest yX10_digest, Cond.code yX10_digest cX10_digest 5 (some .long), Cond.constantLong RX10 271 (17), Cond.methodLink RX10 273 yX10_count, Cond.methodLink RX10 276 yX10_mix, Cond.static yX10_mix, Cond.code yX10_mix cX10_mix 4 (some .long), Cond.constantLong RX10 334 (31), Cond.methodLink RX10 280 yX10_fault, Cond.methodLink RX10 283 yX10_part, Cond.methodLink RX10 286 yX10_mixGoers, Cond.instanceMethod yX10_mixGoers, Cond.selects RX10 yX10_mixGoers yX10_mixGoers, Cond.code yX10_mixGoers cX10_mixGoers 6 (some .long), Cond.methodLink RX10 321 yX10_far, Cond.methodLink RX10 325 yX10_unlit, Cond.methodLink RX10 290 yX10_mixFailures, Cond.instanceMethod yX10_mixFailures, Cond.selects RX10 yX10_mixFailures yX10_mixFailures, Cond.code yX10_mixFailures cX10_mixFailures 7 (some .long), Cond.methodLink RX10 328 yX10_safe, Cond.methodLink RX10 331 yX10_rule]
def wsL_law_r42 : List Cond := [Cond.methodLink RX10 293 yX10_point, Cond.methodLink RX10 296 yX10_judged, Cond.methodLink RX10 299 yX10_state, Cond.methodLink RX10 302 yX10_home, Cond.methodLink RX10 305 yX10_help, Cond.methodLink RX10 309 yX10_least, Cond.methodLink RX10 312 yX10_first, Cond.methodLink RX10 315 yX10_mean, Cond.methodLink RX10 318 yX10_turned, Cond.methodLink RL 158 yX11_digest, Cond.instanceMethod yX11_digest, Cond.selects RX11 yX11_digest yX11_digest, Cond.code yX11_digest cX11_digest 5 (some .long), Cond.constantLong RX11 268 (17), Cond.constantLong RX11 270 (31), Cond.methodLink RX11 272 yX11_count, Cond.methodLink RX11 275 yX11_fault, Cond.methodLink RX11 278 yX11_far, Cond.methodLink RX11 281 yX11_unlit, Cond.methodLink RX11 284 yX11_safe, Cond.methodLink RX11 287 yX11_rule, Cond.methodLink RX11 290 yX11_judged, Cond.methodLink RX11 293 yX11_help]
def wsL_law : List Cond := (wsL_law_r1 ++ (wsL_law_r2 ++ (wsL_law_r3 ++ (wsL_law_r4 ++ (wsL_law_r5 ++ (wsL_law_r6 ++ (wsL_law_r7 ++ (wsL_law_r8 ++ (wsL_law_r9 ++ (wsL_law_r10 ++ (wsL_law_r11 ++ (wsL_law_r12 ++ (wsL_law_r13 ++ (wsL_law_r14 ++ (wsL_law_r15 ++ (wsL_law_r16 ++ (wsL_law_r17 ++ (wsL_law_r18 ++ (wsL_law_r19 ++ (wsL_law_r20 ++ (wsL_law_r21 ++ (wsL_law_r22 ++ (wsL_law_r23 ++ (wsL_law_r24 ++ (wsL_law_r25 ++ (wsL_law_r26 ++ (wsL_law_r27 ++ (wsL_law_r28 ++ (wsL_law_r29 ++ (wsL_law_r30 ++ (wsL_law_r31 ++ (wsL_law_r32 ++ (wsL_law_r33 ++ (wsL_law_r34 ++ (wsL_law_r35 ++ (wsL_law_r36 ++ (wsL_law_r37 ++ (wsL_law_r38 ++ (wsL_law_r39 ++ (wsL_law_r40 ++ (wsL_law_r41 ++ wsL_law_r42))))))))))))))))))))))))))))))))))))))))) ++ wsX100 ++ wsX110 ++ wsX70 ++ wsX10 ++ wsX40 ++ wsX30 ++ wsX90 ++ wsX80 ++ wsX60 ++ wsX00 ++ wsX50 ++ wsX20 ++ ([] : List Cond)
theorem in_pl {ws big : List Cond} (ps : List Nat) (h : ws = ps.filterMap (fun i => big[i]?)) : ∀ w ∈ ws, w ∈ big := by
  intro w hw
  rw [h] at hw
  obtain ⟨i, -, hi⟩ := List.mem_filterMap.mp hw
  exact List.mem_of_getElem? hi
theorem rin_1 : ∀ w ∈ wsL_law_r1, w ∈ lw_tbl := in_pl [69, 70, 55, 809, 810, 67, 71, 72, 73, 74, 75, 76, 77, 78, 56, 254, 255, 94, 95, 58, 256, 112, 113, 59] (by decide +kernel)
theorem rin_2 : ∀ w ∈ wsL_law_r2, w ∈ lw_tbl := in_pl [257, 125, 126, 60, 258, 138, 139, 61, 259, 167, 168, 62, 260, 180, 181, 63, 261, 199, 200, 64, 262, 221, 222, 65] (by decide +kernel)
theorem rin_3 : ∀ w ∈ wsL_law_r3, w ∈ lw_tbl := in_pl [263, 241, 242, 66, 264, 79, 80, 81, 82, 87, 83, 84, 57, 85, 93, 86, 97, 98, 99, 100, 102, 103, 104, 115] (by decide +kernel)
theorem rin_4 : ∀ w ∈ wsL_law_r4, w ∈ lw_tbl := in_pl [116, 117, 118, 119, 128, 129, 130, 131, 132, 141, 142, 143, 144, 166, 145, 146, 147, 148, 149, 150, 170, 171, 172, 173] (by decide +kernel)
theorem rin_5 : ∀ w ∈ wsL_law_r5, w ∈ lw_tbl := in_pl [174, 183, 184, 185, 186, 187, 188, 189, 202, 203, 204, 205, 206, 207, 208, 209, 224, 225, 226, 227, 228, 229, 230, 231] (by decide +kernel)
theorem rin_6 : ∀ w ∈ wsL_law_r6, w ∈ lw_tbl := in_pl [244, 245, 246, 247, 248, 811, 812, 813, 814, 815, 816, 817, 818, 820, 821, 824, 825, 828, 832, 833, 834, 836, 837, 839] (by decide +kernel)
theorem rin_7 : ∀ w ∈ wsL_law_r7, w ∈ lw_tbl := in_pl [827, 288, 289, 290, 291, 292, 294, 0, 295, 296, 297, 298, 299, 300, 301, 302, 303, 305, 1, 306, 307, 308, 309, 310] (by decide +kernel)
theorem rin_8 : ∀ w ∈ wsL_law_r8, w ∈ lw_tbl := in_pl [311, 312, 313, 314, 315, 316, 317, 318, 319, 321, 2, 322, 323, 324, 325, 326, 327, 328, 329, 330, 331, 332, 333, 334] (by decide +kernel)
theorem rin_9 : ∀ w ∈ wsL_law_r9, w ∈ lw_tbl := in_pl [335, 931, 932, 933, 934, 938, 935, 936, 937, 899, 900, 901, 336, 337, 338, 339, 340, 341, 342, 343, 939, 940, 941, 942] (by decide +kernel)
theorem rin_10 : ∀ w ∈ wsL_law_r10, w ∈ lw_tbl := in_pl [344, 345, 346, 347, 348, 349, 350, 351, 943, 944, 945, 946, 352, 353, 354, 355, 356, 357, 358, 359, 360, 361, 362, 363] (by decide +kernel)
theorem rin_11 : ∀ w ∈ wsL_law_r11, w ∈ lw_tbl := in_pl [947, 948, 949, 950, 951, 953, 21, 954, 822, 823, 955, 957, 22, 958, 963, 959, 961, 23, 962, 964, 966, 24, 967, 826] (by decide +kernel)
theorem rin_12 : ∀ w ∈ wsL_law_r12, w ∈ lw_tbl := in_pl [971, 972, 968, 969, 970, 364, 365, 366, 367, 368, 369, 370, 371, 372, 373, 374, 375, 973, 974, 975, 976, 898, 977, 979] (by decide +kernel)
theorem rin_13 : ∀ w ∈ wsL_law_r13, w ∈ lw_tbl := in_pl [25, 980, 981, 983, 26, 984, 376, 377, 378, 379, 380, 381, 382, 383, 384, 385, 386, 387, 985, 986, 987, 988, 989, 388] (by decide +kernel)
theorem rin_14 : ∀ w ∈ wsL_law_r14, w ∈ lw_tbl := in_pl [389, 390, 391, 392, 393, 394, 395, 396, 397, 398, 399, 990, 991, 992, 993, 994, 400, 401, 402, 403, 421, 422, 423, 404] (by decide +kernel)
theorem rin_15 : ∀ w ∈ wsL_law_r15, w ∈ lw_tbl := in_pl [405, 406, 407, 408, 409, 410, 411, 412, 413, 414, 415, 416, 417, 418, 419, 420, 424, 425, 426, 427, 428, 429, 430, 431] (by decide +kernel)
theorem rin_16 : ∀ w ∈ wsL_law_r16, w ∈ lw_tbl := in_pl [432, 995, 996, 997, 998, 895, 896, 897, 903, 905, 19, 906, 819, 999, 433, 434, 435, 436, 437, 439, 3, 440, 441, 442] (by decide +kernel)
theorem rin_17 : ∀ w ∈ wsL_law_r17, w ∈ lw_tbl := in_pl [443, 444, 445, 446, 447, 448, 449, 451, 4, 452, 453, 454, 455, 456, 457, 458, 459, 460, 461, 462, 463, 464, 465, 466] (by decide +kernel)
theorem rin_18 : ∀ w ∈ wsL_law_r18, w ∈ lw_tbl := in_pl [467, 468, 469, 470, 471, 472, 1000, 1001, 1002, 1003, 1004, 1006, 27, 1007, 1008, 1010, 28, 1011, 1012, 1014, 29, 1015, 1016, 1017] (by decide +kernel)
theorem rin_19 : ∀ w ∈ wsL_law_r19, w ∈ lw_tbl := in_pl [1018, 1019, 1020, 1021, 1022, 473, 474, 475, 476, 477, 478, 479, 480, 482, 481, 483, 484, 485, 486, 1023, 1024, 1025, 1026, 1027] (by decide +kernel)
theorem rin_20 : ∀ w ∈ wsL_law_r20, w ∈ lw_tbl := in_pl [1029, 30, 1030, 1031, 1033, 31, 1034, 1035, 1037, 32, 1038, 1039, 1040, 1041, 1042, 1044, 33, 1045, 487, 488, 489, 490, 491, 492] (by decide +kernel)
theorem rin_21 : ∀ w ∈ wsL_law_r21, w ∈ lw_tbl := in_pl [493, 494, 495, 1046, 1047, 1048, 1049, 902, 1050, 1052, 34, 1053, 496, 497, 498, 499, 500, 501, 502, 503, 504, 505, 506, 507] (by decide +kernel)
theorem rin_22 : ∀ w ∈ wsL_law_r22, w ∈ lw_tbl := in_pl [1054, 1055, 1056, 1057, 1058, 1060, 35, 1061, 1062, 1064, 36, 1065, 508, 509, 510, 511, 512, 513, 514, 515, 516, 517, 518, 519] (by decide +kernel)
theorem rin_23 : ∀ w ∈ wsL_law_r23, w ∈ lw_tbl := in_pl [520, 522, 5, 523, 524, 525, 526, 527, 529, 6, 530, 531, 533, 7, 534, 535, 536, 537, 538, 539, 540, 541, 542, 544] (by decide +kernel)
theorem rin_24 : ∀ w ∈ wsL_law_r24, w ∈ lw_tbl := in_pl [8, 545, 546, 548, 9, 549, 550, 551, 553, 10, 554, 555, 557, 11, 558, 559, 560, 561, 562, 1066, 1067, 1068, 1069, 831] (by decide +kernel)
theorem rin_25 : ∀ w ∈ wsL_law_r25, w ∈ lw_tbl := in_pl [1070, 1072, 37, 1073, 1074, 1076, 38, 1077, 829, 830, 1078, 1080, 39, 1081, 1082, 1084, 40, 1085, 1086, 1088, 41, 1089, 1090, 1092] (by decide +kernel)
theorem rin_26 : ∀ w ∈ wsL_law_r26, w ∈ lw_tbl := in_pl [42, 1093, 563, 564, 565, 566, 567, 568, 569, 570, 571, 572, 573, 574, 1094, 1095, 1096, 1097, 1098, 1100, 43, 1101, 575, 576] (by decide +kernel)
theorem rin_27 : ∀ w ∈ wsL_law_r27, w ∈ lw_tbl := in_pl [577, 578, 579, 580, 581, 582, 1102, 1103, 1104, 1105, 1106, 1108, 44, 1109, 583, 584, 585, 586, 1110, 1111, 1112, 1113, 1114, 1116] (by decide +kernel)
theorem rin_28 : ∀ w ∈ wsL_law_r28, w ∈ lw_tbl := in_pl [45, 1117, 587, 588, 589, 590, 591, 592, 593, 594, 595, 596, 597, 598, 599, 600, 601, 602, 603, 604, 605, 606, 607, 608] (by decide +kernel)
theorem rin_29 : ∀ w ∈ wsL_law_r29, w ∈ lw_tbl := in_pl [609, 610, 1118, 1119, 1120, 1121, 1122, 1124, 46, 1125, 1126, 1127, 1128, 611, 612, 613, 614, 615, 617, 12, 618, 619, 1129, 1130] (by decide +kernel)
theorem rin_30 : ∀ w ∈ wsL_law_r30, w ∈ lw_tbl := in_pl [1131, 1132, 1133, 620, 621, 622, 623, 1134, 1135, 1136, 1137, 1138, 1139, 1140, 624, 625, 626, 627, 628, 629, 630, 631, 632, 634] (by decide +kernel)
theorem rin_31 : ∀ w ∈ wsL_law_r31, w ∈ lw_tbl := in_pl [13, 635, 636, 638, 14, 639, 640, 642, 15, 643, 644, 645, 646, 647, 1141, 1142, 1143, 1144, 1145, 1146, 835, 1147, 1149, 47] (by decide +kernel)
theorem rin_32 : ∀ w ∈ wsL_law_r32, w ∈ lw_tbl := in_pl [1150, 648, 649, 650, 651, 652, 653, 654, 655, 1151, 1152, 1153, 1154, 656, 657, 658, 659, 660, 661, 662, 663, 1155, 1156, 1157] (by decide +kernel)
theorem rin_33 : ∀ w ∈ wsL_law_r33, w ∈ lw_tbl := in_pl [1158, 1159, 1160, 1162, 48, 1163, 1164, 1166, 49, 1167, 664, 665, 666, 667, 672, 668, 669, 670, 671, 1168, 1169, 1170, 1171, 1172] (by decide +kernel)
theorem rin_34 : ∀ w ∈ wsL_law_r34, w ∈ lw_tbl := in_pl [1174, 50, 1175, 673, 674, 675, 676, 677, 678, 679, 680, 681, 682, 683, 684, 1176, 1177, 1178, 1179, 838, 685, 686, 687, 688] (by decide +kernel)
theorem rin_35 : ∀ w ∈ wsL_law_r35, w ∈ lw_tbl := in_pl [689, 690, 691, 692, 1180, 1181, 1182, 1183, 693, 694, 695, 696, 697, 698, 699, 700, 701, 702, 704, 16, 705, 706, 1184, 1185] (by decide +kernel)
theorem rin_36 : ∀ w ∈ wsL_law_r36, w ∈ lw_tbl := in_pl [1186, 1187, 1188, 1190, 51, 1191, 1192, 1194, 52, 1195, 1196, 1198, 53, 1199, 707, 708, 709, 710, 711, 712, 713, 714, 715, 716] (by decide +kernel)
theorem rin_37 : ∀ w ∈ wsL_law_r37, w ∈ lw_tbl := in_pl [717, 891, 892, 893, 894, 718, 719, 720, 721, 722, 723, 724, 725, 907, 908, 909, 910, 726, 727, 728, 729, 730, 731, 732] (by decide +kernel)
theorem rin_38 : ∀ w ∈ wsL_law_r38, w ∈ lw_tbl := in_pl [733, 734, 735, 736, 737, 738, 739, 740, 741, 742, 911, 912, 913, 914, 915, 917, 20, 918, 919, 920, 921, 743, 744, 745] (by decide +kernel)
theorem rin_39 : ∀ w ∈ wsL_law_r39, w ∈ lw_tbl := in_pl [746, 747, 922, 923, 924, 925, 926, 748, 749, 750, 751, 752, 753, 754, 755, 756, 757, 758, 759, 760, 761, 763, 762, 68] (by decide +kernel)
theorem rin_40 : ∀ w ∈ wsL_law_r40, w ∈ lw_tbl := in_pl [927, 928, 929, 930, 764, 765, 766, 767, 1200, 1201, 1202, 1203, 768, 769, 770, 771, 772, 773, 774, 775, 1204, 1205, 1206, 1207] (by decide +kernel)
theorem rin_41 : ∀ w ∈ wsL_law_r41, w ∈ lw_tbl := in_pl [776, 777, 778, 779, 780, 781, 782, 783, 784, 785, 786, 787, 788, 790, 17, 791, 792, 793, 794, 796, 18, 797, 798, 799] (by decide +kernel)
theorem rin_42 : ∀ w ∈ wsL_law_r42, w ∈ lw_tbl := in_pl [800, 801, 802, 803, 804, 805, 806, 807, 808, 1208, 1209, 1210, 1211, 1212, 1213, 1214, 1215, 1216, 1217, 1218, 1219, 1220, 1221] (by decide +kernel)
theorem fin_10 : ∀ w ∈ wsX100, w ∈ lw_tbl := in_pl [265, 267, 269, 271, 273, 275, 277, 279, 281, 283, 285] (by decide +kernel)
theorem fin_11 : ∀ w ∈ wsX110, w ∈ lw_tbl := in_pl [840, 842, 844, 846, 848, 850, 852, 854, 856, 858, 860, 862, 864, 866, 868, 870, 872, 874, 876, 878, 880, 882, 884, 886, 888] (by decide +kernel)
theorem fin_7 : ∀ w ∈ wsX70, w ∈ lw_tbl := in_pl [88, 90] (by decide +kernel)
theorem fin_1 : ∀ w ∈ wsX10, w ∈ lw_tbl := in_pl [105, 107, 109] (by decide +kernel)
theorem fin_4 : ∀ w ∈ wsX40, w ∈ lw_tbl := in_pl [120, 122] (by decide +kernel)
theorem fin_3 : ∀ w ∈ wsX30, w ∈ lw_tbl := in_pl [133, 135] (by decide +kernel)
theorem fin_9 : ∀ w ∈ wsX90, w ∈ lw_tbl := in_pl [151, 153, 155, 157, 159, 161, 163] (by decide +kernel)
theorem fin_8 : ∀ w ∈ wsX80, w ∈ lw_tbl := in_pl [175, 177] (by decide +kernel)
theorem fin_6 : ∀ w ∈ wsX60, w ∈ lw_tbl := in_pl [190, 192, 194, 196] (by decide +kernel)
theorem fin_0 : ∀ w ∈ wsX00, w ∈ lw_tbl := in_pl [210, 212, 214, 216, 218] (by decide +kernel)
theorem fin_5 : ∀ w ∈ wsX50, w ∈ lw_tbl := in_pl [232, 234, 236, 238] (by decide +kernel)
theorem fin_2 : ∀ w ∈ wsX20, w ∈ lw_tbl := in_pl [249, 251] (by decide +kernel)
theorem wsL_law_in : ∀ w ∈ wsL_law, w ∈ lw_tbl := List.forall_mem_append.mpr ⟨List.forall_mem_append.mpr ⟨List.forall_mem_append.mpr ⟨List.forall_mem_append.mpr ⟨List.forall_mem_append.mpr ⟨List.forall_mem_append.mpr ⟨List.forall_mem_append.mpr ⟨List.forall_mem_append.mpr ⟨List.forall_mem_append.mpr ⟨List.forall_mem_append.mpr ⟨List.forall_mem_append.mpr ⟨List.forall_mem_append.mpr ⟨List.forall_mem_append.mpr ⟨List.forall_mem_append.mpr ⟨rin_1, List.forall_mem_append.mpr ⟨rin_2, List.forall_mem_append.mpr ⟨rin_3, List.forall_mem_append.mpr ⟨rin_4, List.forall_mem_append.mpr ⟨rin_5, List.forall_mem_append.mpr ⟨rin_6, List.forall_mem_append.mpr ⟨rin_7, List.forall_mem_append.mpr ⟨rin_8, List.forall_mem_append.mpr ⟨rin_9, List.forall_mem_append.mpr ⟨rin_10, List.forall_mem_append.mpr ⟨rin_11, List.forall_mem_append.mpr ⟨rin_12, List.forall_mem_append.mpr ⟨rin_13, List.forall_mem_append.mpr ⟨rin_14, List.forall_mem_append.mpr ⟨rin_15, List.forall_mem_append.mpr ⟨rin_16, List.forall_mem_append.mpr ⟨rin_17, List.forall_mem_append.mpr ⟨rin_18, List.forall_mem_append.mpr ⟨rin_19, List.forall_mem_append.mpr ⟨rin_20, List.forall_mem_append.mpr ⟨rin_21, List.forall_mem_append.mpr ⟨rin_22, List.forall_mem_append.mpr ⟨rin_23, List.forall_mem_append.mpr ⟨rin_24, List.forall_mem_append.mpr ⟨rin_25, List.forall_mem_append.mpr ⟨rin_26, List.forall_mem_append.mpr ⟨rin_27, List.forall_mem_append.mpr ⟨rin_28, List.forall_mem_append.mpr ⟨rin_29, List.forall_mem_append.mpr ⟨rin_30, List.forall_mem_append.mpr ⟨rin_31, List.forall_mem_append.mpr ⟨rin_32, List.forall_mem_append.mpr ⟨rin_33, List.forall_mem_append.mpr ⟨rin_34, List.forall_mem_append.mpr ⟨rin_35, List.forall_mem_append.mpr ⟨rin_36, List.forall_mem_append.mpr ⟨rin_37, List.forall_mem_append.mpr ⟨rin_38, List.forall_mem_append.mpr ⟨rin_39, List.forall_mem_append.mpr ⟨rin_40, List.forall_mem_append.mpr ⟨rin_41, rin_42⟩⟩⟩⟩⟩⟩⟩⟩⟩⟩⟩⟩⟩⟩⟩⟩⟩⟩⟩⟩⟩⟩⟩⟩⟩⟩⟩⟩⟩⟩⟩⟩⟩⟩⟩⟩⟩⟩⟩⟩⟩, fin_10⟩, fin_11⟩, fin_7⟩, fin_1⟩, fin_4⟩, fin_3⟩, fin_9⟩, fin_8⟩, fin_6⟩, fin_0⟩, fin_5⟩, fin_2⟩, fun _ h => absurd h List.not_mem_nil⟩
theorem rgd_1 : wsL_law_r1.all goodWord = true := by decide +kernel
theorem rgd_2 : wsL_law_r2.all goodWord = true := by decide +kernel
theorem rgd_3 : wsL_law_r3.all goodWord = true := by decide +kernel
theorem rgd_4 : wsL_law_r4.all goodWord = true := by decide +kernel
theorem rgd_5 : wsL_law_r5.all goodWord = true := by decide +kernel
theorem rgd_6 : wsL_law_r6.all goodWord = true := by decide +kernel
theorem rgd_7 : wsL_law_r7.all goodWord = true := by decide +kernel
theorem rgd_8 : wsL_law_r8.all goodWord = true := by decide +kernel
theorem rgd_9 : wsL_law_r9.all goodWord = true := by decide +kernel
theorem rgd_10 : wsL_law_r10.all goodWord = true := by decide +kernel
theorem rgd_11 : wsL_law_r11.all goodWord = true := by decide +kernel
theorem rgd_12 : wsL_law_r12.all goodWord = true := by decide +kernel
theorem rgd_13 : wsL_law_r13.all goodWord = true := by decide +kernel
theorem rgd_14 : wsL_law_r14.all goodWord = true := by decide +kernel
theorem rgd_15 : wsL_law_r15.all goodWord = true := by decide +kernel
theorem rgd_16 : wsL_law_r16.all goodWord = true := by decide +kernel
theorem rgd_17 : wsL_law_r17.all goodWord = true := by decide +kernel
theorem rgd_18 : wsL_law_r18.all goodWord = true := by decide +kernel
theorem rgd_19 : wsL_law_r19.all goodWord = true := by decide +kernel
theorem rgd_20 : wsL_law_r20.all goodWord = true := by decide +kernel
theorem rgd_21 : wsL_law_r21.all goodWord = true := by decide +kernel
theorem rgd_22 : wsL_law_r22.all goodWord = true := by decide +kernel
theorem rgd_23 : wsL_law_r23.all goodWord = true := by decide +kernel
theorem rgd_24 : wsL_law_r24.all goodWord = true := by decide +kernel
theorem rgd_25 : wsL_law_r25.all goodWord = true := by decide +kernel
theorem rgd_26 : wsL_law_r26.all goodWord = true := by decide +kernel
theorem rgd_27 : wsL_law_r27.all goodWord = true := by decide +kernel
theorem rgd_28 : wsL_law_r28.all goodWord = true := by decide +kernel
theorem rgd_29 : wsL_law_r29.all goodWord = true := by decide +kernel
theorem rgd_30 : wsL_law_r30.all goodWord = true := by decide +kernel
theorem rgd_31 : wsL_law_r31.all goodWord = true := by decide +kernel
theorem rgd_32 : wsL_law_r32.all goodWord = true := by decide +kernel
theorem rgd_33 : wsL_law_r33.all goodWord = true := by decide +kernel
theorem rgd_34 : wsL_law_r34.all goodWord = true := by decide +kernel
theorem rgd_35 : wsL_law_r35.all goodWord = true := by decide +kernel
theorem rgd_36 : wsL_law_r36.all goodWord = true := by decide +kernel
theorem rgd_37 : wsL_law_r37.all goodWord = true := by decide +kernel
theorem rgd_38 : wsL_law_r38.all goodWord = true := by decide +kernel
theorem rgd_39 : wsL_law_r39.all goodWord = true := by decide +kernel
theorem rgd_40 : wsL_law_r40.all goodWord = true := by decide +kernel
theorem rgd_41 : wsL_law_r41.all goodWord = true := by decide +kernel
theorem rgd_42 : wsL_law_r42.all goodWord = true := by decide +kernel
theorem fgd_10 : wsX100.all goodWord = true := by decide +kernel
theorem fgd_11 : wsX110.all goodWord = true := by decide +kernel
theorem fgd_7 : wsX70.all goodWord = true := by decide +kernel
theorem fgd_1 : wsX10.all goodWord = true := by decide +kernel
theorem fgd_4 : wsX40.all goodWord = true := by decide +kernel
theorem fgd_3 : wsX30.all goodWord = true := by decide +kernel
theorem fgd_9 : wsX90.all goodWord = true := by decide +kernel
theorem fgd_8 : wsX80.all goodWord = true := by decide +kernel
theorem fgd_6 : wsX60.all goodWord = true := by decide +kernel
theorem fgd_0 : wsX00.all goodWord = true := by decide +kernel
theorem fgd_5 : wsX50.all goodWord = true := by decide +kernel
theorem fgd_2 : wsX20.all goodWord = true := by decide +kernel
theorem all_app {a b : List Cond} (ha : a.all goodWord = true) (hb : b.all goodWord = true) : (a ++ b).all goodWord = true := by rw [List.all_append, ha, hb]; rfl
theorem all_good : wsL_law.all goodWord = true := all_app (all_app (all_app (all_app (all_app (all_app (all_app (all_app (all_app (all_app (all_app (all_app (all_app (all_app rgd_1 (all_app rgd_2 (all_app rgd_3 (all_app rgd_4 (all_app rgd_5 (all_app rgd_6 (all_app rgd_7 (all_app rgd_8 (all_app rgd_9 (all_app rgd_10 (all_app rgd_11 (all_app rgd_12 (all_app rgd_13 (all_app rgd_14 (all_app rgd_15 (all_app rgd_16 (all_app rgd_17 (all_app rgd_18 (all_app rgd_19 (all_app rgd_20 (all_app rgd_21 (all_app rgd_22 (all_app rgd_23 (all_app rgd_24 (all_app rgd_25 (all_app rgd_26 (all_app rgd_27 (all_app rgd_28 (all_app rgd_29 (all_app rgd_30 (all_app rgd_31 (all_app rgd_32 (all_app rgd_33 (all_app rgd_34 (all_app rgd_35 (all_app rgd_36 (all_app rgd_37 (all_app rgd_38 (all_app rgd_39 (all_app rgd_40 (all_app rgd_41 (rgd_42)))))))))))))))))))))))))))))))))))))))))) fgd_10) fgd_11) fgd_7) fgd_1) fgd_4) fgd_3) fgd_9) fgd_8) fgd_6) fgd_0) fgd_5) fgd_2) rfl
theorem rup_1 {w : Cond} (h : w ∈ wsL_law_r1) : w ∈ wsL_law := List.mem_append_left _ (List.mem_append_left _ (List.mem_append_left _ (List.mem_append_left _ (List.mem_append_left _ (List.mem_append_left _ (List.mem_append_left _ (List.mem_append_left _ (List.mem_append_left _ (List.mem_append_left _ (List.mem_append_left _ (List.mem_append_left _ (List.mem_append_left _ (List.mem_append_left _ h)))))))))))))
theorem rup_2 {w : Cond} (h : w ∈ wsL_law_r2) : w ∈ wsL_law := List.mem_append_left _ (List.mem_append_left _ (List.mem_append_left _ (List.mem_append_left _ (List.mem_append_left _ (List.mem_append_left _ (List.mem_append_left _ (List.mem_append_left _ (List.mem_append_left _ (List.mem_append_left _ (List.mem_append_left _ (List.mem_append_left _ (List.mem_append_left _ (List.mem_append_right _ (List.mem_append_left _ h))))))))))))))
theorem rup_3 {w : Cond} (h : w ∈ wsL_law_r3) : w ∈ wsL_law := List.mem_append_left _ (List.mem_append_left _ (List.mem_append_left _ (List.mem_append_left _ (List.mem_append_left _ (List.mem_append_left _ (List.mem_append_left _ (List.mem_append_left _ (List.mem_append_left _ (List.mem_append_left _ (List.mem_append_left _ (List.mem_append_left _ (List.mem_append_left _ (List.mem_append_right _ (List.mem_append_right _ (List.mem_append_left _ h)))))))))))))))
theorem rup_4 {w : Cond} (h : w ∈ wsL_law_r4) : w ∈ wsL_law := List.mem_append_left _ (List.mem_append_left _ (List.mem_append_left _ (List.mem_append_left _ (List.mem_append_left _ (List.mem_append_left _ (List.mem_append_left _ (List.mem_append_left _ (List.mem_append_left _ (List.mem_append_left _ (List.mem_append_left _ (List.mem_append_left _ (List.mem_append_left _ (List.mem_append_right _ (List.mem_append_right _ (List.mem_append_right _ (List.mem_append_left _ h))))))))))))))))
theorem rup_5 {w : Cond} (h : w ∈ wsL_law_r5) : w ∈ wsL_law := List.mem_append_left _ (List.mem_append_left _ (List.mem_append_left _ (List.mem_append_left _ (List.mem_append_left _ (List.mem_append_left _ (List.mem_append_left _ (List.mem_append_left _ (List.mem_append_left _ (List.mem_append_left _ (List.mem_append_left _ (List.mem_append_left _ (List.mem_append_left _ (List.mem_append_right _ (List.mem_append_right _ (List.mem_append_right _ (List.mem_append_right _ (List.mem_append_left _ h)))))))))))))))))
theorem rup_6 {w : Cond} (h : w ∈ wsL_law_r6) : w ∈ wsL_law := List.mem_append_left _ (List.mem_append_left _ (List.mem_append_left _ (List.mem_append_left _ (List.mem_append_left _ (List.mem_append_left _ (List.mem_append_left _ (List.mem_append_left _ (List.mem_append_left _ (List.mem_append_left _ (List.mem_append_left _ (List.mem_append_left _ (List.mem_append_left _ (List.mem_append_right _ (List.mem_append_right _ (List.mem_append_right _ (List.mem_append_right _ (List.mem_append_right _ (List.mem_append_left _ h))))))))))))))))))
theorem rup_7 {w : Cond} (h : w ∈ wsL_law_r7) : w ∈ wsL_law := List.mem_append_left _ (List.mem_append_left _ (List.mem_append_left _ (List.mem_append_left _ (List.mem_append_left _ (List.mem_append_left _ (List.mem_append_left _ (List.mem_append_left _ (List.mem_append_left _ (List.mem_append_left _ (List.mem_append_left _ (List.mem_append_left _ (List.mem_append_left _ (List.mem_append_right _ (List.mem_append_right _ (List.mem_append_right _ (List.mem_append_right _ (List.mem_append_right _ (List.mem_append_right _ (List.mem_append_left _ h)))))))))))))))))))
theorem rup_8 {w : Cond} (h : w ∈ wsL_law_r8) : w ∈ wsL_law := List.mem_append_left _ (List.mem_append_left _ (List.mem_append_left _ (List.mem_append_left _ (List.mem_append_left _ (List.mem_append_left _ (List.mem_append_left _ (List.mem_append_left _ (List.mem_append_left _ (List.mem_append_left _ (List.mem_append_left _ (List.mem_append_left _ (List.mem_append_left _ (List.mem_append_right _ (List.mem_append_right _ (List.mem_append_right _ (List.mem_append_right _ (List.mem_append_right _ (List.mem_append_right _ (List.mem_append_right _ (List.mem_append_left _ h))))))))))))))))))))
theorem rup_9 {w : Cond} (h : w ∈ wsL_law_r9) : w ∈ wsL_law := List.mem_append_left _ (List.mem_append_left _ (List.mem_append_left _ (List.mem_append_left _ (List.mem_append_left _ (List.mem_append_left _ (List.mem_append_left _ (List.mem_append_left _ (List.mem_append_left _ (List.mem_append_left _ (List.mem_append_left _ (List.mem_append_left _ (List.mem_append_left _ (List.mem_append_right _ (List.mem_append_right _ (List.mem_append_right _ (List.mem_append_right _ (List.mem_append_right _ (List.mem_append_right _ (List.mem_append_right _ (List.mem_append_right _ (List.mem_append_left _ h)))))))))))))))))))))
theorem rup_10 {w : Cond} (h : w ∈ wsL_law_r10) : w ∈ wsL_law := List.mem_append_left _ (List.mem_append_left _ (List.mem_append_left _ (List.mem_append_left _ (List.mem_append_left _ (List.mem_append_left _ (List.mem_append_left _ (List.mem_append_left _ (List.mem_append_left _ (List.mem_append_left _ (List.mem_append_left _ (List.mem_append_left _ (List.mem_append_left _ (List.mem_append_right _ (List.mem_append_right _ (List.mem_append_right _ (List.mem_append_right _ (List.mem_append_right _ (List.mem_append_right _ (List.mem_append_right _ (List.mem_append_right _ (List.mem_append_right _ (List.mem_append_left _ h))))))))))))))))))))))
theorem rup_11 {w : Cond} (h : w ∈ wsL_law_r11) : w ∈ wsL_law := List.mem_append_left _ (List.mem_append_left _ (List.mem_append_left _ (List.mem_append_left _ (List.mem_append_left _ (List.mem_append_left _ (List.mem_append_left _ (List.mem_append_left _ (List.mem_append_left _ (List.mem_append_left _ (List.mem_append_left _ (List.mem_append_left _ (List.mem_append_left _ (List.mem_append_right _ (List.mem_append_right _ (List.mem_append_right _ (List.mem_append_right _ (List.mem_append_right _ (List.mem_append_right _ (List.mem_append_right _ (List.mem_append_right _ (List.mem_append_right _ (List.mem_append_right _ (List.mem_append_left _ h)))))))))))))))))))))))
theorem rup_12 {w : Cond} (h : w ∈ wsL_law_r12) : w ∈ wsL_law := List.mem_append_left _ (List.mem_append_left _ (List.mem_append_left _ (List.mem_append_left _ (List.mem_append_left _ (List.mem_append_left _ (List.mem_append_left _ (List.mem_append_left _ (List.mem_append_left _ (List.mem_append_left _ (List.mem_append_left _ (List.mem_append_left _ (List.mem_append_left _ (List.mem_append_right _ (List.mem_append_right _ (List.mem_append_right _ (List.mem_append_right _ (List.mem_append_right _ (List.mem_append_right _ (List.mem_append_right _ (List.mem_append_right _ (List.mem_append_right _ (List.mem_append_right _ (List.mem_append_right _ (List.mem_append_left _ h))))))))))))))))))))))))
theorem rup_13 {w : Cond} (h : w ∈ wsL_law_r13) : w ∈ wsL_law := List.mem_append_left _ (List.mem_append_left _ (List.mem_append_left _ (List.mem_append_left _ (List.mem_append_left _ (List.mem_append_left _ (List.mem_append_left _ (List.mem_append_left _ (List.mem_append_left _ (List.mem_append_left _ (List.mem_append_left _ (List.mem_append_left _ (List.mem_append_left _ (List.mem_append_right _ (List.mem_append_right _ (List.mem_append_right _ (List.mem_append_right _ (List.mem_append_right _ (List.mem_append_right _ (List.mem_append_right _ (List.mem_append_right _ (List.mem_append_right _ (List.mem_append_right _ (List.mem_append_right _ (List.mem_append_right _ (List.mem_append_left _ h)))))))))))))))))))))))))
theorem rup_14 {w : Cond} (h : w ∈ wsL_law_r14) : w ∈ wsL_law := List.mem_append_left _ (List.mem_append_left _ (List.mem_append_left _ (List.mem_append_left _ (List.mem_append_left _ (List.mem_append_left _ (List.mem_append_left _ (List.mem_append_left _ (List.mem_append_left _ (List.mem_append_left _ (List.mem_append_left _ (List.mem_append_left _ (List.mem_append_left _ (List.mem_append_right _ (List.mem_append_right _ (List.mem_append_right _ (List.mem_append_right _ (List.mem_append_right _ (List.mem_append_right _ (List.mem_append_right _ (List.mem_append_right _ (List.mem_append_right _ (List.mem_append_right _ (List.mem_append_right _ (List.mem_append_right _ (List.mem_append_right _ (List.mem_append_left _ h))))))))))))))))))))))))))
theorem rup_15 {w : Cond} (h : w ∈ wsL_law_r15) : w ∈ wsL_law := List.mem_append_left _ (List.mem_append_left _ (List.mem_append_left _ (List.mem_append_left _ (List.mem_append_left _ (List.mem_append_left _ (List.mem_append_left _ (List.mem_append_left _ (List.mem_append_left _ (List.mem_append_left _ (List.mem_append_left _ (List.mem_append_left _ (List.mem_append_left _ (List.mem_append_right _ (List.mem_append_right _ (List.mem_append_right _ (List.mem_append_right _ (List.mem_append_right _ (List.mem_append_right _ (List.mem_append_right _ (List.mem_append_right _ (List.mem_append_right _ (List.mem_append_right _ (List.mem_append_right _ (List.mem_append_right _ (List.mem_append_right _ (List.mem_append_right _ (List.mem_append_left _ h)))))))))))))))))))))))))))
theorem rup_16 {w : Cond} (h : w ∈ wsL_law_r16) : w ∈ wsL_law := List.mem_append_left _ (List.mem_append_left _ (List.mem_append_left _ (List.mem_append_left _ (List.mem_append_left _ (List.mem_append_left _ (List.mem_append_left _ (List.mem_append_left _ (List.mem_append_left _ (List.mem_append_left _ (List.mem_append_left _ (List.mem_append_left _ (List.mem_append_left _ (List.mem_append_right _ (List.mem_append_right _ (List.mem_append_right _ (List.mem_append_right _ (List.mem_append_right _ (List.mem_append_right _ (List.mem_append_right _ (List.mem_append_right _ (List.mem_append_right _ (List.mem_append_right _ (List.mem_append_right _ (List.mem_append_right _ (List.mem_append_right _ (List.mem_append_right _ (List.mem_append_right _ (List.mem_append_left _ h))))))))))))))))))))))))))))
theorem rup_17 {w : Cond} (h : w ∈ wsL_law_r17) : w ∈ wsL_law := List.mem_append_left _ (List.mem_append_left _ (List.mem_append_left _ (List.mem_append_left _ (List.mem_append_left _ (List.mem_append_left _ (List.mem_append_left _ (List.mem_append_left _ (List.mem_append_left _ (List.mem_append_left _ (List.mem_append_left _ (List.mem_append_left _ (List.mem_append_left _ (List.mem_append_right _ (List.mem_append_right _ (List.mem_append_right _ (List.mem_append_right _ (List.mem_append_right _ (List.mem_append_right _ (List.mem_append_right _ (List.mem_append_right _ (List.mem_append_right _ (List.mem_append_right _ (List.mem_append_right _ (List.mem_append_right _ (List.mem_append_right _ (List.mem_append_right _ (List.mem_append_right _ (List.mem_append_right _ (List.mem_append_left _ h)))))))))))))))))))))))))))))
theorem rup_18 {w : Cond} (h : w ∈ wsL_law_r18) : w ∈ wsL_law := List.mem_append_left _ (List.mem_append_left _ (List.mem_append_left _ (List.mem_append_left _ (List.mem_append_left _ (List.mem_append_left _ (List.mem_append_left _ (List.mem_append_left _ (List.mem_append_left _ (List.mem_append_left _ (List.mem_append_left _ (List.mem_append_left _ (List.mem_append_left _ (List.mem_append_right _ (List.mem_append_right _ (List.mem_append_right _ (List.mem_append_right _ (List.mem_append_right _ (List.mem_append_right _ (List.mem_append_right _ (List.mem_append_right _ (List.mem_append_right _ (List.mem_append_right _ (List.mem_append_right _ (List.mem_append_right _ (List.mem_append_right _ (List.mem_append_right _ (List.mem_append_right _ (List.mem_append_right _ (List.mem_append_right _ (List.mem_append_left _ h))))))))))))))))))))))))))))))
theorem rup_19 {w : Cond} (h : w ∈ wsL_law_r19) : w ∈ wsL_law := List.mem_append_left _ (List.mem_append_left _ (List.mem_append_left _ (List.mem_append_left _ (List.mem_append_left _ (List.mem_append_left _ (List.mem_append_left _ (List.mem_append_left _ (List.mem_append_left _ (List.mem_append_left _ (List.mem_append_left _ (List.mem_append_left _ (List.mem_append_left _ (List.mem_append_right _ (List.mem_append_right _ (List.mem_append_right _ (List.mem_append_right _ (List.mem_append_right _ (List.mem_append_right _ (List.mem_append_right _ (List.mem_append_right _ (List.mem_append_right _ (List.mem_append_right _ (List.mem_append_right _ (List.mem_append_right _ (List.mem_append_right _ (List.mem_append_right _ (List.mem_append_right _ (List.mem_append_right _ (List.mem_append_right _ (List.mem_append_right _ (List.mem_append_left _ h)))))))))))))))))))))))))))))))
theorem rup_20 {w : Cond} (h : w ∈ wsL_law_r20) : w ∈ wsL_law := List.mem_append_left _ (List.mem_append_left _ (List.mem_append_left _ (List.mem_append_left _ (List.mem_append_left _ (List.mem_append_left _ (List.mem_append_left _ (List.mem_append_left _ (List.mem_append_left _ (List.mem_append_left _ (List.mem_append_left _ (List.mem_append_left _ (List.mem_append_left _ (List.mem_append_right _ (List.mem_append_right _ (List.mem_append_right _ (List.mem_append_right _ (List.mem_append_right _ (List.mem_append_right _ (List.mem_append_right _ (List.mem_append_right _ (List.mem_append_right _ (List.mem_append_right _ (List.mem_append_right _ (List.mem_append_right _ (List.mem_append_right _ (List.mem_append_right _ (List.mem_append_right _ (List.mem_append_right _ (List.mem_append_right _ (List.mem_append_right _ (List.mem_append_right _ (List.mem_append_left _ h))))))))))))))))))))))))))))))))
theorem rup_21 {w : Cond} (h : w ∈ wsL_law_r21) : w ∈ wsL_law := List.mem_append_left _ (List.mem_append_left _ (List.mem_append_left _ (List.mem_append_left _ (List.mem_append_left _ (List.mem_append_left _ (List.mem_append_left _ (List.mem_append_left _ (List.mem_append_left _ (List.mem_append_left _ (List.mem_append_left _ (List.mem_append_left _ (List.mem_append_left _ (List.mem_append_right _ (List.mem_append_right _ (List.mem_append_right _ (List.mem_append_right _ (List.mem_append_right _ (List.mem_append_right _ (List.mem_append_right _ (List.mem_append_right _ (List.mem_append_right _ (List.mem_append_right _ (List.mem_append_right _ (List.mem_append_right _ (List.mem_append_right _ (List.mem_append_right _ (List.mem_append_right _ (List.mem_append_right _ (List.mem_append_right _ (List.mem_append_right _ (List.mem_append_right _ (List.mem_append_right _ (List.mem_append_left _ h)))))))))))))))))))))))))))))))))
theorem rup_22 {w : Cond} (h : w ∈ wsL_law_r22) : w ∈ wsL_law := List.mem_append_left _ (List.mem_append_left _ (List.mem_append_left _ (List.mem_append_left _ (List.mem_append_left _ (List.mem_append_left _ (List.mem_append_left _ (List.mem_append_left _ (List.mem_append_left _ (List.mem_append_left _ (List.mem_append_left _ (List.mem_append_left _ (List.mem_append_left _ (List.mem_append_right _ (List.mem_append_right _ (List.mem_append_right _ (List.mem_append_right _ (List.mem_append_right _ (List.mem_append_right _ (List.mem_append_right _ (List.mem_append_right _ (List.mem_append_right _ (List.mem_append_right _ (List.mem_append_right _ (List.mem_append_right _ (List.mem_append_right _ (List.mem_append_right _ (List.mem_append_right _ (List.mem_append_right _ (List.mem_append_right _ (List.mem_append_right _ (List.mem_append_right _ (List.mem_append_right _ (List.mem_append_right _ (List.mem_append_left _ h))))))))))))))))))))))))))))))))))
theorem rup_23 {w : Cond} (h : w ∈ wsL_law_r23) : w ∈ wsL_law := List.mem_append_left _ (List.mem_append_left _ (List.mem_append_left _ (List.mem_append_left _ (List.mem_append_left _ (List.mem_append_left _ (List.mem_append_left _ (List.mem_append_left _ (List.mem_append_left _ (List.mem_append_left _ (List.mem_append_left _ (List.mem_append_left _ (List.mem_append_left _ (List.mem_append_right _ (List.mem_append_right _ (List.mem_append_right _ (List.mem_append_right _ (List.mem_append_right _ (List.mem_append_right _ (List.mem_append_right _ (List.mem_append_right _ (List.mem_append_right _ (List.mem_append_right _ (List.mem_append_right _ (List.mem_append_right _ (List.mem_append_right _ (List.mem_append_right _ (List.mem_append_right _ (List.mem_append_right _ (List.mem_append_right _ (List.mem_append_right _ (List.mem_append_right _ (List.mem_append_right _ (List.mem_append_right _ (List.mem_append_right _ (List.mem_append_left _ h)))))))))))))))))))))))))))))))))))
theorem rup_24 {w : Cond} (h : w ∈ wsL_law_r24) : w ∈ wsL_law := List.mem_append_left _ (List.mem_append_left _ (List.mem_append_left _ (List.mem_append_left _ (List.mem_append_left _ (List.mem_append_left _ (List.mem_append_left _ (List.mem_append_left _ (List.mem_append_left _ (List.mem_append_left _ (List.mem_append_left _ (List.mem_append_left _ (List.mem_append_left _ (List.mem_append_right _ (List.mem_append_right _ (List.mem_append_right _ (List.mem_append_right _ (List.mem_append_right _ (List.mem_append_right _ (List.mem_append_right _ (List.mem_append_right _ (List.mem_append_right _ (List.mem_append_right _ (List.mem_append_right _ (List.mem_append_right _ (List.mem_append_right _ (List.mem_append_right _ (List.mem_append_right _ (List.mem_append_right _ (List.mem_append_right _ (List.mem_append_right _ (List.mem_append_right _ (List.mem_append_right _ (List.mem_append_right _ (List.mem_append_right _ (List.mem_append_right _ (List.mem_append_left _ h))))))))))))))))))))))))))))))))))))
theorem rup_25 {w : Cond} (h : w ∈ wsL_law_r25) : w ∈ wsL_law := List.mem_append_left _ (List.mem_append_left _ (List.mem_append_left _ (List.mem_append_left _ (List.mem_append_left _ (List.mem_append_left _ (List.mem_append_left _ (List.mem_append_left _ (List.mem_append_left _ (List.mem_append_left _ (List.mem_append_left _ (List.mem_append_left _ (List.mem_append_left _ (List.mem_append_right _ (List.mem_append_right _ (List.mem_append_right _ (List.mem_append_right _ (List.mem_append_right _ (List.mem_append_right _ (List.mem_append_right _ (List.mem_append_right _ (List.mem_append_right _ (List.mem_append_right _ (List.mem_append_right _ (List.mem_append_right _ (List.mem_append_right _ (List.mem_append_right _ (List.mem_append_right _ (List.mem_append_right _ (List.mem_append_right _ (List.mem_append_right _ (List.mem_append_right _ (List.mem_append_right _ (List.mem_append_right _ (List.mem_append_right _ (List.mem_append_right _ (List.mem_append_right _ (List.mem_append_left _ h)))))))))))))))))))))))))))))))))))))
theorem rup_26 {w : Cond} (h : w ∈ wsL_law_r26) : w ∈ wsL_law := List.mem_append_left _ (List.mem_append_left _ (List.mem_append_left _ (List.mem_append_left _ (List.mem_append_left _ (List.mem_append_left _ (List.mem_append_left _ (List.mem_append_left _ (List.mem_append_left _ (List.mem_append_left _ (List.mem_append_left _ (List.mem_append_left _ (List.mem_append_left _ (List.mem_append_right _ (List.mem_append_right _ (List.mem_append_right _ (List.mem_append_right _ (List.mem_append_right _ (List.mem_append_right _ (List.mem_append_right _ (List.mem_append_right _ (List.mem_append_right _ (List.mem_append_right _ (List.mem_append_right _ (List.mem_append_right _ (List.mem_append_right _ (List.mem_append_right _ (List.mem_append_right _ (List.mem_append_right _ (List.mem_append_right _ (List.mem_append_right _ (List.mem_append_right _ (List.mem_append_right _ (List.mem_append_right _ (List.mem_append_right _ (List.mem_append_right _ (List.mem_append_right _ (List.mem_append_right _ (List.mem_append_left _ h))))))))))))))))))))))))))))))))))))))
theorem rup_27 {w : Cond} (h : w ∈ wsL_law_r27) : w ∈ wsL_law := List.mem_append_left _ (List.mem_append_left _ (List.mem_append_left _ (List.mem_append_left _ (List.mem_append_left _ (List.mem_append_left _ (List.mem_append_left _ (List.mem_append_left _ (List.mem_append_left _ (List.mem_append_left _ (List.mem_append_left _ (List.mem_append_left _ (List.mem_append_left _ (List.mem_append_right _ (List.mem_append_right _ (List.mem_append_right _ (List.mem_append_right _ (List.mem_append_right _ (List.mem_append_right _ (List.mem_append_right _ (List.mem_append_right _ (List.mem_append_right _ (List.mem_append_right _ (List.mem_append_right _ (List.mem_append_right _ (List.mem_append_right _ (List.mem_append_right _ (List.mem_append_right _ (List.mem_append_right _ (List.mem_append_right _ (List.mem_append_right _ (List.mem_append_right _ (List.mem_append_right _ (List.mem_append_right _ (List.mem_append_right _ (List.mem_append_right _ (List.mem_append_right _ (List.mem_append_right _ (List.mem_append_right _ (List.mem_append_left _ h)))))))))))))))))))))))))))))))))))))))
theorem rup_28 {w : Cond} (h : w ∈ wsL_law_r28) : w ∈ wsL_law := List.mem_append_left _ (List.mem_append_left _ (List.mem_append_left _ (List.mem_append_left _ (List.mem_append_left _ (List.mem_append_left _ (List.mem_append_left _ (List.mem_append_left _ (List.mem_append_left _ (List.mem_append_left _ (List.mem_append_left _ (List.mem_append_left _ (List.mem_append_left _ (List.mem_append_right _ (List.mem_append_right _ (List.mem_append_right _ (List.mem_append_right _ (List.mem_append_right _ (List.mem_append_right _ (List.mem_append_right _ (List.mem_append_right _ (List.mem_append_right _ (List.mem_append_right _ (List.mem_append_right _ (List.mem_append_right _ (List.mem_append_right _ (List.mem_append_right _ (List.mem_append_right _ (List.mem_append_right _ (List.mem_append_right _ (List.mem_append_right _ (List.mem_append_right _ (List.mem_append_right _ (List.mem_append_right _ (List.mem_append_right _ (List.mem_append_right _ (List.mem_append_right _ (List.mem_append_right _ (List.mem_append_right _ (List.mem_append_right _ (List.mem_append_left _ h))))))))))))))))))))))))))))))))))))))))
theorem rup_29 {w : Cond} (h : w ∈ wsL_law_r29) : w ∈ wsL_law := List.mem_append_left _ (List.mem_append_left _ (List.mem_append_left _ (List.mem_append_left _ (List.mem_append_left _ (List.mem_append_left _ (List.mem_append_left _ (List.mem_append_left _ (List.mem_append_left _ (List.mem_append_left _ (List.mem_append_left _ (List.mem_append_left _ (List.mem_append_left _ (List.mem_append_right _ (List.mem_append_right _ (List.mem_append_right _ (List.mem_append_right _ (List.mem_append_right _ (List.mem_append_right _ (List.mem_append_right _ (List.mem_append_right _ (List.mem_append_right _ (List.mem_append_right _ (List.mem_append_right _ (List.mem_append_right _ (List.mem_append_right _ (List.mem_append_right _ (List.mem_append_right _ (List.mem_append_right _ (List.mem_append_right _ (List.mem_append_right _ (List.mem_append_right _ (List.mem_append_right _ (List.mem_append_right _ (List.mem_append_right _ (List.mem_append_right _ (List.mem_append_right _ (List.mem_append_right _ (List.mem_append_right _ (List.mem_append_right _ (List.mem_append_right _ (List.mem_append_left _ h)))))))))))))))))))))))))))))))))))))))))
theorem rup_30 {w : Cond} (h : w ∈ wsL_law_r30) : w ∈ wsL_law := List.mem_append_left _ (List.mem_append_left _ (List.mem_append_left _ (List.mem_append_left _ (List.mem_append_left _ (List.mem_append_left _ (List.mem_append_left _ (List.mem_append_left _ (List.mem_append_left _ (List.mem_append_left _ (List.mem_append_left _ (List.mem_append_left _ (List.mem_append_left _ (List.mem_append_right _ (List.mem_append_right _ (List.mem_append_right _ (List.mem_append_right _ (List.mem_append_right _ (List.mem_append_right _ (List.mem_append_right _ (List.mem_append_right _ (List.mem_append_right _ (List.mem_append_right _ (List.mem_append_right _ (List.mem_append_right _ (List.mem_append_right _ (List.mem_append_right _ (List.mem_append_right _ (List.mem_append_right _ (List.mem_append_right _ (List.mem_append_right _ (List.mem_append_right _ (List.mem_append_right _ (List.mem_append_right _ (List.mem_append_right _ (List.mem_append_right _ (List.mem_append_right _ (List.mem_append_right _ (List.mem_append_right _ (List.mem_append_right _ (List.mem_append_right _ (List.mem_append_right _ (List.mem_append_left _ h))))))))))))))))))))))))))))))))))))))))))
theorem rup_31 {w : Cond} (h : w ∈ wsL_law_r31) : w ∈ wsL_law := List.mem_append_left _ (List.mem_append_left _ (List.mem_append_left _ (List.mem_append_left _ (List.mem_append_left _ (List.mem_append_left _ (List.mem_append_left _ (List.mem_append_left _ (List.mem_append_left _ (List.mem_append_left _ (List.mem_append_left _ (List.mem_append_left _ (List.mem_append_left _ (List.mem_append_right _ (List.mem_append_right _ (List.mem_append_right _ (List.mem_append_right _ (List.mem_append_right _ (List.mem_append_right _ (List.mem_append_right _ (List.mem_append_right _ (List.mem_append_right _ (List.mem_append_right _ (List.mem_append_right _ (List.mem_append_right _ (List.mem_append_right _ (List.mem_append_right _ (List.mem_append_right _ (List.mem_append_right _ (List.mem_append_right _ (List.mem_append_right _ (List.mem_append_right _ (List.mem_append_right _ (List.mem_append_right _ (List.mem_append_right _ (List.mem_append_right _ (List.mem_append_right _ (List.mem_append_right _ (List.mem_append_right _ (List.mem_append_right _ (List.mem_append_right _ (List.mem_append_right _ (List.mem_append_right _ (List.mem_append_left _ h)))))))))))))))))))))))))))))))))))))))))))
theorem rup_32 {w : Cond} (h : w ∈ wsL_law_r32) : w ∈ wsL_law := List.mem_append_left _ (List.mem_append_left _ (List.mem_append_left _ (List.mem_append_left _ (List.mem_append_left _ (List.mem_append_left _ (List.mem_append_left _ (List.mem_append_left _ (List.mem_append_left _ (List.mem_append_left _ (List.mem_append_left _ (List.mem_append_left _ (List.mem_append_left _ (List.mem_append_right _ (List.mem_append_right _ (List.mem_append_right _ (List.mem_append_right _ (List.mem_append_right _ (List.mem_append_right _ (List.mem_append_right _ (List.mem_append_right _ (List.mem_append_right _ (List.mem_append_right _ (List.mem_append_right _ (List.mem_append_right _ (List.mem_append_right _ (List.mem_append_right _ (List.mem_append_right _ (List.mem_append_right _ (List.mem_append_right _ (List.mem_append_right _ (List.mem_append_right _ (List.mem_append_right _ (List.mem_append_right _ (List.mem_append_right _ (List.mem_append_right _ (List.mem_append_right _ (List.mem_append_right _ (List.mem_append_right _ (List.mem_append_right _ (List.mem_append_right _ (List.mem_append_right _ (List.mem_append_right _ (List.mem_append_right _ (List.mem_append_left _ h))))))))))))))))))))))))))))))))))))))))))))
theorem rup_33 {w : Cond} (h : w ∈ wsL_law_r33) : w ∈ wsL_law := List.mem_append_left _ (List.mem_append_left _ (List.mem_append_left _ (List.mem_append_left _ (List.mem_append_left _ (List.mem_append_left _ (List.mem_append_left _ (List.mem_append_left _ (List.mem_append_left _ (List.mem_append_left _ (List.mem_append_left _ (List.mem_append_left _ (List.mem_append_left _ (List.mem_append_right _ (List.mem_append_right _ (List.mem_append_right _ (List.mem_append_right _ (List.mem_append_right _ (List.mem_append_right _ (List.mem_append_right _ (List.mem_append_right _ (List.mem_append_right _ (List.mem_append_right _ (List.mem_append_right _ (List.mem_append_right _ (List.mem_append_right _ (List.mem_append_right _ (List.mem_append_right _ (List.mem_append_right _ (List.mem_append_right _ (List.mem_append_right _ (List.mem_append_right _ (List.mem_append_right _ (List.mem_append_right _ (List.mem_append_right _ (List.mem_append_right _ (List.mem_append_right _ (List.mem_append_right _ (List.mem_append_right _ (List.mem_append_right _ (List.mem_append_right _ (List.mem_append_right _ (List.mem_append_right _ (List.mem_append_right _ (List.mem_append_right _ (List.mem_append_left _ h)))))))))))))))))))))))))))))))))))))))))))))
theorem rup_34 {w : Cond} (h : w ∈ wsL_law_r34) : w ∈ wsL_law := List.mem_append_left _ (List.mem_append_left _ (List.mem_append_left _ (List.mem_append_left _ (List.mem_append_left _ (List.mem_append_left _ (List.mem_append_left _ (List.mem_append_left _ (List.mem_append_left _ (List.mem_append_left _ (List.mem_append_left _ (List.mem_append_left _ (List.mem_append_left _ (List.mem_append_right _ (List.mem_append_right _ (List.mem_append_right _ (List.mem_append_right _ (List.mem_append_right _ (List.mem_append_right _ (List.mem_append_right _ (List.mem_append_right _ (List.mem_append_right _ (List.mem_append_right _ (List.mem_append_right _ (List.mem_append_right _ (List.mem_append_right _ (List.mem_append_right _ (List.mem_append_right _ (List.mem_append_right _ (List.mem_append_right _ (List.mem_append_right _ (List.mem_append_right _ (List.mem_append_right _ (List.mem_append_right _ (List.mem_append_right _ (List.mem_append_right _ (List.mem_append_right _ (List.mem_append_right _ (List.mem_append_right _ (List.mem_append_right _ (List.mem_append_right _ (List.mem_append_right _ (List.mem_append_right _ (List.mem_append_right _ (List.mem_append_right _ (List.mem_append_right _ (List.mem_append_left _ h))))))))))))))))))))))))))))))))))))))))))))))
theorem rup_35 {w : Cond} (h : w ∈ wsL_law_r35) : w ∈ wsL_law := List.mem_append_left _ (List.mem_append_left _ (List.mem_append_left _ (List.mem_append_left _ (List.mem_append_left _ (List.mem_append_left _ (List.mem_append_left _ (List.mem_append_left _ (List.mem_append_left _ (List.mem_append_left _ (List.mem_append_left _ (List.mem_append_left _ (List.mem_append_left _ (List.mem_append_right _ (List.mem_append_right _ (List.mem_append_right _ (List.mem_append_right _ (List.mem_append_right _ (List.mem_append_right _ (List.mem_append_right _ (List.mem_append_right _ (List.mem_append_right _ (List.mem_append_right _ (List.mem_append_right _ (List.mem_append_right _ (List.mem_append_right _ (List.mem_append_right _ (List.mem_append_right _ (List.mem_append_right _ (List.mem_append_right _ (List.mem_append_right _ (List.mem_append_right _ (List.mem_append_right _ (List.mem_append_right _ (List.mem_append_right _ (List.mem_append_right _ (List.mem_append_right _ (List.mem_append_right _ (List.mem_append_right _ (List.mem_append_right _ (List.mem_append_right _ (List.mem_append_right _ (List.mem_append_right _ (List.mem_append_right _ (List.mem_append_right _ (List.mem_append_right _ (List.mem_append_right _ (List.mem_append_left _ h)))))))))))))))))))))))))))))))))))))))))))))))
theorem rup_36 {w : Cond} (h : w ∈ wsL_law_r36) : w ∈ wsL_law := List.mem_append_left _ (List.mem_append_left _ (List.mem_append_left _ (List.mem_append_left _ (List.mem_append_left _ (List.mem_append_left _ (List.mem_append_left _ (List.mem_append_left _ (List.mem_append_left _ (List.mem_append_left _ (List.mem_append_left _ (List.mem_append_left _ (List.mem_append_left _ (List.mem_append_right _ (List.mem_append_right _ (List.mem_append_right _ (List.mem_append_right _ (List.mem_append_right _ (List.mem_append_right _ (List.mem_append_right _ (List.mem_append_right _ (List.mem_append_right _ (List.mem_append_right _ (List.mem_append_right _ (List.mem_append_right _ (List.mem_append_right _ (List.mem_append_right _ (List.mem_append_right _ (List.mem_append_right _ (List.mem_append_right _ (List.mem_append_right _ (List.mem_append_right _ (List.mem_append_right _ (List.mem_append_right _ (List.mem_append_right _ (List.mem_append_right _ (List.mem_append_right _ (List.mem_append_right _ (List.mem_append_right _ (List.mem_append_right _ (List.mem_append_right _ (List.mem_append_right _ (List.mem_append_right _ (List.mem_append_right _ (List.mem_append_right _ (List.mem_append_right _ (List.mem_append_right _ (List.mem_append_right _ (List.mem_append_left _ h))))))))))))))))))))))))))))))))))))))))))))))))
theorem rup_37 {w : Cond} (h : w ∈ wsL_law_r37) : w ∈ wsL_law := List.mem_append_left _ (List.mem_append_left _ (List.mem_append_left _ (List.mem_append_left _ (List.mem_append_left _ (List.mem_append_left _ (List.mem_append_left _ (List.mem_append_left _ (List.mem_append_left _ (List.mem_append_left _ (List.mem_append_left _ (List.mem_append_left _ (List.mem_append_left _ (List.mem_append_right _ (List.mem_append_right _ (List.mem_append_right _ (List.mem_append_right _ (List.mem_append_right _ (List.mem_append_right _ (List.mem_append_right _ (List.mem_append_right _ (List.mem_append_right _ (List.mem_append_right _ (List.mem_append_right _ (List.mem_append_right _ (List.mem_append_right _ (List.mem_append_right _ (List.mem_append_right _ (List.mem_append_right _ (List.mem_append_right _ (List.mem_append_right _ (List.mem_append_right _ (List.mem_append_right _ (List.mem_append_right _ (List.mem_append_right _ (List.mem_append_right _ (List.mem_append_right _ (List.mem_append_right _ (List.mem_append_right _ (List.mem_append_right _ (List.mem_append_right _ (List.mem_append_right _ (List.mem_append_right _ (List.mem_append_right _ (List.mem_append_right _ (List.mem_append_right _ (List.mem_append_right _ (List.mem_append_right _ (List.mem_append_right _ (List.mem_append_left _ h)))))))))))))))))))))))))))))))))))))))))))))))))
theorem rup_38 {w : Cond} (h : w ∈ wsL_law_r38) : w ∈ wsL_law := List.mem_append_left _ (List.mem_append_left _ (List.mem_append_left _ (List.mem_append_left _ (List.mem_append_left _ (List.mem_append_left _ (List.mem_append_left _ (List.mem_append_left _ (List.mem_append_left _ (List.mem_append_left _ (List.mem_append_left _ (List.mem_append_left _ (List.mem_append_left _ (List.mem_append_right _ (List.mem_append_right _ (List.mem_append_right _ (List.mem_append_right _ (List.mem_append_right _ (List.mem_append_right _ (List.mem_append_right _ (List.mem_append_right _ (List.mem_append_right _ (List.mem_append_right _ (List.mem_append_right _ (List.mem_append_right _ (List.mem_append_right _ (List.mem_append_right _ (List.mem_append_right _ (List.mem_append_right _ (List.mem_append_right _ (List.mem_append_right _ (List.mem_append_right _ (List.mem_append_right _ (List.mem_append_right _ (List.mem_append_right _ (List.mem_append_right _ (List.mem_append_right _ (List.mem_append_right _ (List.mem_append_right _ (List.mem_append_right _ (List.mem_append_right _ (List.mem_append_right _ (List.mem_append_right _ (List.mem_append_right _ (List.mem_append_right _ (List.mem_append_right _ (List.mem_append_right _ (List.mem_append_right _ (List.mem_append_right _ (List.mem_append_right _ (List.mem_append_left _ h))))))))))))))))))))))))))))))))))))))))))))))))))
theorem rup_39 {w : Cond} (h : w ∈ wsL_law_r39) : w ∈ wsL_law := List.mem_append_left _ (List.mem_append_left _ (List.mem_append_left _ (List.mem_append_left _ (List.mem_append_left _ (List.mem_append_left _ (List.mem_append_left _ (List.mem_append_left _ (List.mem_append_left _ (List.mem_append_left _ (List.mem_append_left _ (List.mem_append_left _ (List.mem_append_left _ (List.mem_append_right _ (List.mem_append_right _ (List.mem_append_right _ (List.mem_append_right _ (List.mem_append_right _ (List.mem_append_right _ (List.mem_append_right _ (List.mem_append_right _ (List.mem_append_right _ (List.mem_append_right _ (List.mem_append_right _ (List.mem_append_right _ (List.mem_append_right _ (List.mem_append_right _ (List.mem_append_right _ (List.mem_append_right _ (List.mem_append_right _ (List.mem_append_right _ (List.mem_append_right _ (List.mem_append_right _ (List.mem_append_right _ (List.mem_append_right _ (List.mem_append_right _ (List.mem_append_right _ (List.mem_append_right _ (List.mem_append_right _ (List.mem_append_right _ (List.mem_append_right _ (List.mem_append_right _ (List.mem_append_right _ (List.mem_append_right _ (List.mem_append_right _ (List.mem_append_right _ (List.mem_append_right _ (List.mem_append_right _ (List.mem_append_right _ (List.mem_append_right _ (List.mem_append_right _ (List.mem_append_left _ h)))))))))))))))))))))))))))))))))))))))))))))))))))
theorem rup_40 {w : Cond} (h : w ∈ wsL_law_r40) : w ∈ wsL_law := List.mem_append_left _ (List.mem_append_left _ (List.mem_append_left _ (List.mem_append_left _ (List.mem_append_left _ (List.mem_append_left _ (List.mem_append_left _ (List.mem_append_left _ (List.mem_append_left _ (List.mem_append_left _ (List.mem_append_left _ (List.mem_append_left _ (List.mem_append_left _ (List.mem_append_right _ (List.mem_append_right _ (List.mem_append_right _ (List.mem_append_right _ (List.mem_append_right _ (List.mem_append_right _ (List.mem_append_right _ (List.mem_append_right _ (List.mem_append_right _ (List.mem_append_right _ (List.mem_append_right _ (List.mem_append_right _ (List.mem_append_right _ (List.mem_append_right _ (List.mem_append_right _ (List.mem_append_right _ (List.mem_append_right _ (List.mem_append_right _ (List.mem_append_right _ (List.mem_append_right _ (List.mem_append_right _ (List.mem_append_right _ (List.mem_append_right _ (List.mem_append_right _ (List.mem_append_right _ (List.mem_append_right _ (List.mem_append_right _ (List.mem_append_right _ (List.mem_append_right _ (List.mem_append_right _ (List.mem_append_right _ (List.mem_append_right _ (List.mem_append_right _ (List.mem_append_right _ (List.mem_append_right _ (List.mem_append_right _ (List.mem_append_right _ (List.mem_append_right _ (List.mem_append_right _ (List.mem_append_left _ h))))))))))))))))))))))))))))))))))))))))))))))))))))
theorem rup_41 {w : Cond} (h : w ∈ wsL_law_r41) : w ∈ wsL_law := List.mem_append_left _ (List.mem_append_left _ (List.mem_append_left _ (List.mem_append_left _ (List.mem_append_left _ (List.mem_append_left _ (List.mem_append_left _ (List.mem_append_left _ (List.mem_append_left _ (List.mem_append_left _ (List.mem_append_left _ (List.mem_append_left _ (List.mem_append_left _ (List.mem_append_right _ (List.mem_append_right _ (List.mem_append_right _ (List.mem_append_right _ (List.mem_append_right _ (List.mem_append_right _ (List.mem_append_right _ (List.mem_append_right _ (List.mem_append_right _ (List.mem_append_right _ (List.mem_append_right _ (List.mem_append_right _ (List.mem_append_right _ (List.mem_append_right _ (List.mem_append_right _ (List.mem_append_right _ (List.mem_append_right _ (List.mem_append_right _ (List.mem_append_right _ (List.mem_append_right _ (List.mem_append_right _ (List.mem_append_right _ (List.mem_append_right _ (List.mem_append_right _ (List.mem_append_right _ (List.mem_append_right _ (List.mem_append_right _ (List.mem_append_right _ (List.mem_append_right _ (List.mem_append_right _ (List.mem_append_right _ (List.mem_append_right _ (List.mem_append_right _ (List.mem_append_right _ (List.mem_append_right _ (List.mem_append_right _ (List.mem_append_right _ (List.mem_append_right _ (List.mem_append_right _ (List.mem_append_right _ (List.mem_append_left _ h)))))))))))))))))))))))))))))))))))))))))))))))))))))
theorem rup_42 {w : Cond} (h : w ∈ wsL_law_r42) : w ∈ wsL_law := List.mem_append_left _ (List.mem_append_left _ (List.mem_append_left _ (List.mem_append_left _ (List.mem_append_left _ (List.mem_append_left _ (List.mem_append_left _ (List.mem_append_left _ (List.mem_append_left _ (List.mem_append_left _ (List.mem_append_left _ (List.mem_append_left _ (List.mem_append_left _ (List.mem_append_right _ (List.mem_append_right _ (List.mem_append_right _ (List.mem_append_right _ (List.mem_append_right _ (List.mem_append_right _ (List.mem_append_right _ (List.mem_append_right _ (List.mem_append_right _ (List.mem_append_right _ (List.mem_append_right _ (List.mem_append_right _ (List.mem_append_right _ (List.mem_append_right _ (List.mem_append_right _ (List.mem_append_right _ (List.mem_append_right _ (List.mem_append_right _ (List.mem_append_right _ (List.mem_append_right _ (List.mem_append_right _ (List.mem_append_right _ (List.mem_append_right _ (List.mem_append_right _ (List.mem_append_right _ (List.mem_append_right _ (List.mem_append_right _ (List.mem_append_right _ (List.mem_append_right _ (List.mem_append_right _ (List.mem_append_right _ (List.mem_append_right _ (List.mem_append_right _ (List.mem_append_right _ (List.mem_append_right _ (List.mem_append_right _ (List.mem_append_right _ (List.mem_append_right _ (List.mem_append_right _ (List.mem_append_right _ (List.mem_append_right _ (h))))))))))))))))))))))))))))))))))))))))))))))))))))))
theorem inlX0 : ∀ w ∈ wsX00, w ∈ wsL_law := fun _ h => List.mem_append_left _ (List.mem_append_left _ (List.mem_append_left _ (List.mem_append_right _ h)))
theorem inX0 : ∀ w ∈ wsX00, w ∈ lw_tbl := fun w h => wsL_law_in w (inlX0 w h)
theorem inlX1 : ∀ w ∈ wsX10, w ∈ wsL_law := fun _ h => List.mem_append_left _ (List.mem_append_left _ (List.mem_append_left _ (List.mem_append_left _ (List.mem_append_left _ (List.mem_append_left _ (List.mem_append_left _ (List.mem_append_left _ (List.mem_append_left _ (List.mem_append_right _ h)))))))))
theorem inX1 : ∀ w ∈ wsX10, w ∈ lw_tbl := fun w h => wsL_law_in w (inlX1 w h)
theorem inlX2 : ∀ w ∈ wsX20, w ∈ wsL_law := fun _ h => List.mem_append_left _ (List.mem_append_right _ h)
theorem inX2 : ∀ w ∈ wsX20, w ∈ lw_tbl := fun w h => wsL_law_in w (inlX2 w h)
theorem inlX3 : ∀ w ∈ wsX30, w ∈ wsL_law := fun _ h => List.mem_append_left _ (List.mem_append_left _ (List.mem_append_left _ (List.mem_append_left _ (List.mem_append_left _ (List.mem_append_left _ (List.mem_append_left _ (List.mem_append_right _ h)))))))
theorem inX3 : ∀ w ∈ wsX30, w ∈ lw_tbl := fun w h => wsL_law_in w (inlX3 w h)
theorem inlX4 : ∀ w ∈ wsX40, w ∈ wsL_law := fun _ h => List.mem_append_left _ (List.mem_append_left _ (List.mem_append_left _ (List.mem_append_left _ (List.mem_append_left _ (List.mem_append_left _ (List.mem_append_left _ (List.mem_append_left _ (List.mem_append_right _ h))))))))
theorem inX4 : ∀ w ∈ wsX40, w ∈ lw_tbl := fun w h => wsL_law_in w (inlX4 w h)
theorem inlX5 : ∀ w ∈ wsX50, w ∈ wsL_law := fun _ h => List.mem_append_left _ (List.mem_append_left _ (List.mem_append_right _ h))
theorem inX5 : ∀ w ∈ wsX50, w ∈ lw_tbl := fun w h => wsL_law_in w (inlX5 w h)
theorem inlX6 : ∀ w ∈ wsX60, w ∈ wsL_law := fun _ h => List.mem_append_left _ (List.mem_append_left _ (List.mem_append_left _ (List.mem_append_left _ (List.mem_append_right _ h))))
theorem inX6 : ∀ w ∈ wsX60, w ∈ lw_tbl := fun w h => wsL_law_in w (inlX6 w h)
theorem inlX7 : ∀ w ∈ wsX70, w ∈ wsL_law := fun _ h => List.mem_append_left _ (List.mem_append_left _ (List.mem_append_left _ (List.mem_append_left _ (List.mem_append_left _ (List.mem_append_left _ (List.mem_append_left _ (List.mem_append_left _ (List.mem_append_left _ (List.mem_append_left _ (List.mem_append_right _ h))))))))))
theorem inX7 : ∀ w ∈ wsX70, w ∈ lw_tbl := fun w h => wsL_law_in w (inlX7 w h)
theorem inlX8 : ∀ w ∈ wsX80, w ∈ wsL_law := fun _ h => List.mem_append_left _ (List.mem_append_left _ (List.mem_append_left _ (List.mem_append_left _ (List.mem_append_left _ (List.mem_append_right _ h)))))
theorem inX8 : ∀ w ∈ wsX80, w ∈ lw_tbl := fun w h => wsL_law_in w (inlX8 w h)
theorem inlX9 : ∀ w ∈ wsX90, w ∈ wsL_law := fun _ h => List.mem_append_left _ (List.mem_append_left _ (List.mem_append_left _ (List.mem_append_left _ (List.mem_append_left _ (List.mem_append_left _ (List.mem_append_right _ h))))))
theorem inX9 : ∀ w ∈ wsX90, w ∈ lw_tbl := fun w h => wsL_law_in w (inlX9 w h)
theorem inlX10 : ∀ w ∈ wsX100, w ∈ wsL_law := fun _ h => List.mem_append_left _ (List.mem_append_left _ (List.mem_append_left _ (List.mem_append_left _ (List.mem_append_left _ (List.mem_append_left _ (List.mem_append_left _ (List.mem_append_left _ (List.mem_append_left _ (List.mem_append_left _ (List.mem_append_left _ (List.mem_append_left _ (List.mem_append_right _ h))))))))))))
theorem inX10 : ∀ w ∈ wsX100, w ∈ lw_tbl := fun w h => wsL_law_in w (inlX10 w h)
theorem inlX11 : ∀ w ∈ wsX110, w ∈ wsL_law := fun _ h => List.mem_append_left _ (List.mem_append_left _ (List.mem_append_left _ (List.mem_append_left _ (List.mem_append_left _ (List.mem_append_left _ (List.mem_append_left _ (List.mem_append_left _ (List.mem_append_left _ (List.mem_append_left _ (List.mem_append_left _ (List.mem_append_right _ h)))))))))))
theorem inX11 : ∀ w ∈ wsX110, w ∈ lw_tbl := fun w h => wsL_law_in w (inlX11 w h)
theorem inJ9 : ∀ w ∈ wsJ90, w ∈ lw_tbl := by decide +kernel
theorem inJ10 : ∀ w ∈ wsJ100, w ∈ lw_tbl := by decide +kernel
abbrev vwCl : List vw_C := [(RX0, TX0, 5), (RX1, TX1, 3), (RX2, TX2, 2), (RX3, TX3, 2), (RX4, TX4, 2), (RX5, TX5, 4), (RX6, TX6, 4), (RX7, TX7, 2), (RX8, TX8, 2), (RX9, TX9, 7), (RX10, TX10, 11), (RX11, TX11, 25)]
