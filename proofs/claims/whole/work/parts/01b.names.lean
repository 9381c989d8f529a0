def RX0 : String := "Choicepoint$Expression"
def TX0 : u_T := fun k => match k with
  | 0 => ("Choicepoint$Expression", "size", "I", true)
  | 1 => ("Choicepoint$Expression", "tags", "[I", true)
  | 2 => ("Choicepoint$Expression", "whats", "[I", true)
  | 3 => ("Choicepoint$Expression", "lefts", "[I", true)
  | 4 => ("Choicepoint$Expression", "rights", "[I", true)
  | 5 => ("Choicepoint$Expression", "firsts", "[I", true)
  | _ => ("Choicepoint$Expression", "layers", "[I", true)
def tyX0 : Nat → FieldType := fun k => match k with
  | 0 => .int
  | 1 => .array .int
  | 2 => .array .int
  | 3 => .array .int
  | 4 => .array .int
  | 5 => .array .int
  | _ => .array .int
abbrev wsX00 : List Cond := u_ws RX0 TX0 7
theorem nmX0 : ∀ a, a < 7 → ∀ b, b < 7 → a ≠ b → (TX0 a).2.1 ≠ (TX0 b).2.1 := by decide +kernel
theorem tyX0_ok : ∀ k, k < 7 → parseFieldDescriptor (TX0 k).2.2.1 = some (tyX0 k) := by decide +kernel
abbrev cX0_init : ByteArray := prog_2_method_1_code
def yX0_init : MethodName := ⟨RX0, "<init>", "(LChoicepoint$Nodes;I)V"⟩
abbrev cX0_meets : ByteArray := prog_2_method_2_code
def yX0_meets : MethodName := ⟨RX0, "meets", "(LChoicepoint$Expression;)Z"⟩
abbrev cX0_isMany : ByteArray := prog_2_method_3_code
def yX0_isMany : MethodName := ⟨RX0, "isMany", "(II)Z"⟩
def RX1 : String := "Choicepoint$Found"
def TX1 : u_T := fun k => match k with
  | 0 => ("Choicepoint$Found", "parts", "[I", true)
  | 1 => ("Choicepoint$Found", "bounds", "[[I", true)
  | 2 => ("Choicepoint$Found", "ways", "[I", true)
  | 3 => ("Choicepoint$Found", "steps", "I", false)
  | 4 => ("Choicepoint$Found", "opens", "[I", true)
  | _ => ("Choicepoint$Found", "ahead", "[I", true)
def tyX1 : Nat → FieldType := fun k => match k with
  | 0 => .array .int
  | 1 => .array (.array .int)
  | 2 => .array .int
  | 3 => .int
  | 4 => .array .int
  | _ => .array .int
abbrev wsX10 : List Cond := u_ws RX1 TX1 6
theorem nmX1 : ∀ a, a < 6 → ∀ b, b < 6 → a ≠ b → (TX1 a).2.1 ≠ (TX1 b).2.1 := by decide +kernel
theorem tyX1_ok : ∀ k, k < 6 → parseFieldDescriptor (TX1 k).2.2.1 = some (tyX1 k) := by decide +kernel
abbrev cX1_init : ByteArray := prog_3_method_1_code
def yX1_init : MethodName := ⟨RX1, "<init>", "()V"⟩
abbrev cX1_keep : ByteArray := prog_3_method_2_code
def yX1_keep : MethodName := ⟨RX1, "keep", "(LChoicepoint$Machine;I)V"⟩
abbrev cX1_tellRow : ByteArray := prog_3_method_3_code
def yX1_tellRow : MethodName := ⟨RX1, "tellRow", "(LChoicepoint$Things;I[I)V"⟩
abbrev cX1_numberOfOpen : ByteArray := prog_3_method_4_code
def yX1_numberOfOpen : MethodName := ⟨RX1, "numberOfOpen", "(II)I"⟩
abbrev cX1_lookAhead : ByteArray := prog_3_method_5_code
def yX1_lookAhead : MethodName := ⟨RX1, "lookAhead", "(LChoicepoint$Things;II)I"⟩
def RX2 : String := "Choicepoint$Level"
def TX2 : u_T := fun k => match k with
  | 0 => ("Choicepoint$Level", "ways", "[I", true)
  | 1 => ("Choicepoint$Level", "limits", "[I", true)
  | 2 => ("Choicepoint$Level", "given", "I", false)
  | 3 => ("Choicepoint$Level", "decisions", "I", false)
  | 4 => ("Choicepoint$Level", "number", "I", false)
  | 5 => ("Choicepoint$Level", "sought", "I", false)
  | 6 => ("Choicepoint$Level", "runs", "I", false)
  | _ => ("Choicepoint$Level", "base", "I", false)
def tyX2 : Nat → FieldType := fun k => match k with
  | 0 => .array .int
  | 1 => .array .int
  | 2 => .int
  | 3 => .int
  | 4 => .int
  | 5 => .int
  | 6 => .int
  | _ => .int
abbrev wsX20 : List Cond := u_ws RX2 TX2 8
theorem nmX2 : ∀ a, a < 8 → ∀ b, b < 8 → a ≠ b → (TX2 a).2.1 ≠ (TX2 b).2.1 := by decide +kernel
theorem tyX2_ok : ∀ k, k < 8 → parseFieldDescriptor (TX2 k).2.2.1 = some (tyX2 k) := by decide +kernel
abbrev cX2_init : ByteArray := prog_4_method_1_code
def yX2_init : MethodName := ⟨RX2, "<init>", "()V"⟩
abbrev cX2_advance : ByteArray := prog_4_method_2_code
def yX2_advance : MethodName := ⟨RX2, "advance", "()Z"⟩
abbrev cX2_deepen : ByteArray := prog_4_method_3_code
def yX2_deepen : MethodName := ⟨RX2, "deepen", "()V"⟩
def RX3 : String := "Choicepoint$Machine"
def TX3 : u_T := fun k => match k with
  | 0 => ("Choicepoint$Machine", "program", "LChoicepoint$Program;", true)
  | 1 => ("Choicepoint$Machine", "things", "LChoicepoint$Things;", true)
  | 2 => ("Choicepoint$Machine", "tasks", "LChoicepoint$Tasks;", true)
  | 3 => ("Choicepoint$Machine", "scopes", "[LChoicepoint$Scope;", true)
  | 4 => ("Choicepoint$Machine", "levels", "[LChoicepoint$Level;", true)
  | 5 => ("Choicepoint$Machine", "made", "[I", true)
  | 6 => ("Choicepoint$Machine", "lowest", "LChoicepoint$Level;", true)
  | 7 => ("Choicepoint$Machine", "root", "I", false)
  | 8 => ("Choicepoint$Machine", "scopeCount", "I", false)
  | 9 => ("Choicepoint$Machine", "level", "I", false)
  | 10 => ("Choicepoint$Machine", "runNumber", "I", false)
  | 11 => ("Choicepoint$Machine", "steps", "I", false)
  | 12 => ("Choicepoint$Machine", "outcome", "I", false)
  | _ => ("Choicepoint$Machine", "branches", "I", false)
def tyX3 : Nat → FieldType := fun k => match k with
  | 0 => .object "Choicepoint$Program"
  | 1 => .object "Choicepoint$Things"
  | 2 => .object "Choicepoint$Tasks"
  | 3 => .array (.object "Choicepoint$Scope")
  | 4 => .array (.object "Choicepoint$Level")
  | 5 => .array .int
  | 6 => .object "Choicepoint$Level"
  | 7 => .int
  | 8 => .int
  | 9 => .int
  | 10 => .int
  | 11 => .int
  | 12 => .int
  | _ => .int
abbrev wsX30 : List Cond := u_ws RX3 TX3 14
theorem nmX3 : ∀ a, a < 14 → ∀ b, b < 14 → a ≠ b → (TX3 a).2.1 ≠ (TX3 b).2.1 := by decide +kernel
theorem tyX3_ok : ∀ k, k < 14 → parseFieldDescriptor (TX3 k).2.2.1 = some (tyX3 k) := by decide +kernel
abbrev cX3_init : ByteArray := prog_5_method_1_code
def yX3_init : MethodName := ⟨RX3, "<init>", "(LChoicepoint$Program;)V"⟩
abbrev cX3_makeRun : ByteArray := prog_5_method_2_code
def yX3_makeRun : MethodName := ⟨RX3, "makeRun", "(LChoicepoint$Expression;)I"⟩
abbrev cX3_clear : ByteArray := prog_5_method_3_code
def yX3_clear : MethodName := ⟨RX3, "clear", "()V"⟩
abbrev cX3_doNext : ByteArray := prog_5_method_4_code
def yX3_doNext : MethodName := ⟨RX3, "doNext", "()V"⟩
abbrev cX3_doStep : ByteArray := prog_5_method_5_code
def yX3_doStep : MethodName := ⟨RX3, "doStep", "()Z"⟩
abbrev cX3_decide : ByteArray := prog_5_method_6_code
def yX3_decide : MethodName := ⟨RX3, "decide", "(II)I"⟩
abbrev cX3_fail : ByteArray := prog_5_method_7_code
def yX3_fail : MethodName := ⟨RX3, "fail", "(I)V"⟩
abbrev cX3_openScope : ByteArray := prog_5_method_8_code
def yX3_openScope : MethodName := ⟨RX3, "openScope", "(LChoicepoint$Expression;LChoicepoint$Expression;LChoicepoint$Expression;)I"⟩
abbrev cX3_openNames : ByteArray := prog_5_method_9_code
def yX3_openNames : MethodName := ⟨RX3, "openNames", "(II)V"⟩
abbrev cX3_makeThings : ByteArray := prog_5_method_10_code
def yX3_makeThings : MethodName := ⟨RX3, "makeThings", "(LChoicepoint$Expression;III)I"⟩
abbrev cX3_makeThing : ByteArray := prog_5_method_11_code
def yX3_makeThing : MethodName := ⟨RX3, "makeThing", "(LChoicepoint$Expression;III)I"⟩
abbrev cX3_force : ByteArray := prog_5_method_12_code
def yX3_force : MethodName := ⟨RX3, "force", "(I)V"⟩
abbrev cX3_isForced : ByteArray := prog_5_method_13_code
def yX3_isForced : MethodName := ⟨RX3, "isForced", "(I)Z"⟩
abbrev cX3_makeWhole : ByteArray := prog_5_method_14_code
def yX3_makeWhole : MethodName := ⟨RX3, "makeWhole", "(I)V"⟩
abbrev cX3_pushParts : ByteArray := prog_5_method_15_code
def yX3_pushParts : MethodName := ⟨RX3, "pushParts", "(I)V"⟩
abbrev cX3_choose : ByteArray := prog_5_method_16_code
def yX3_choose : MethodName := ⟨RX3, "choose", "(I)V"⟩
abbrev cX3_startCall : ByteArray := prog_5_method_17_code
def yX3_startCall : MethodName := ⟨RX3, "startCall", "(I)V"⟩
abbrev cX3_match : ByteArray := prog_5_method_18_code
def yX3_match : MethodName := ⟨RX3, "match", "(III)V"⟩
abbrev cX3_isKind : ByteArray := prog_5_method_19_code
def yX3_isKind : MethodName := ⟨RX3, "isKind", "(III)Z"⟩
abbrev cX3_matchParts : ByteArray := prog_5_method_20_code
def yX3_matchParts : MethodName := ⟨RX3, "matchParts", "(LChoicepoint$Expression;IIII)V"⟩
abbrev cX3_applyRule : ByteArray := prog_5_method_21_code
def yX3_applyRule : MethodName := ⟨RX3, "applyRule", "(I)V"⟩
abbrev cX3_unite : ByteArray := prog_5_method_22_code
def yX3_unite : MethodName := ⟨RX3, "unite", "(IIII)V"⟩
abbrev cX3_bind : ByteArray := prog_5_method_23_code
def yX3_bind : MethodName := ⟨RX3, "bind", "(III)V"⟩
abbrev cX3_pushPairs : ByteArray := prog_5_method_24_code
def yX3_pushPairs : MethodName := ⟨RX3, "pushPairs", "(IIII)V"⟩
abbrev cX3_ask : ByteArray := prog_5_method_25_code
def yX3_ask : MethodName := ⟨RX3, "ask", "(III)V"⟩
abbrev cX3_dropAsking : ByteArray := prog_5_method_26_code
def yX3_dropAsking : MethodName := ⟨RX3, "dropAsking", "()V"⟩
abbrev cX3_startSome : ByteArray := prog_5_method_27_code
def yX3_startSome : MethodName := ⟨RX3, "startSome", "(I)V"⟩
abbrev cX3_startRunWithin : ByteArray := prog_5_method_28_code
def yX3_startRunWithin : MethodName := ⟨RX3, "startRunWithin", "(LChoicepoint$Level;)V"⟩
abbrev cX3_endRunWithin : ByteArray := prog_5_method_29_code
def yX3_endRunWithin : MethodName := ⟨RX3, "endRunWithin", "()V"⟩
def RX4 : String := "Choicepoint$Nodes"
def TX4 : u_T := fun k => match k with
  | 0 => ("Choicepoint$Nodes", "tags", "[I", true)
  | 1 => ("Choicepoint$Nodes", "whats", "[I", true)
  | 2 => ("Choicepoint$Nodes", "lefts", "[I", true)
  | 3 => ("Choicepoint$Nodes", "rights", "[I", true)
  | 4 => ("Choicepoint$Nodes", "sizes", "[I", true)
  | _ => ("Choicepoint$Nodes", "told", "I", false)
def tyX4 : Nat → FieldType := fun k => match k with
  | 0 => .array .int
  | 1 => .array .int
  | 2 => .array .int
  | 3 => .array .int
  | 4 => .array .int
  | _ => .int
abbrev wsX40 : List Cond := u_ws RX4 TX4 6
theorem nmX4 : ∀ a, a < 6 → ∀ b, b < 6 → a ≠ b → (TX4 a).2.1 ≠ (TX4 b).2.1 := by decide +kernel
theorem tyX4_ok : ∀ k, k < 6 → parseFieldDescriptor (TX4 k).2.2.1 = some (tyX4 k) := by decide +kernel
abbrev cX4_init : ByteArray := prog_6_method_1_code
def yX4_init : MethodName := ⟨RX4, "<init>", "()V"⟩
abbrev cX4_has : ByteArray := prog_6_method_2_code
def yX4_has : MethodName := ⟨RX4, "has", "(I)Z"⟩
abbrev cX4_sizeOf : ByteArray := prog_6_method_3_code
def yX4_sizeOf : MethodName := ⟨RX4, "sizeOf", "(I)I"⟩
abbrev cX4_hasRoom : ByteArray := prog_6_method_4_code
def yX4_hasRoom : MethodName := ⟨RX4, "hasRoom", "(II)Z"⟩
abbrev cX4_add : ByteArray := prog_6_method_5_code
def yX4_add : MethodName := ⟨RX4, "add", "(IIII)I"⟩
def RX5 : String := "Choicepoint$Program"
def TX5 : u_T := fun k => match k with
  | 0 => ("Choicepoint$Program", "parts", "[I", true)
  | 1 => ("Choicepoint$Program", "areRigid", "[Z", true)
  | 2 => ("Choicepoint$Program", "ruleCounts", "[I", true)
  | 3 => ("Choicepoint$Program", "rulePlaces", "[LChoicepoint$Rule;", true)
  | 4 => ("Choicepoint$Program", "functions", "I", false)
  | _ => ("Choicepoint$Program", "rules", "I", false)
def tyX5 : Nat → FieldType := fun k => match k with
  | 0 => .array .int
  | 1 => .array .boolean
  | 2 => .array .int
  | 3 => .array (.object "Choicepoint$Rule")
  | 4 => .int
  | _ => .int
abbrev wsX50 : List Cond := u_ws RX5 TX5 6
theorem nmX5 : ∀ a, a < 6 → ∀ b, b < 6 → a ≠ b → (TX5 a).2.1 ≠ (TX5 b).2.1 := by decide +kernel
theorem tyX5_ok : ∀ k, k < 6 → parseFieldDescriptor (TX5 k).2.2.1 = some (tyX5 k) := by decide +kernel
abbrev cX5_init : ByteArray := prog_7_method_1_code
def yX5_init : MethodName := ⟨RX5, "<init>", "()V"⟩
abbrev cX5_addFunction : ByteArray := prog_7_method_2_code
def yX5_addFunction : MethodName := ⟨RX5, "addFunction", "(IZ)I"⟩
abbrev cX5_partsOf : ByteArray := prog_7_method_3_code
def yX5_partsOf : MethodName := ⟨RX5, "partsOf", "(I)I"⟩
abbrev cX5_rulesOf : ByteArray := prog_7_method_4_code
def yX5_rulesOf : MethodName := ⟨RX5, "rulesOf", "(I)I"⟩
abbrev cX5_ruleOf : ByteArray := prog_7_method_5_code
def yX5_ruleOf : MethodName := ⟨RX5, "ruleOf", "(II)LChoicepoint$Rule;"⟩
abbrev cX5_addRule : ByteArray := prog_7_method_6_code
def yX5_addRule : MethodName := ⟨RX5, "addRule", "(ILChoicepoint$Rule;)I"⟩
abbrev cX5_takeLastRule : ByteArray := prog_7_method_7_code
def yX5_takeLastRule : MethodName := ⟨RX5, "takeLastRule", "(I)I"⟩
abbrev cX5_findMany : ByteArray := prog_7_method_8_code
def yX5_findMany : MethodName := ⟨RX5, "findMany", "()I"⟩
abbrev cX5_isMany : ByteArray := prog_7_method_9_code
def yX5_isMany : MethodName := ⟨RX5, "isMany", "(II)Z"⟩
abbrev cX5_meetsEarlier : ByteArray := prog_7_method_10_code
def yX5_meetsEarlier : MethodName := ⟨RX5, "meetsEarlier", "(IILChoicepoint$Rule;)Z"⟩
def RX6 : String := "Choicepoint$Rule"
def TX6 : u_T := fun k => match k with
  | 0 => ("Choicepoint$Rule", "first", "LChoicepoint$Expression;", true)
  | 1 => ("Choicepoint$Rule", "second", "LChoicepoint$Expression;", true)
  | 2 => ("Choicepoint$Rule", "right", "LChoicepoint$Expression;", true)
  | 3 => ("Choicepoint$Rule", "names", "I", true)
  | _ => ("Choicepoint$Rule", "isLeftSide", "Z", true)
def tyX6 : Nat → FieldType := fun k => match k with
  | 0 => .object "Choicepoint$Expression"
  | 1 => .object "Choicepoint$Expression"
  | 2 => .object "Choicepoint$Expression"
  | 3 => .int
  | _ => .boolean
abbrev wsX60 : List Cond := u_ws RX6 TX6 5
theorem nmX6 : ∀ a, a < 5 → ∀ b, b < 5 → a ≠ b → (TX6 a).2.1 ≠ (TX6 b).2.1 := by decide +kernel
theorem tyX6_ok : ∀ k, k < 5 → parseFieldDescriptor (TX6 k).2.2.1 = some (tyX6 k) := by decide +kernel
abbrev cX6_init : ByteArray := prog_8_method_1_code
def yX6_init : MethodName := ⟨RX6, "<init>", "(LChoicepoint$Expression;LChoicepoint$Expression;LChoicepoint$Expression;)V"⟩
abbrev cX6_addNames : ByteArray := prog_8_method_2_code
def yX6_addNames : MethodName := ⟨RX6, "addNames", "(LChoicepoint$Expression;I)I"⟩
abbrev cX6_meets : ByteArray := prog_8_method_3_code
def yX6_meets : MethodName := ⟨RX6, "meets", "(LChoicepoint$Rule;)Z"⟩
def RX7 : String := "Choicepoint$Scope"
def TX7 : u_T := fun k => match k with
  | 0 => ("Choicepoint$Scope", "stands", "[I", true)
  | 1 => ("Choicepoint$Scope", "first", "LChoicepoint$Expression;", false)
  | 2 => ("Choicepoint$Scope", "second", "LChoicepoint$Expression;", false)
  | _ => ("Choicepoint$Scope", "text", "LChoicepoint$Expression;", false)
def tyX7 : Nat → FieldType := fun k => match k with
  | 0 => .array .int
  | 1 => .object "Choicepoint$Expression"
  | 2 => .object "Choicepoint$Expression"
  | _ => .object "Choicepoint$Expression"
abbrev wsX70 : List Cond := u_ws RX7 TX7 4
theorem nmX7 : ∀ a, a < 4 → ∀ b, b < 4 → a ≠ b → (TX7 a).2.1 ≠ (TX7 b).2.1 := by decide +kernel
theorem tyX7_ok : ∀ k, k < 4 → parseFieldDescriptor (TX7 k).2.2.1 = some (tyX7 k) := by decide +kernel
abbrev cX7_init : ByteArray := prog_9_method_1_code
def yX7_init : MethodName := ⟨RX7, "<init>", "()V"⟩
abbrev cX7_open : ByteArray := prog_9_method_2_code
def yX7_open : MethodName := ⟨RX7, "open", "(LChoicepoint$Expression;LChoicepoint$Expression;LChoicepoint$Expression;)V"⟩
def RX8 : String := "Choicepoint$Searches"
def TX8 : u_T := fun k => match k with
  | 0 => ("Choicepoint$Searches", "machine", "LChoicepoint$Machine;", true)
  | 1 => ("Choicepoint$Searches", "found", "[LChoicepoint$Found;", true)
  | 2 => ("Choicepoint$Searches", "numbers", "[I", true)
  | 3 => ("Choicepoint$Searches", "origins", "[I", true)
  | 4 => ("Choicepoint$Searches", "lastWays", "[I", true)
  | 5 => ("Choicepoint$Searches", "lengths", "[I", true)
  | 6 => ("Choicepoint$Searches", "rows", "I", false)
  | 7 => ("Choicepoint$Searches", "left", "[I", true)
  | 8 => ("Choicepoint$Searches", "start", "I", false)
  | 9 => ("Choicepoint$Searches", "end", "I", false)
  | _ => ("Choicepoint$Searches", "kept", "I", false)
def tyX8 : Nat → FieldType := fun k => match k with
  | 0 => .object "Choicepoint$Machine"
  | 1 => .array (.object "Choicepoint$Found")
  | 2 => .array .int
  | 3 => .array .int
  | 4 => .array .int
  | 5 => .array .int
  | 6 => .int
  | 7 => .array .int
  | 8 => .int
  | 9 => .int
  | _ => .int
abbrev wsX80 : List Cond := u_ws RX8 TX8 11
theorem nmX8 : ∀ a, a < 11 → ∀ b, b < 11 → a ≠ b → (TX8 a).2.1 ≠ (TX8 b).2.1 := by decide +kernel
theorem tyX8_ok : ∀ k, k < 11 → parseFieldDescriptor (TX8 k).2.2.1 = some (tyX8 k) := by decide +kernel
abbrev cX8_init : ByteArray := prog_10_method_1_code
def yX8_init : MethodName := ⟨RX8, "<init>", "(LChoicepoint$Machine;)V"⟩
abbrev cX8_make : ByteArray := prog_10_method_2_code
def yX8_make : MethodName := ⟨RX8, "make", "(LChoicepoint$Expression;II)I"⟩
abbrev cX8_clear : ByteArray := prog_10_method_3_code
def yX8_clear : MethodName := ⟨RX8, "clear", "()V"⟩
abbrev cX8_addRow : ByteArray := prog_10_method_4_code
def yX8_addRow : MethodName := ⟨RX8, "addRow", "(III)V"⟩
abbrev cX8_addBranches : ByteArray := prog_10_method_5_code
def yX8_addBranches : MethodName := ⟨RX8, "addBranches", "(II)V"⟩
abbrev cX8_takeRow : ByteArray := prog_10_method_6_code
def yX8_takeRow : MethodName := ⟨RX8, "takeRow", "(I)I"⟩
abbrev cX8_giveWays : ByteArray := prog_10_method_7_code
def yX8_giveWays : MethodName := ⟨RX8, "giveWays", "(I)V"⟩
abbrev cX8_keepValue : ByteArray := prog_10_method_8_code
def yX8_keepValue : MethodName := ⟨RX8, "keepValue", "(I)V"⟩
abbrev cX8_countWithin : ByteArray := prog_10_method_9_code
def yX8_countWithin : MethodName := ⟨RX8, "countWithin", "(LChoicepoint$Expression;I)I"⟩
def RX9 : String := "Choicepoint$Tasks"
def TX9 : u_T := fun k => match k with
  | 0 => ("Choicepoint$Tasks", "acts", "[I", true)
  | 1 => ("Choicepoint$Tasks", "firsts", "[I", true)
  | 2 => ("Choicepoint$Tasks", "seconds", "[I", true)
  | 3 => ("Choicepoint$Tasks", "thirds", "[I", true)
  | _ => ("Choicepoint$Tasks", "size", "I", false)
def tyX9 : Nat → FieldType := fun k => match k with
  | 0 => .array .int
  | 1 => .array .int
  | 2 => .array .int
  | 3 => .array .int
  | _ => .int
abbrev wsX90 : List Cond := u_ws RX9 TX9 5
theorem nmX9 : ∀ a, a < 5 → ∀ b, b < 5 → a ≠ b → (TX9 a).2.1 ≠ (TX9 b).2.1 := by decide +kernel
theorem tyX9_ok : ∀ k, k < 5 → parseFieldDescriptor (TX9 k).2.2.1 = some (tyX9 k) := by decide +kernel
abbrev cX9_init : ByteArray := prog_11_method_1_code
def yX9_init : MethodName := ⟨RX9, "<init>", "()V"⟩
abbrev cX9_push : ByteArray := prog_11_method_2_code
def yX9_push : MethodName := ⟨RX9, "push", "(IIII)V"⟩
abbrev cX9_push_ : ByteArray := prog_11_method_3_code
def yX9_push_ : MethodName := ⟨RX9, "push", "(II)V"⟩
def RX10 : String := "Choicepoint$Things"
def TX10 : u_T := fun k => match k with
  | 0 => ("Choicepoint$Things", "tags", "[I", true)
  | 1 => ("Choicepoint$Things", "whats", "[I", true)
  | 2 => ("Choicepoint$Things", "lefts", "[I", true)
  | 3 => ("Choicepoint$Things", "rights", "[I", true)
  | 4 => ("Choicepoint$Things", "scopes", "[I", true)
  | 5 => ("Choicepoint$Things", "owners", "[I", true)
  | 6 => ("Choicepoint$Things", "wholes", "[I", true)
  | 7 => ("Choicepoint$Things", "looks", "[I", true)
  | 8 => ("Choicepoint$Things", "queue", "[I", true)
  | 9 => ("Choicepoint$Things", "size", "I", false)
  | _ => ("Choicepoint$Things", "look", "I", false)
def tyX10 : Nat → FieldType := fun k => match k with
  | 0 => .array .int
  | 1 => .array .int
  | 2 => .array .int
  | 3 => .array .int
  | 4 => .array .int
  | 5 => .array .int
  | 6 => .array .int
  | 7 => .array .int
  | 8 => .array .int
  | 9 => .int
  | _ => .int
abbrev wsX100 : List Cond := u_ws RX10 TX10 11
theorem nmX10 : ∀ a, a < 11 → ∀ b, b < 11 → a ≠ b → (TX10 a).2.1 ≠ (TX10 b).2.1 := by decide +kernel
theorem tyX10_ok : ∀ k, k < 11 → parseFieldDescriptor (TX10 k).2.2.1 = some (tyX10 k) := by decide +kernel
abbrev cX10_init : ByteArray := prog_12_method_1_code
def yX10_init : MethodName := ⟨RX10, "<init>", "()V"⟩
abbrev cX10_add : ByteArray := prog_12_method_2_code
def yX10_add : MethodName := ⟨RX10, "add", "(IIIIII)I"⟩
abbrev cX10_addOpen : ByteArray := prog_12_method_3_code
def yX10_addOpen : MethodName := ⟨RX10, "addOpen", "(I)I"⟩
abbrev cX10_find : ByteArray := prog_12_method_4_code
def yX10_find : MethodName := ⟨RX10, "find", "(I)I"⟩
abbrev cX10_become : ByteArray := prog_12_method_5_code
def yX10_become : MethodName := ⟨RX10, "become", "(II)V"⟩
abbrev cX10_becomeData : ByteArray := prog_12_method_6_code
def yX10_becomeData : MethodName := ⟨RX10, "becomeData", "(IIII)V"⟩
abbrev cX10_isIn : ByteArray := prog_12_method_7_code
def yX10_isIn : MethodName := ⟨RX10, "isIn", "(II)Z"⟩
abbrev cX10_enqueue : ByteArray := prog_12_method_8_code
def yX10_enqueue : MethodName := ⟨RX10, "enqueue", "(II)I"⟩
def RX11 : String := "Choicepoint"
def TX11 : u_T := fun k => match k with
  | 0 => ("Choicepoint", "nodes", "LChoicepoint$Nodes;", true)
  | 1 => ("Choicepoint", "program", "LChoicepoint$Program;", true)
  | 2 => ("Choicepoint", "machine", "LChoicepoint$Machine;", true)
  | 3 => ("Choicepoint", "searches", "LChoicepoint$Searches;", true)
  | _ => ("Choicepoint", "aim", "LChoicepoint$Expression;", false)
def tyX11 : Nat → FieldType := fun k => match k with
  | 0 => .object "Choicepoint$Nodes"
  | 1 => .object "Choicepoint$Program"
  | 2 => .object "Choicepoint$Machine"
  | 3 => .object "Choicepoint$Searches"
  | _ => .object "Choicepoint$Expression"
abbrev wsX110 : List Cond := u_ws RX11 TX11 5
theorem nmX11 : ∀ a, a < 5 → ∀ b, b < 5 → a ≠ b → (TX11 a).2.1 ≠ (TX11 b).2.1 := by decide +kernel
theorem tyX11_ok : ∀ k, k < 5 → parseFieldDescriptor (TX11 k).2.2.1 = some (tyX11 k) := by decide +kernel
abbrev cX11_init : ByteArray := prog_1_method_1_code
def yX11_init : MethodName := ⟨RX11, "<init>", "()V"⟩
abbrev cX11_function : ByteArray := prog_1_method_2_code
def yX11_function : MethodName := ⟨RX11, "function", "(IZ)I"⟩
abbrev cX11_name : ByteArray := prog_1_method_3_code
def yX11_name : MethodName := ⟨RX11, "name", "(I)I"⟩
abbrev cX11_data : ByteArray := prog_1_method_4_code
def yX11_data : MethodName := ⟨RX11, "data", "(III)I"⟩
abbrev cX11_call : ByteArray := prog_1_method_5_code
def yX11_call : MethodName := ⟨RX11, "call", "(III)I"⟩
abbrev cX11_either : ByteArray := prog_1_method_6_code
def yX11_either : MethodName := ⟨RX11, "either", "(II)I"⟩
abbrev cX11_same : ByteArray := prog_1_method_7_code
def yX11_same : MethodName := ⟨RX11, "same", "(II)I"⟩
abbrev cX11_unlike : ByteArray := prog_1_method_8_code
def yX11_unlike : MethodName := ⟨RX11, "unlike", "(II)I"⟩
abbrev cX11_some : ByteArray := prog_1_method_9_code
def yX11_some : MethodName := ⟨RX11, "some", "(I)I"⟩
abbrev cX11_drop : ByteArray := prog_1_method_10_code
def yX11_drop : MethodName := ⟨RX11, "drop", "()I"⟩
abbrev cX11_rule : ByteArray := prog_1_method_11_code
def yX11_rule : MethodName := ⟨RX11, "rule", "(IIII)I"⟩
abbrev cX11_unrule : ByteArray := prog_1_method_12_code
def yX11_unrule : MethodName := ⟨RX11, "unrule", "(I)I"⟩
abbrev cX11_many : ByteArray := prog_1_method_13_code
def yX11_many : MethodName := ⟨RX11, "many", "()I"⟩
abbrev cX11_goal : ByteArray := prog_1_method_14_code
def yX11_goal : MethodName := ⟨RX11, "goal", "(I)I"⟩
abbrev cX11_search : ByteArray := prog_1_method_15_code
def yX11_search : MethodName := ⟨RX11, "search", "(II)I"⟩
abbrev cX11_count : ByteArray := prog_1_method_16_code
def yX11_count : MethodName := ⟨RX11, "count", "(I)I"⟩
abbrev cX11_part : ByteArray := prog_1_method_17_code
def yX11_part : MethodName := ⟨RX11, "part", "(II)I"⟩
abbrev cX11_bound : ByteArray := prog_1_method_18_code
def yX11_bound : MethodName := ⟨RX11, "bound", "(III)I"⟩
abbrev cX11_steps : ByteArray := prog_1_method_19_code
def yX11_steps : MethodName := ⟨RX11, "steps", "(I)I"⟩
abbrev cX11_fate : ByteArray := prog_1_method_20_code
def yX11_fate : MethodName := ⟨RX11, "fate", "(II)I"⟩
abbrev cX11_within : ByteArray := prog_1_method_21_code
def yX11_within : MethodName := ⟨RX11, "within", "(I)I"⟩
abbrev cX11_needFunction : ByteArray := prog_1_method_22_code
def yX11_needFunction : MethodName := ⟨RX11, "needFunction", "(I)V"⟩
abbrev cX11_needParts : ByteArray := prog_1_method_23_code
def yX11_needParts : MethodName := ⟨RX11, "needParts", "(III)V"⟩
abbrev cX11_needPlace : ByteArray := prog_1_method_24_code
def yX11_needPlace : MethodName := ⟨RX11, "needPlace", "(II)V"⟩
abbrev cX11_tell : ByteArray := prog_1_method_25_code
def yX11_tell : MethodName := ⟨RX11, "tell", "(IIII)I"⟩
abbrev cX11_numberAt : ByteArray := prog_1_method_26_code
def yX11_numberAt : MethodName := ⟨RX11, "numberAt", "([II)I"⟩
abbrev cX11_partsOfKind : ByteArray := prog_1_method_27_code
def yX11_partsOfKind : MethodName := ⟨RX11, "partsOfKind", "(I)I"⟩
def RX12 : String := "ChoicepointModel"
def TX12 : u_T := fun k => match k with
  | 0 => ("ChoicepointModel", "functionMany", "I", false)
  | 1 => ("ChoicepointModel", "functionParts", "[I", true)
  | 2 => ("ChoicepointModel", "isRigid", "[Z", true)
  | 3 => ("ChoicepointModel", "nodeMany", "I", false)
  | 4 => ("ChoicepointModel", "nodeLong", "[I", true)
  | 5 => ("ChoicepointModel", "nodeCodes", "[I", true)
  | 6 => ("ChoicepointModel", "ruleMany", "[I", true)
  | 7 => ("ChoicepointModel", "ruleAt", "[I", true)
  | 8 => ("ChoicepointModel", "isUsed", "[Z", true)
  | 9 => ("ChoicepointModel", "rulesInAll", "I", false)
  | 10 => ("ChoicepointModel", "codes", "[I", true)
  | 11 => ("ChoicepointModel", "hasGoal", "Z", false)
  | 12 => ("ChoicepointModel", "thrown", "I", false)
  | 13 => ("ChoicepointModel", "thingMany", "I", false)
  | 14 => ("ChoicepointModel", "kinds", "[I", true)
  | 15 => ("ChoicepointModel", "ones", "[I", true)
  | 16 => ("ChoicepointModel", "firsts", "[I", true)
  | 17 => ("ChoicepointModel", "seconds", "[I", true)
  | 18 => ("ChoicepointModel", "owners", "[I", true)
  | 19 => ("ChoicepointModel", "places", "[I", true)
  | 20 => ("ChoicepointModel", "callRules", "[I", true)
  | 21 => ("ChoicepointModel", "isWhole", "[Z", true)
  | 22 => ("ChoicepointModel", "placeMany", "I", false)
  | 23 => ("ChoicepointModel", "names", "[I", true)
  | 24 => ("ChoicepointModel", "taskMany", "I", false)
  | 25 => ("ChoicepointModel", "taskKinds", "[I", true)
  | 26 => ("ChoicepointModel", "taskOnes", "[I", true)
  | 27 => ("ChoicepointModel", "taskTwos", "[I", true)
  | 28 => ("ChoicepointModel", "taskThrees", "[I", true)
  | 29 => ("ChoicepointModel", "end", "I", false)
  | 30 => ("ChoicepointModel", "stepMany", "I", false)
  | 31 => ("ChoicepointModel", "level", "I", false)
  | 32 => ("ChoicepointModel", "bases", "[I", true)
  | 33 => ("ChoicepointModel", "someOf", "[I", true)
  | 34 => ("ChoicepointModel", "attempts", "[I", true)
  | 35 => ("ChoicepointModel", "wayMany", "[I", true)
  | 36 => ("ChoicepointModel", "used", "[I", true)
  | 37 => ("ChoicepointModel", "ways", "[I", true)
  | 38 => ("ChoicepointModel", "outOf", "[I", true)
  | 39 => ("ChoicepointModel", "branchMany", "I", false)
  | 40 => ("ChoicepointModel", "open", "[I", true)
  | 41 => ("ChoicepointModel", "lacks", "[I", true)
  | 42 => ("ChoicepointModel", "pairMany", "I", false)
  | 43 => ("ChoicepointModel", "pairOnes", "[I", true)
  | 44 => ("ChoicepointModel", "pairTwos", "[I", true)
  | 45 => ("ChoicepointModel", "seen", "[I", true)
  | 46 => ("ChoicepointModel", "seenRound", "I", false)
  | 47 => ("ChoicepointModel", "looks", "[I", true)
  | 48 => ("ChoicepointModel", "goalThing", "I", false)
  | 49 => ("ChoicepointModel", "goalNames", "I", false)
  | 50 => ("ChoicepointModel", "keptMany", "I", false)
  | 51 => ("ChoicepointModel", "rowLong", "[I", true)
  | 52 => ("ChoicepointModel", "rows", "[I", true)
  | 53 => ("ChoicepointModel", "keptSteps", "[I", true)
  | 54 => ("ChoicepointModel", "keptFates", "[I", true)
  | 55 => ("ChoicepointModel", "fates", "[I", true)
  | 56 => ("ChoicepointModel", "counts", "[I", true)
  | 57 => ("ChoicepointModel", "waitingMany", "I", false)
  | 58 => ("ChoicepointModel", "lainMany", "I", false)
  | 59 => ("ChoicepointModel", "order", "[I", true)
  | 60 => ("ChoicepointModel", "lainLong", "[I", true)
  | 61 => ("ChoicepointModel", "lain", "[I", true)
  | 62 => ("ChoicepointModel", "openTold", "[I", true)
  | _ => ("ChoicepointModel", "branchOf", "[I", true)
def tyX12 : Nat → FieldType := fun k => match k with
  | 0 => .int
  | 1 => .array .int
  | 2 => .array .boolean
  | 3 => .int
  | 4 => .array .int
  | 5 => .array .int
  | 6 => .array .int
  | 7 => .array .int
  | 8 => .array .boolean
  | 9 => .int
  | 10 => .array .int
  | 11 => .boolean
  | 12 => .int
  | 13 => .int
  | 14 => .array .int
  | 15 => .array .int
  | 16 => .array .int
  | 17 => .array .int
  | 18 => .array .int
  | 19 => .array .int
  | 20 => .array .int
  | 21 => .array .boolean
  | 22 => .int
  | 23 => .array .int
  | 24 => .int
  | 25 => .array .int
  | 26 => .array .int
  | 27 => .array .int
  | 28 => .array .int
  | 29 => .int
  | 30 => .int
  | 31 => .int
  | 32 => .array .int
  | 33 => .array .int
  | 34 => .array .int
  | 35 => .array .int
  | 36 => .array .int
  | 37 => .array .int
  | 38 => .array .int
  | 39 => .int
  | 40 => .array .int
  | 41 => .array .int
  | 42 => .int
  | 43 => .array .int
  | 44 => .array .int
  | 45 => .array .int
  | 46 => .int
  | 47 => .array .int
  | 48 => .int
  | 49 => .int
  | 50 => .int
  | 51 => .array .int
  | 52 => .array .int
  | 53 => .array .int
  | 54 => .array .int
  | 55 => .array .int
  | 56 => .array .int
  | 57 => .int
  | 58 => .int
  | 59 => .array .int
  | 60 => .array .int
  | 61 => .array .int
  | 62 => .array .int
  | _ => .array .int
abbrev wsX120 : List Cond := u_ws RX12 TX12 64
theorem nmX12 : ∀ a, a < 64 → ∀ b, b < 64 → a ≠ b → (TX12 a).2.1 ≠ (TX12 b).2.1 := by decide +kernel
theorem tyX12_ok : ∀ k, k < 64 → parseFieldDescriptor (TX12 k).2.2.1 = some (tyX12 k) := by decide +kernel
abbrev cX12_init : ByteArray := prog_14_method_1_code
def yX12_init : MethodName := ⟨RX12, "<init>", "()V"⟩
abbrev cX12_thrown : ByteArray := prog_14_method_2_code
def yX12_thrown : MethodName := ⟨RX12, "thrown", "()I"⟩
abbrev cX12_in : ByteArray := prog_14_method_3_code
def yX12_in : MethodName := ⟨RX12, "in", "(III)Z"⟩
abbrev cX12_isFunction : ByteArray := prog_14_method_4_code
def yX12_isFunction : MethodName := ⟨RX12, "isFunction", "(I)Z"⟩
abbrev cX12_isNode : ByteArray := prog_14_method_5_code
def yX12_isNode : MethodName := ⟨RX12, "isNode", "(I)Z"⟩
abbrev cX12_partsOf : ByteArray := prog_14_method_6_code
def yX12_partsOf : MethodName := ⟨RX12, "partsOf", "(I)I"⟩
abbrev cX12_function : ByteArray := prog_14_method_7_code
def yX12_function : MethodName := ⟨RX12, "function", "(IZ)I"⟩
abbrev cX12_adds : ByteArray := prog_14_method_8_code
def yX12_adds : MethodName := ⟨RX12, "adds", "(I)V"⟩
abbrev cX12_lay : ByteArray := prog_14_method_9_code
def yX12_lay : MethodName := ⟨RX12, "lay", "(IIII)I"⟩
abbrev cX12_areParts : ByteArray := prog_14_method_10_code
def yX12_areParts : MethodName := ⟨RX12, "areParts", "(III)Z"⟩
abbrev cX12_name : ByteArray := prog_14_method_11_code
def yX12_name : MethodName := ⟨RX12, "name", "(I)I"⟩
abbrev cX12_data : ByteArray := prog_14_method_12_code
def yX12_data : MethodName := ⟨RX12, "data", "(III)I"⟩
abbrev cX12_call : ByteArray := prog_14_method_13_code
def yX12_call : MethodName := ⟨RX12, "call", "(III)I"⟩
abbrev cX12_layTwo : ByteArray := prog_14_method_14_code
def yX12_layTwo : MethodName := ⟨RX12, "layTwo", "(III)I"⟩
abbrev cX12_either : ByteArray := prog_14_method_15_code
def yX12_either : MethodName := ⟨RX12, "either", "(II)I"⟩
abbrev cX12_same : ByteArray := prog_14_method_16_code
def yX12_same : MethodName := ⟨RX12, "same", "(II)I"⟩
abbrev cX12_unlike : ByteArray := prog_14_method_17_code
def yX12_unlike : MethodName := ⟨RX12, "unlike", "(II)I"⟩
abbrev cX12_some : ByteArray := prog_14_method_18_code
def yX12_some : MethodName := ⟨RX12, "some", "(I)I"⟩
abbrev cX12_drop : ByteArray := prog_14_method_19_code
def yX12_drop : MethodName := ⟨RX12, "drop", "()I"⟩
abbrev cX12_patternNames : ByteArray := prog_14_method_20_code
def yX12_patternNames : MethodName := ⟨RX12, "patternNames", "(II)I"⟩
abbrev cX12_copies : ByteArray := prog_14_method_21_code
def yX12_copies : MethodName := ⟨RX12, "copies", "(II)V"⟩
abbrev cX12_rule : ByteArray := prog_14_method_22_code
def yX12_rule : MethodName := ⟨RX12, "rule", "(IIII)I"⟩
abbrev cX12_patternAt : ByteArray := prog_14_method_23_code
def yX12_patternAt : MethodName := ⟨RX12, "patternAt", "(II)I"⟩
abbrev cX12_unrule : ByteArray := prog_14_method_24_code
def yX12_unrule : MethodName := ⟨RX12, "unrule", "(I)I"⟩
abbrev cX12_endOf : ByteArray := prog_14_method_25_code
def yX12_endOf : MethodName := ⟨RX12, "endOf", "(I)I"⟩
abbrev cX12_canMeet : ByteArray := prog_14_method_26_code
def yX12_canMeet : MethodName := ⟨RX12, "canMeet", "(II)Z"⟩
abbrev cX12_doRulesMeet : ByteArray := prog_14_method_27_code
def yX12_doRulesMeet : MethodName := ⟨RX12, "doRulesMeet", "(III)Z"⟩
abbrev cX12_namesAt : ByteArray := prog_14_method_28_code
def yX12_namesAt : MethodName := ⟨RX12, "namesAt", "(I)I"⟩
abbrev cX12_bringsMany : ByteArray := prog_14_method_29_code
def yX12_bringsMany : MethodName := ⟨RX12, "bringsMany", "(III)Z"⟩
abbrev cX12_isMany : ByteArray := prog_14_method_30_code
def yX12_isMany : MethodName := ⟨RX12, "isMany", "(II)Z"⟩
abbrev cX12_many : ByteArray := prog_14_method_31_code
def yX12_many : MethodName := ⟨RX12, "many", "()I"⟩
abbrev cX12_goal : ByteArray := prog_14_method_32_code
def yX12_goal : MethodName := ⟨RX12, "goal", "(I)I"⟩
abbrev cX12_newThing : ByteArray := prog_14_method_33_code
def yX12_newThing : MethodName := ⟨RX12, "newThing", "(III)I"⟩
abbrev cX12_root : ByteArray := prog_14_method_34_code
def yX12_root : MethodName := ⟨RX12, "root", "(I)I"⟩
abbrev cX12_become : ByteArray := prog_14_method_35_code
def yX12_become : MethodName := ⟨RX12, "become", "(II)V"⟩
abbrev cX12_becomeData : ByteArray := prog_14_method_36_code
def yX12_becomeData : MethodName := ⟨RX12, "becomeData", "(II)V"⟩
abbrev cX12_newNames : ByteArray := prog_14_method_37_code
def yX12_newNames : MethodName := ⟨RX12, "newNames", "()I"⟩
abbrev cX12_opens : ByteArray := prog_14_method_38_code
def yX12_opens : MethodName := ⟨RX12, "opens", "(III)V"⟩
abbrev cX12_kindOf : ByteArray := prog_14_method_39_code
def yX12_kindOf : MethodName := ⟨RX12, "kindOf", "(I)I"⟩
abbrev cX12_make : ByteArray := prog_14_method_40_code
def yX12_make : MethodName := ⟨RX12, "make", "(III)I"⟩
abbrev cX12_task : ByteArray := prog_14_method_41_code
def yX12_task : MethodName := ⟨RX12, "task", "(IIII)V"⟩
abbrev cX12_step : ByteArray := prog_14_method_42_code
def yX12_step : MethodName := ⟨RX12, "step", "()V"⟩
abbrev cX12_decide : ByteArray := prog_14_method_43_code
def yX12_decide : MethodName := ⟨RX12, "decide", "(II)I"⟩
abbrev cX12_attempt : ByteArray := prog_14_method_44_code
def yX12_attempt : MethodName := ⟨RX12, "attempt", "()V"⟩
abbrev cX12_beginSome : ByteArray := prog_14_method_45_code
def yX12_beginSome : MethodName := ⟨RX12, "beginSome", "(I)V"⟩
abbrev cX12_fail : ByteArray := prog_14_method_46_code
def yX12_fail : MethodName := ⟨RX12, "fail", "(I)V"⟩
abbrev cX12_call_ : ByteArray := prog_14_method_47_code
def yX12_call_ : MethodName := ⟨RX12, "call", "(I)V"⟩
abbrev cX12_force : ByteArray := prog_14_method_48_code
def yX12_force : MethodName := ⟨RX12, "force", "(I)V"⟩
abbrev cX12_match : ByteArray := prog_14_method_49_code
def yX12_match : MethodName := ⟨RX12, "match", "(III)V"⟩
abbrev cX12_matchData : ByteArray := prog_14_method_50_code
def yX12_matchData : MethodName := ⟨RX12, "matchData", "(III)V"⟩
abbrev cX12_endCall : ByteArray := prog_14_method_51_code
def yX12_endCall : MethodName := ⟨RX12, "endCall", "(I)V"⟩
abbrev cX12_parts : ByteArray := prog_14_method_52_code
def yX12_parts : MethodName := ⟨RX12, "parts", "(I)V"⟩
abbrev cX12_pair : ByteArray := prog_14_method_53_code
def yX12_pair : MethodName := ⟨RX12, "pair", "(II)V"⟩
abbrev cX12_isIn : ByteArray := prog_14_method_54_code
def yX12_isIn : MethodName := ⟨RX12, "isIn", "(II)Z"⟩
abbrev cX12_bind : ByteArray := prog_14_method_55_code
def yX12_bind : MethodName := ⟨RX12, "bind", "(III)V"⟩
abbrev cX12_endSame : ByteArray := prog_14_method_56_code
def yX12_endSame : MethodName := ⟨RX12, "endSame", "(I)V"⟩
abbrev cX12_endUnlike : ByteArray := prog_14_method_57_code
def yX12_endUnlike : MethodName := ⟨RX12, "endUnlike", "(I)V"⟩
abbrev cX12_does : ByteArray := prog_14_method_58_code
def yX12_does : MethodName := ⟨RX12, "does", "(IIII)V"⟩
abbrev cX12_run : ByteArray := prog_14_method_59_code
def yX12_run : MethodName := ⟨RX12, "run", "()V"⟩
abbrev cX12_tell : ByteArray := prog_14_method_60_code
def yX12_tell : MethodName := ⟨RX12, "tell", "(II)V"⟩
abbrev cX12_keepValue : ByteArray := prog_14_method_61_code
def yX12_keepValue : MethodName := ⟨RX12, "keepValue", "()V"⟩
abbrev cX12_lays : ByteArray := prog_14_method_62_code
def yX12_lays : MethodName := ⟨RX12, "lays", "(I)V"⟩
abbrev cX12_takes : ByteArray := prog_14_method_63_code
def yX12_takes : MethodName := ⟨RX12, "takes", "(I)V"⟩
abbrev cX12_search : ByteArray := prog_14_method_64_code
def yX12_search : MethodName := ⟨RX12, "search", "(II)I"⟩
abbrev cX12_count : ByteArray := prog_14_method_65_code
def yX12_count : MethodName := ⟨RX12, "count", "(I)I"⟩
abbrev cX12_isValue : ByteArray := prog_14_method_66_code
def yX12_isValue : MethodName := ⟨RX12, "isValue", "(I)Z"⟩
abbrev cX12_told : ByteArray := prog_14_method_67_code
def yX12_told : MethodName := ⟨RX12, "told", "(II)I"⟩
abbrev cX12_part : ByteArray := prog_14_method_68_code
def yX12_part : MethodName := ⟨RX12, "part", "(II)I"⟩
abbrev cX12_bound : ByteArray := prog_14_method_69_code
def yX12_bound : MethodName := ⟨RX12, "bound", "(III)I"⟩
abbrev cX12_steps : ByteArray := prog_14_method_70_code
def yX12_steps : MethodName := ⟨RX12, "steps", "(I)I"⟩
abbrev cX12_fate : ByteArray := prog_14_method_71_code
def yX12_fate : MethodName := ⟨RX12, "fate", "(II)I"⟩
abbrev cX12_within : ByteArray := prog_14_method_72_code
def yX12_within : MethodName := ⟨RX12, "within", "(I)I"⟩
def RJ0 : String := "java/lang/String"
def TJ0 : u_T := fun k => match k with
  | _ => ("", "", "", false)
def tyJ0 : Nat → FieldType := fun k => match k with
  | _ => .int
abbrev wsJ00 : List Cond := u_ws RJ0 TJ0 0
theorem nmJ0 : ∀ a, a < 0 → ∀ b, b < 0 → a ≠ b → (TJ0 a).2.1 ≠ (TJ0 b).2.1 := by decide +kernel
theorem tyJ0_ok : ∀ k, k < 0 → parseFieldDescriptor (TJ0 k).2.2.1 = some (tyJ0 k) := by decide +kernel
def RJ10 : String := "java/lang/System"
def TJ10 : u_T := fun k => match k with
  | _ => ("", "", "", false)
def tyJ10 : Nat → FieldType := fun k => match k with
  | _ => .int
abbrev wsJ100 : List Cond := u_ws RJ10 TJ10 0
theorem nmJ10 : ∀ a, a < 0 → ∀ b, b < 0 → a ≠ b → (TJ10 a).2.1 ≠ (TJ10 b).2.1 := by decide +kernel
theorem tyJ10_ok : ∀ k, k < 0 → parseFieldDescriptor (TJ10 k).2.2.1 = some (tyJ10 k) := by decide +kernel
def RL : String := "ChoicepointLaw"
abbrev cL_function : ByteArray := method_3_code
def yL_function : MethodName := ⟨RL, "function", "(LChoicepoint;IZ[J)I"⟩
abbrev cL_name : ByteArray := method_4_code
def yL_name : MethodName := ⟨RL, "name", "(LChoicepoint;I[J)I"⟩
abbrev cL_data : ByteArray := method_5_code
def yL_data : MethodName := ⟨RL, "data", "(LChoicepoint;III[J)I"⟩
abbrev cL_call : ByteArray := method_6_code
def yL_call : MethodName := ⟨RL, "call", "(LChoicepoint;III[J)I"⟩
abbrev cL_either : ByteArray := method_7_code
def yL_either : MethodName := ⟨RL, "either", "(LChoicepoint;II[J)I"⟩
abbrev cL_same : ByteArray := method_8_code
def yL_same : MethodName := ⟨RL, "same", "(LChoicepoint;II[J)I"⟩
abbrev cL_unlike : ByteArray := method_9_code
def yL_unlike : MethodName := ⟨RL, "unlike", "(LChoicepoint;II[J)I"⟩
abbrev cL_some : ByteArray := method_10_code
def yL_some : MethodName := ⟨RL, "some", "(LChoicepoint;I[J)I"⟩
abbrev cL_rule : ByteArray := method_11_code
def yL_rule : MethodName := ⟨RL, "rule", "(LChoicepoint;IIII[J)I"⟩
abbrev cL_unrule : ByteArray := method_12_code
def yL_unrule : MethodName := ⟨RL, "unrule", "(LChoicepoint;I[J)I"⟩
abbrev cL_goal : ByteArray := method_13_code
def yL_goal : MethodName := ⟨RL, "goal", "(LChoicepoint;I[J)I"⟩
abbrev cL_search : ByteArray := method_14_code
def yL_search : MethodName := ⟨RL, "search", "(LChoicepoint;II[J)I"⟩
abbrev cL_count : ByteArray := method_15_code
def yL_count : MethodName := ⟨RL, "count", "(LChoicepoint;I[J)I"⟩
abbrev cL_part : ByteArray := method_16_code
def yL_part : MethodName := ⟨RL, "part", "(LChoicepoint;II[J)I"⟩
abbrev cL_bound : ByteArray := method_17_code
def yL_bound : MethodName := ⟨RL, "bound", "(LChoicepoint;III[J)I"⟩
abbrev cL_steps : ByteArray := method_18_code
def yL_steps : MethodName := ⟨RL, "steps", "(LChoicepoint;I[J)I"⟩
abbrev cL_fate : ByteArray := method_19_code
def yL_fate : MethodName := ⟨RL, "fate", "(LChoicepoint;II[J)I"⟩
abbrev cL_within : ByteArray := method_20_code
def yL_within : MethodName := ⟨RL, "within", "(LChoicepoint;I[J)I"⟩
abbrev cL_law : ByteArray := code
def yL_law : MethodName := ⟨RL, "law", "([I)Z"⟩
def wsL_law0_r1 : List Cond := [Cond.classLink RL 8 RX11, Cond.instantiable RX11 5, Cond.initialized RX11, Cond.classLink RL 75 RX12, Cond.instantiable RX12 64, Cond.initialized RX12, Cond.arrayClass .long, Cond.methodLink RL 74 yX11_init, Cond.instanceMethod yX11_init, Cond.code yX11_init cX11_init 1 none, Cond.methodLink RX11 3 objectInit, Cond.instanceMethod objectInit, Cond.code objectInit ⟨#[0xb1]⟩ 1 none, Cond.classLink RX11 9 RX4, Cond.instantiable RX4 6, Cond.initialized RX4, Cond.fieldLink RX11 12 "Choicepoint" "nodes" "LChoicepoint$Nodes;", Cond.classLink RX11 16 RX5, Cond.instantiable RX5 6, Cond.initialized RX5, Cond.fieldLink RX11 19 "Choicepoint" "program" "LChoicepoint$Program;", Cond.classLink RX11 23 RX3, Cond.instantiable RX3 14, Cond.initialized RX3]
def wsL_law0_r2 : List Cond := [Cond.fieldLink RX11 28 "Choicepoint" "machine" "LChoicepoint$Machine;", Cond.classLink RX11 32 RX8, Cond.instantiable RX8 11, Cond.initialized RX8, Cond.fieldLink RX11 37 "Choicepoint" "searches" "LChoicepoint$Searches;", Cond.fieldLink RX11 41 "Choicepoint" "aim" "LChoicepoint$Expression;", Cond.instanceMethod yX4_init, Cond.code yX4_init cX4_init 1 none, Cond.methodLink RX4 3 objectInit, Cond.arrayClass .int, Cond.fieldLink RX4 9 "Choicepoint$Nodes" "tags" "[I", Cond.fieldLink RX4 15 "Choicepoint$Nodes" "whats" "[I", Cond.fieldLink RX4 18 "Choicepoint$Nodes" "lefts" "[I", Cond.fieldLink RX4 21 "Choicepoint$Nodes" "rights" "[I", Cond.fieldLink RX4 24 "Choicepoint$Nodes" "sizes" "[I", Cond.fieldLink RX4 27 "Choicepoint$Nodes" "told" "I", Cond.instanceMethod yX5_init, Cond.code yX5_init cX5_init 1 none, Cond.methodLink RX5 3 objectInit, Cond.fieldLink RX5 9 "Choicepoint$Program" "parts" "[I", Cond.arrayClass .boolean, Cond.fieldLink RX5 15 "Choicepoint$Program" "areRigid" "[Z", Cond.fieldLink RX5 19 "Choicepoint$Program" "ruleCounts" "[I", Cond.classLink RX5 22 RX6]
def wsL_law0_r3 : List Cond := [Cond.fieldLink RX5 24 "Choicepoint$Program" "rulePlaces" "[LChoicepoint$Rule;", Cond.fieldLink RX5 28 "Choicepoint$Program" "functions" "I", Cond.fieldLink RX5 32 "Choicepoint$Program" "rules" "I", Cond.instanceMethod yX3_init, Cond.code yX3_init cX3_init 3 none, Cond.methodLink RX3 3 objectInit, Cond.classLink RX3 9 RX10, Cond.instantiable RX10 11, Cond.initialized RX10, Cond.fieldLink RX3 12 "Choicepoint$Machine" "things" "LChoicepoint$Things;", Cond.classLink RX3 18 RX9, Cond.instantiable RX9 5, Cond.initialized RX9, Cond.fieldLink RX3 21 "Choicepoint$Machine" "tasks" "LChoicepoint$Tasks;", Cond.classLink RX3 25 RX7, Cond.fieldLink RX3 27 "Choicepoint$Machine" "scopes" "[LChoicepoint$Scope;", Cond.classLink RX3 31 RX2, Cond.fieldLink RX3 33 "Choicepoint$Machine" "levels" "[LChoicepoint$Level;", Cond.fieldLink RX3 37 "Choicepoint$Machine" "made" "[I", Cond.fieldLink RX3 41 "Choicepoint$Machine" "root" "I", Cond.fieldLink RX3 45 "Choicepoint$Machine" "scopeCount" "I", Cond.fieldLink RX3 48 "Choicepoint$Machine" "level" "I", Cond.fieldLink RX3 51 "Choicepoint$Machine" "runNumber" "I", Cond.fieldLink RX3 54 "Choicepoint$Machine" "steps" "I"]
def wsL_law0_r4 : List Cond := [Cond.fieldLink RX3 57 "Choicepoint$Machine" "outcome" "I", Cond.fieldLink RX3 60 "Choicepoint$Machine" "branches" "I", Cond.fieldLink RX3 63 "Choicepoint$Machine" "program" "LChoicepoint$Program;", Cond.instantiable RX7 4, Cond.initialized RX7, Cond.instantiable RX2 8, Cond.initialized RX2, Cond.fieldLink RX3 69 "Choicepoint$Machine" "lowest" "LChoicepoint$Level;", Cond.instanceMethod yX10_init, Cond.code yX10_init cX10_init 1 none, Cond.methodLink RX10 3 objectInit, Cond.fieldLink RX10 9 "Choicepoint$Things" "tags" "[I", Cond.fieldLink RX10 15 "Choicepoint$Things" "whats" "[I", Cond.fieldLink RX10 18 "Choicepoint$Things" "lefts" "[I", Cond.fieldLink RX10 21 "Choicepoint$Things" "rights" "[I", Cond.fieldLink RX10 24 "Choicepoint$Things" "scopes" "[I", Cond.fieldLink RX10 27 "Choicepoint$Things" "owners" "[I", Cond.fieldLink RX10 30 "Choicepoint$Things" "wholes" "[I", Cond.fieldLink RX10 33 "Choicepoint$Things" "looks" "[I", Cond.fieldLink RX10 36 "Choicepoint$Things" "queue" "[I", Cond.fieldLink RX10 39 "Choicepoint$Things" "size" "I", Cond.fieldLink RX10 43 "Choicepoint$Things" "look" "I", Cond.instanceMethod yX9_init, Cond.code yX9_init cX9_init 1 none]
def wsL_law0_r5 : List Cond := [Cond.methodLink RX9 3 objectInit, Cond.fieldLink RX9 9 "Choicepoint$Tasks" "acts" "[I", Cond.fieldLink RX9 15 "Choicepoint$Tasks" "firsts" "[I", Cond.fieldLink RX9 18 "Choicepoint$Tasks" "seconds" "[I", Cond.fieldLink RX9 21 "Choicepoint$Tasks" "thirds" "[I", Cond.fieldLink RX9 24 "Choicepoint$Tasks" "size" "I", Cond.instanceMethod yX7_init, Cond.code yX7_init cX7_init 1 none, Cond.methodLink RX7 3 objectInit, Cond.fieldLink RX7 9 "Choicepoint$Scope" "stands" "[I", Cond.fieldLink RX7 15 "Choicepoint$Scope" "first" "LChoicepoint$Expression;", Cond.fieldLink RX7 19 "Choicepoint$Scope" "second" "LChoicepoint$Expression;", Cond.fieldLink RX7 22 "Choicepoint$Scope" "text" "LChoicepoint$Expression;", Cond.instanceMethod yX2_init, Cond.code yX2_init cX2_init 1 none, Cond.methodLink RX2 3 objectInit, Cond.fieldLink RX2 9 "Choicepoint$Level" "ways" "[I", Cond.fieldLink RX2 15 "Choicepoint$Level" "limits" "[I", Cond.fieldLink RX2 18 "Choicepoint$Level" "given" "I", Cond.fieldLink RX2 22 "Choicepoint$Level" "decisions" "I", Cond.fieldLink RX2 25 "Choicepoint$Level" "number" "I", Cond.fieldLink RX2 28 "Choicepoint$Level" "sought" "I", Cond.fieldLink RX2 31 "Choicepoint$Level" "runs" "I", Cond.fieldLink RX2 34 "Choicepoint$Level" "base" "I"]
def wsL_law0_r6 : List Cond := [Cond.instanceMethod yX8_init, Cond.code yX8_init cX8_init 3 none, Cond.methodLink RX8 3 objectInit, Cond.classLink RX8 9 RX1, Cond.fieldLink RX8 11 "Choicepoint$Searches" "found" "[LChoicepoint$Found;", Cond.fieldLink RX8 17 "Choicepoint$Searches" "numbers" "[I", Cond.fieldLink RX8 21 "Choicepoint$Searches" "origins" "[I", Cond.fieldLink RX8 24 "Choicepoint$Searches" "lastWays" "[I", Cond.fieldLink RX8 27 "Choicepoint$Searches" "lengths" "[I", Cond.fieldLink RX8 30 "Choicepoint$Searches" "rows" "I", Cond.fieldLink RX8 34 "Choicepoint$Searches" "left" "[I", Cond.fieldLink RX8 37 "Choicepoint$Searches" "start" "I", Cond.fieldLink RX8 40 "Choicepoint$Searches" "end" "I", Cond.fieldLink RX8 43 "Choicepoint$Searches" "kept" "I", Cond.fieldLink RX8 46 "Choicepoint$Searches" "machine" "LChoicepoint$Machine;", Cond.instantiable RX1 6, Cond.initialized RX1, Cond.instanceMethod yX1_init, Cond.code yX1_init cX1_init 1 none, Cond.methodLink RX1 3 objectInit, Cond.fieldLink RX1 9 "Choicepoint$Found" "parts" "[I", Cond.classLink RX1 15 "[[I", Cond.fieldLink RX1 17 "Choicepoint$Found" "bounds" "[[I", Cond.fieldLink RX1 20 "Choicepoint$Found" "ways" "[I"]
def wsL_law0_r7 : List Cond := [Cond.fieldLink RX1 23 "Choicepoint$Found" "steps" "I", Cond.fieldLink RX1 27 "Choicepoint$Found" "opens" "[I", Cond.fieldLink RX1 30 "Choicepoint$Found" "ahead" "[I", Cond.methodLink RL 77 yX12_init, Cond.instanceMethod yX12_init, Cond.code yX12_init cX12_init 1 none, Cond.methodLink RX12 1 objectInit, Cond.fieldLink RX12 7 "ChoicepointModel" "functionParts" "[I", Cond.fieldLink RX12 13 "ChoicepointModel" "isRigid" "[Z", Cond.fieldLink RX12 17 "ChoicepointModel" "nodeLong" "[I", Cond.fieldLink RX12 20 "ChoicepointModel" "nodeCodes" "[I", Cond.fieldLink RX12 23 "ChoicepointModel" "ruleMany" "[I", Cond.fieldLink RX12 26 "ChoicepointModel" "ruleAt" "[I", Cond.fieldLink RX12 29 "ChoicepointModel" "isUsed" "[Z", Cond.fieldLink RX12 32 "ChoicepointModel" "codes" "[I", Cond.fieldLink RX12 35 "ChoicepointModel" "kinds" "[I", Cond.fieldLink RX12 38 "ChoicepointModel" "ones" "[I", Cond.fieldLink RX12 41 "ChoicepointModel" "firsts" "[I", Cond.fieldLink RX12 44 "ChoicepointModel" "seconds" "[I", Cond.fieldLink RX12 47 "ChoicepointModel" "owners" "[I", Cond.fieldLink RX12 50 "ChoicepointModel" "places" "[I", Cond.fieldLink RX12 53 "ChoicepointModel" "callRules" "[I", Cond.fieldLink RX12 56 "ChoicepointModel" "isWhole" "[Z", Cond.fieldLink RX12 59 "ChoicepointModel" "names" "[I"]
def wsL_law0_r8 : List Cond := [Cond.fieldLink RX12 62 "ChoicepointModel" "taskKinds" "[I", Cond.fieldLink RX12 65 "ChoicepointModel" "taskOnes" "[I", Cond.fieldLink RX12 68 "ChoicepointModel" "taskTwos" "[I", Cond.fieldLink RX12 71 "ChoicepointModel" "taskThrees" "[I", Cond.fieldLink RX12 74 "ChoicepointModel" "bases" "[I", Cond.fieldLink RX12 77 "ChoicepointModel" "someOf" "[I", Cond.fieldLink RX12 80 "ChoicepointModel" "attempts" "[I", Cond.fieldLink RX12 83 "ChoicepointModel" "wayMany" "[I", Cond.fieldLink RX12 86 "ChoicepointModel" "used" "[I", Cond.fieldLink RX12 89 "ChoicepointModel" "ways" "[I", Cond.fieldLink RX12 92 "ChoicepointModel" "outOf" "[I", Cond.fieldLink RX12 95 "ChoicepointModel" "open" "[I", Cond.fieldLink RX12 98 "ChoicepointModel" "lacks" "[I", Cond.fieldLink RX12 101 "ChoicepointModel" "pairOnes" "[I", Cond.fieldLink RX12 104 "ChoicepointModel" "pairTwos" "[I", Cond.fieldLink RX12 107 "ChoicepointModel" "seen" "[I", Cond.fieldLink RX12 110 "ChoicepointModel" "looks" "[I", Cond.fieldLink RX12 113 "ChoicepointModel" "rowLong" "[I", Cond.fieldLink RX12 116 "ChoicepointModel" "rows" "[I", Cond.fieldLink RX12 119 "ChoicepointModel" "keptSteps" "[I", Cond.fieldLink RX12 122 "ChoicepointModel" "keptFates" "[I", Cond.fieldLink RX12 125 "ChoicepointModel" "fates" "[I", Cond.fieldLink RX12 128 "ChoicepointModel" "counts" "[I", Cond.fieldLink RX12 131 "ChoicepointModel" "order" "[I"]
def wsL_law0_r9 : List Cond := [Cond.fieldLink RX12 134 "ChoicepointModel" "lainLong" "[I", Cond.constant RX12 137 (205000), Cond.fieldLink RX12 138 "ChoicepointModel" "lain" "[I", Cond.fieldLink RX12 141 "ChoicepointModel" "openTold" "[I", Cond.fieldLink RX12 144 "ChoicepointModel" "branchOf" "[I", Cond.fieldLink RX12 147 "ChoicepointModel" "thrown" "I", Cond.methodLink RL 78 yL_function, Cond.static yL_function, Cond.initialized RL, Cond.codeWith yL_function cL_function 5 (some .int) [(0, 10, 13, 13), (0, 10, 17, 15)], Cond.classLink RL 13 "java/lang/IllegalArgumentException", Cond.classLink RL 15 "java/lang/IllegalStateException", Cond.methodLink RL 7 yX11_function, Cond.instanceMethod yX11_function, Cond.selects RX11 yX11_function yX11_function, Cond.code yX11_function cX11_function 3 (some .int), Cond.classLink RX11 45 "java/lang/IllegalArgumentException", Cond.initialized "java/lang/IllegalArgumentException", Cond.classLink RX11 56 "java/lang/IllegalStateException", Cond.initialized "java/lang/IllegalStateException", Cond.instanceMethod yX5_addFunction, Cond.selects RX5 yX5_addFunction yX5_addFunction, Cond.code yX5_addFunction cX5_addFunction 4 (some .int), Cond.methodLink RL 83 yX12_function]
def wsL_law0_r10 : List Cond := [Cond.instanceMethod yX12_function, Cond.selects RX12 yX12_function yX12_function, Cond.code yX12_function cX12_function 3 (some .int), Cond.fieldLink RX12 151 "ChoicepointModel" "functionMany" "I", Cond.methodLink RX12 154 yX12_in, Cond.static yX12_in, Cond.code yX12_in cX12_in 3 (some .boolean), Cond.methodLink RL 84 yX12_thrown, Cond.instanceMethod yX12_thrown, Cond.selects RX12 yX12_thrown yX12_thrown, Cond.code yX12_thrown cX12_thrown 1 (some .int), Cond.methodLink RL 88 yL_name, Cond.static yL_name, Cond.codeWith yL_name cL_name 4 (some .int) [(0, 9, 12, 13), (0, 9, 15, 15)], Cond.methodLink RL 17 yX11_name, Cond.instanceMethod yX11_name, Cond.selects RX11 yX11_name yX11_name, Cond.code yX11_name cX11_name 2 (some .int), Cond.methodLink RX11 67 yX11_tell, Cond.instanceMethod yX11_tell, Cond.selects RX11 yX11_tell yX11_tell, Cond.code yX11_tell cX11_tell 5 (some .int), Cond.instanceMethod yX4_hasRoom, Cond.selects RX4 yX4_hasRoom yX4_hasRoom]
def wsL_law0_r11 : List Cond := [Cond.code yX4_hasRoom cX4_hasRoom 3 (some .boolean), Cond.methodLink RX4 35 yX4_sizeOf, Cond.instanceMethod yX4_sizeOf, Cond.selects RX4 yX4_sizeOf yX4_sizeOf, Cond.code yX4_sizeOf cX4_sizeOf 2 (some .int), Cond.methodLink RX4 31 yX4_has, Cond.instanceMethod yX4_has, Cond.selects RX4 yX4_has yX4_has, Cond.code yX4_has cX4_has 2 (some .boolean), Cond.instanceMethod yX4_add, Cond.selects RX4 yX4_add yX4_add, Cond.code yX4_add cX4_add 6 (some .int), Cond.methodLink RL 91 yX12_name, Cond.instanceMethod yX12_name, Cond.selects RX12 yX12_name yX12_name, Cond.code yX12_name cX12_name 2 (some .int), Cond.methodLink RX12 173 yX12_lay, Cond.instanceMethod yX12_lay, Cond.selects RX12 yX12_lay yX12_lay, Cond.code yX12_lay cX12_lay 7 (some .int), Cond.fieldLink RX12 158 "ChoicepointModel" "nodeMany" "I", Cond.methodLink RX12 161 yX12_partsOf, Cond.instanceMethod yX12_partsOf, Cond.selects RX12 yX12_partsOf yX12_partsOf]
def wsL_law0_r12 : List Cond := [Cond.code yX12_partsOf cX12_partsOf 2 (some .int), Cond.methodLink RX12 165 yX12_adds, Cond.instanceMethod yX12_adds, Cond.selects RX12 yX12_adds yX12_adds, Cond.code yX12_adds cX12_adds 4 none, Cond.methodLink RL 92 yL_data, Cond.static yL_data, Cond.codeWith yL_data cL_data 6 (some .int) [(0, 12, 15, 25), (0, 12, 19, 13), (0, 12, 23, 15)], Cond.classLink RL 25 "java/lang/IndexOutOfBoundsException", Cond.methodLink RL 21 yX11_data, Cond.instanceMethod yX11_data, Cond.selects RX11 yX11_data yX11_data, Cond.code yX11_data cX11_data 6 (some .int), Cond.methodLink RX11 71 yX11_partsOfKind, Cond.static yX11_partsOfKind, Cond.code yX11_partsOfKind cX11_partsOfKind 1 (some .int), Cond.methodLink RX11 75 yX11_needParts, Cond.instanceMethod yX11_needParts, Cond.selects RX11 yX11_needParts yX11_needParts, Cond.code yX11_needParts cX11_needParts 4 none, Cond.classLink RX11 165 "java/lang/IndexOutOfBoundsException", Cond.initialized "java/lang/IndexOutOfBoundsException", Cond.methodLink RL 95 yX12_data, Cond.instanceMethod yX12_data]
def wsL_law0_r13 : List Cond := [Cond.selects RX12 yX12_data yX12_data, Cond.code yX12_data cX12_data 5 (some .int), Cond.methodLink RX12 177 yX12_areParts, Cond.instanceMethod yX12_areParts, Cond.selects RX12 yX12_areParts yX12_areParts, Cond.code yX12_areParts cX12_areParts 4 (some .boolean), Cond.methodLink RX12 169 yX12_isNode, Cond.instanceMethod yX12_isNode, Cond.selects RX12 yX12_isNode yX12_isNode, Cond.code yX12_isNode cX12_isNode 2 (some .boolean), Cond.methodLink RL 96 yL_call, Cond.static yL_call, Cond.codeWith yL_call cL_call 6 (some .int) [(0, 12, 15, 25), (0, 12, 19, 15)], Cond.methodLink RL 27 yX11_call, Cond.instanceMethod yX11_call, Cond.selects RX11 yX11_call yX11_call, Cond.code yX11_call cX11_call 5 (some .int), Cond.methodLink RX11 81 yX11_needFunction, Cond.instanceMethod yX11_needFunction, Cond.selects RX11 yX11_needFunction yX11_needFunction, Cond.code yX11_needFunction cX11_needFunction 2 none, Cond.instanceMethod yX5_partsOf, Cond.selects RX5 yX5_partsOf yX5_partsOf, Cond.code yX5_partsOf cX5_partsOf 2 (some .int)]
def wsL_law0_r14 : List Cond := [Cond.methodLink RL 98 yX12_call, Cond.instanceMethod yX12_call, Cond.selects RX12 yX12_call yX12_call, Cond.code yX12_call cX12_call 4 (some .int), Cond.methodLink RX12 180 yX12_isFunction, Cond.instanceMethod yX12_isFunction, Cond.selects RX12 yX12_isFunction yX12_isFunction, Cond.code yX12_isFunction cX12_isFunction 2 (some .boolean), Cond.methodLink RL 99 yL_either, Cond.static yL_either, Cond.codeWith yL_either cL_either 5 (some .int) [(0, 10, 13, 25), (0, 10, 17, 15)], Cond.methodLink RL 30 yX11_either, Cond.instanceMethod yX11_either, Cond.selects RX11 yX11_either yX11_either, Cond.code yX11_either cX11_either 3 (some .int), Cond.methodLink RL 102 yX12_either, Cond.instanceMethod yX12_either, Cond.selects RX12 yX12_either yX12_either, Cond.code yX12_either cX12_either 3 (some .int), Cond.methodLink RX12 183 yX12_layTwo, Cond.instanceMethod yX12_layTwo, Cond.selects RX12 yX12_layTwo yX12_layTwo, Cond.code yX12_layTwo cX12_layTwo 4 (some .int), Cond.methodLink RL 103 yL_same]
def wsL_law0_r15 : List Cond := [Cond.static yL_same, Cond.codeWith yL_same cL_same 5 (some .int) [(0, 10, 13, 25), (0, 10, 17, 15)], Cond.methodLink RL 34 yX11_same, Cond.instanceMethod yX11_same, Cond.selects RX11 yX11_same yX11_same, Cond.code yX11_same cX11_same 3 (some .int), Cond.methodLink RL 105 yX12_same, Cond.instanceMethod yX12_same, Cond.selects RX12 yX12_same yX12_same, Cond.code yX12_same cX12_same 3 (some .int), Cond.methodLink RL 106 yL_unlike, Cond.static yL_unlike, Cond.codeWith yL_unlike cL_unlike 5 (some .int) [(0, 10, 13, 25), (0, 10, 17, 15)], Cond.methodLink RL 37 yX11_unlike, Cond.instanceMethod yX11_unlike, Cond.selects RX11 yX11_unlike yX11_unlike, Cond.code yX11_unlike cX11_unlike 3 (some .int), Cond.methodLink RL 108 yX12_unlike, Cond.instanceMethod yX12_unlike, Cond.selects RX12 yX12_unlike yX12_unlike, Cond.code yX12_unlike cX12_unlike 3 (some .int), Cond.methodLink RL 109 yL_some, Cond.static yL_some, Cond.codeWith yL_some cL_some 4 (some .int) [(0, 9, 12, 25), (0, 9, 15, 15)]]
def wsL_law0_r16 : List Cond := [Cond.methodLink RL 40 yX11_some, Cond.instanceMethod yX11_some, Cond.selects RX11 yX11_some yX11_some, Cond.code yX11_some cX11_some 2 (some .int), Cond.methodLink RL 111 yX12_some, Cond.instanceMethod yX12_some, Cond.selects RX12 yX12_some yX12_some, Cond.code yX12_some cX12_some 2 (some .int), Cond.methodLink RL 112 yX11_drop, Cond.instanceMethod yX11_drop, Cond.selects RX11 yX11_drop yX11_drop, Cond.code yX11_drop cX11_drop 2 (some .int), Cond.methodLink RL 115 yX12_drop, Cond.instanceMethod yX12_drop, Cond.selects RX12 yX12_drop yX12_drop, Cond.code yX12_drop cX12_drop 2 (some .int), Cond.methodLink RL 116 yL_rule, Cond.static yL_rule, Cond.codeWith yL_rule cL_rule 7 (some .int) [(0, 14, 17, 25), (0, 14, 21, 13), (0, 14, 25, 15)], Cond.methodLink RL 43 yX11_rule, Cond.instanceMethod yX11_rule, Cond.selects RX11 yX11_rule yX11_rule, Cond.code yX11_rule cX11_rule 7 (some .int), Cond.classLink RX11 91 RX6]
def wsL_law0_r17 : List Cond := [Cond.instantiable RX6 5, Cond.initialized RX6, Cond.classLink RX11 93 RX0, Cond.instantiable RX0 7, Cond.initialized RX0, Cond.instanceMethod yX0_init, Cond.code yX0_init cX0_init 8 none, Cond.methodLink RX0 3 objectInit, Cond.fieldLink RX0 15 "Choicepoint$Expression" "size" "I", Cond.fieldLink RX0 21 "Choicepoint$Expression" "tags" "[I", Cond.fieldLink RX0 25 "Choicepoint$Expression" "whats" "[I", Cond.fieldLink RX0 28 "Choicepoint$Expression" "lefts" "[I", Cond.fieldLink RX0 31 "Choicepoint$Expression" "rights" "[I", Cond.fieldLink RX0 34 "Choicepoint$Expression" "firsts" "[I", Cond.fieldLink RX0 37 "Choicepoint$Expression" "layers" "[I", Cond.instanceMethod yX6_init, Cond.code yX6_init cX6_init 5 none, Cond.methodLink RX6 3 objectInit, Cond.fieldLink RX6 9 "Choicepoint$Rule" "first" "LChoicepoint$Expression;", Cond.fieldLink RX6 15 "Choicepoint$Rule" "second" "LChoicepoint$Expression;", Cond.fieldLink RX6 18 "Choicepoint$Rule" "right" "LChoicepoint$Expression;", Cond.fieldLink RX6 25 "Choicepoint$Rule" "names" "I", Cond.fieldLink RX6 29 "Choicepoint$Rule" "isLeftSide" "Z", Cond.methodLink RX6 21 yX6_addNames]
def wsL_law0_r18 : List Cond := [Cond.static yX6_addNames, Cond.code yX6_addNames cX6_addNames 5 (some .int), Cond.instanceMethod yX5_addRule, Cond.selects RX5 yX5_addRule yX5_addRule, Cond.code yX5_addRule cX5_addRule 4 (some .int), Cond.methodLink RL 119 yX12_rule, Cond.instanceMethod yX12_rule, Cond.selects RX12 yX12_rule yX12_rule, Cond.code yX12_rule cX12_rule 8 (some .int), Cond.fieldLink RX12 191 "ChoicepointModel" "rulesInAll" "I", Cond.methodLink RX12 187 yX12_patternNames, Cond.instanceMethod yX12_patternNames, Cond.selects RX12 yX12_patternNames yX12_patternNames, Cond.code yX12_patternNames cX12_patternNames 7 (some .int), Cond.methodLink RX12 194 yX12_patternAt, Cond.static yX12_patternAt, Cond.code yX12_patternAt cX12_patternAt 2 (some .int), Cond.methodLink RX12 197 yX12_copies, Cond.instanceMethod yX12_copies, Cond.selects RX12 yX12_copies yX12_copies, Cond.code yX12_copies cX12_copies 4 none, Cond.methodLink RL 120 yL_unrule, Cond.static yL_unrule, Cond.codeWith yL_unrule cL_unrule 4 (some .int) [(0, 9, 12, 25), (0, 9, 15, 15)]]
def wsL_law0_r19 : List Cond := [Cond.methodLink RL 47 yX11_unrule, Cond.instanceMethod yX11_unrule, Cond.selects RX11 yX11_unrule yX11_unrule, Cond.code yX11_unrule cX11_unrule 2 (some .int), Cond.instanceMethod yX5_rulesOf, Cond.selects RX5 yX5_rulesOf yX5_rulesOf, Cond.code yX5_rulesOf cX5_rulesOf 2 (some .int), Cond.instanceMethod yX5_takeLastRule, Cond.selects RX5 yX5_takeLastRule yX5_takeLastRule, Cond.code yX5_takeLastRule cX5_takeLastRule 3 (some .int), Cond.methodLink RL 122 yX12_unrule, Cond.instanceMethod yX12_unrule, Cond.selects RX12 yX12_unrule yX12_unrule, Cond.code yX12_unrule cX12_unrule 2 (some .int), Cond.methodLink RL 123 yX11_many, Cond.instanceMethod yX11_many, Cond.selects RX11 yX11_many yX11_many, Cond.code yX11_many cX11_many 1 (some .int), Cond.instanceMethod yX5_findMany, Cond.selects RX5 yX5_findMany yX5_findMany, Cond.code yX5_findMany cX5_findMany 4 (some .int), Cond.methodLink RX5 39 yX5_isMany, Cond.instanceMethod yX5_isMany, Cond.selects RX5 yX5_isMany yX5_isMany]
def wsL_law0_r20 : List Cond := [Cond.code yX5_isMany cX5_isMany 5 (some .boolean), Cond.methodLink RX5 43 yX5_ruleOf, Cond.instanceMethod yX5_ruleOf, Cond.selects RX5 yX5_ruleOf yX5_ruleOf, Cond.code yX5_ruleOf cX5_ruleOf 3 (some (.object "Choicepoint$Rule")), Cond.methodLink RX5 35 yX5_rulesOf, Cond.instanceMethod yX0_isMany, Cond.selects RX0 yX0_isMany yX0_isMany, Cond.code yX0_isMany cX0_isMany 4 (some .boolean), Cond.methodLink RX5 57 yX5_meetsEarlier, Cond.instanceMethod yX5_meetsEarlier, Cond.selects RX5 yX5_meetsEarlier yX5_meetsEarlier, Cond.code yX5_meetsEarlier cX5_meetsEarlier 6 (some .boolean), Cond.instanceMethod yX6_meets, Cond.selects RX6 yX6_meets yX6_meets, Cond.code yX6_meets cX6_meets 2 (some .boolean), Cond.instanceMethod yX0_meets, Cond.selects RX0 yX0_meets yX0_meets, Cond.code yX0_meets cX0_meets 5 (some .boolean), Cond.methodLink RL 126 yX12_many, Cond.instanceMethod yX12_many, Cond.selects RX12 yX12_many yX12_many, Cond.code yX12_many cX12_many 4 (some .int), Cond.methodLink RX12 217 yX12_isMany]
def wsL_law0_r21 : List Cond := [Cond.instanceMethod yX12_isMany, Cond.selects RX12 yX12_isMany yX12_isMany, Cond.code yX12_isMany cX12_isMany 7 (some .boolean), Cond.methodLink RX12 211 yX12_bringsMany, Cond.instanceMethod yX12_bringsMany, Cond.selects RX12 yX12_bringsMany yX12_bringsMany, Cond.code yX12_bringsMany cX12_bringsMany 10 (some .boolean), Cond.methodLink RX12 208 yX12_namesAt, Cond.instanceMethod yX12_namesAt, Cond.selects RX12 yX12_namesAt yX12_namesAt, Cond.code yX12_namesAt cX12_namesAt 5 (some .int), Cond.methodLink RX12 201 yX12_endOf, Cond.instanceMethod yX12_endOf, Cond.selects RX12 yX12_endOf yX12_endOf, Cond.code yX12_endOf cX12_endOf 4 (some .int), Cond.methodLink RX12 214 yX12_doRulesMeet, Cond.instanceMethod yX12_doRulesMeet, Cond.selects RX12 yX12_doRulesMeet yX12_doRulesMeet, Cond.code yX12_doRulesMeet cX12_doRulesMeet 6 (some .boolean), Cond.methodLink RX12 204 yX12_canMeet, Cond.instanceMethod yX12_canMeet, Cond.selects RX12 yX12_canMeet yX12_canMeet, Cond.code yX12_canMeet cX12_canMeet 6 (some .boolean), Cond.methodLink RL 127 yL_goal]
def wsL_law0_r22 : List Cond := [Cond.static yL_goal, Cond.codeWith yL_goal cL_goal 4 (some .int) [(0, 9, 12, 25)], Cond.methodLink RL 50 yX11_goal, Cond.instanceMethod yX11_goal, Cond.selects RX11 yX11_goal yX11_goal, Cond.code yX11_goal cX11_goal 2 (some .int), Cond.methodLink RL 129 yX12_goal, Cond.instanceMethod yX12_goal, Cond.selects RX12 yX12_goal yX12_goal, Cond.code yX12_goal cX12_goal 2 (some .int), Cond.fieldLink RX12 220 "ChoicepointModel" "hasGoal" "Z", Cond.fieldLink RX12 224 "ChoicepointModel" "keptMany" "I", Cond.methodLink RL 130 yL_search, Cond.static yL_search, Cond.codeWith yL_search cL_search 5 (some .int) [(0, 10, 13, 13), (0, 10, 17, 15)], Cond.methodLink RL 53 yX11_search, Cond.instanceMethod yX11_search, Cond.selects RX11 yX11_search yX11_search, Cond.code yX11_search cX11_search 3 (some .int), Cond.instanceMethod yX8_make, Cond.selects RX8 yX8_make yX8_make, Cond.code yX8_make cX8_make 9 (some .int), Cond.constant RX8 58 (1103515245), Cond.constant RX8 59 (65535)]
def wsL_law0_r23 : List Cond := [Cond.methodLink RX8 51 yX8_clear, Cond.instanceMethod yX8_clear, Cond.selects RX8 yX8_clear yX8_clear, Cond.code yX8_clear cX8_clear 2 none, Cond.methodLink RX8 54 yX8_addRow, Cond.instanceMethod yX8_addRow, Cond.selects RX8 yX8_addRow yX8_addRow, Cond.code yX8_addRow cX8_addRow 4 none, Cond.methodLink RX8 60 yX8_takeRow, Cond.instanceMethod yX8_takeRow, Cond.selects RX8 yX8_takeRow yX8_takeRow, Cond.code yX8_takeRow cX8_takeRow 4 (some .int), Cond.methodLink RX8 84 arraycopyName, Cond.native arraycopyName, Cond.static arraycopyName, Cond.initialized "java/lang/System", Cond.methodLink RX8 64 yX8_giveWays, Cond.instanceMethod yX8_giveWays, Cond.selects RX8 yX8_giveWays yX8_giveWays, Cond.code yX8_giveWays cX8_giveWays 5 none, Cond.instanceMethod yX3_makeRun, Cond.selects RX3 yX3_makeRun yX3_makeRun, Cond.code yX3_makeRun cX3_makeRun 4 (some .int), Cond.constant RX3 96 (4000000)]
def wsL_law0_r24 : List Cond := [Cond.methodLink RX3 73 yX3_clear, Cond.instanceMethod yX3_clear, Cond.selects RX3 yX3_clear yX3_clear, Cond.code yX3_clear cX3_clear 1 none, Cond.methodLink RX3 76 yX3_openScope, Cond.instanceMethod yX3_openScope, Cond.selects RX3 yX3_openScope yX3_openScope, Cond.code yX3_openScope cX3_openScope 5 (some .int), Cond.instanceMethod yX7_open, Cond.selects RX7 yX7_open yX7_open, Cond.code yX7_open cX7_open 5 none, Cond.methodLink RX3 80 yX3_openNames, Cond.instanceMethod yX3_openNames, Cond.selects RX3 yX3_openNames yX3_openNames, Cond.code yX3_openNames cX3_openNames 6 none, Cond.instanceMethod yX10_addOpen, Cond.selects RX10 yX10_addOpen yX10_addOpen, Cond.code yX10_addOpen cX10_addOpen 2 (some .int), Cond.methodLink RX10 46 yX10_add, Cond.instanceMethod yX10_add, Cond.selects RX10 yX10_add yX10_add, Cond.code yX10_add cX10_add 8 (some .int), Cond.methodLink RX3 89 yX3_makeThings, Cond.instanceMethod yX3_makeThings]
def wsL_law0_r25 : List Cond := [Cond.selects RX3 yX3_makeThings yX3_makeThings, Cond.code yX3_makeThings cX3_makeThings 7 (some .int), Cond.methodLink RX3 212 yX3_makeThing, Cond.instanceMethod yX3_makeThing, Cond.selects RX3 yX3_makeThing yX3_makeThing, Cond.code yX3_makeThing cX3_makeThing 8 (some .int), Cond.instanceMethod yX9_push_, Cond.selects RX9 yX9_push_ yX9_push_, Cond.code yX9_push_ cX9_push_ 3 none, Cond.methodLink RX9 28 yX9_push, Cond.instanceMethod yX9_push, Cond.selects RX9 yX9_push yX9_push, Cond.code yX9_push cX9_push 5 none, Cond.methodLink RX3 99 yX3_doNext, Cond.instanceMethod yX3_doNext, Cond.selects RX3 yX3_doNext yX3_doNext, Cond.code yX3_doNext cX3_doNext 5 none, Cond.instanceMethod yX10_find, Cond.selects RX10 yX10_find yX10_find, Cond.code yX10_find cX10_find 4 (some .int), Cond.methodLink RX3 127 yX3_force, Cond.instanceMethod yX3_force, Cond.selects RX3 yX3_force yX3_force, Cond.code yX3_force cX3_force 4 none]
def wsL_law0_r26 : List Cond := [Cond.methodLink RX3 228 yX3_startCall, Cond.instanceMethod yX3_startCall, Cond.selects RX3 yX3_startCall yX3_startCall, Cond.code yX3_startCall cX3_startCall 7 none, Cond.methodLink RX3 154 yX3_fail, Cond.instanceMethod yX3_fail, Cond.selects RX3 yX3_fail yX3_fail, Cond.code yX3_fail cX3_fail 3 none, Cond.instanceMethod yX2_advance, Cond.selects RX2 yX2_advance yX2_advance, Cond.code yX2_advance cX2_advance 2 (some .boolean), Cond.instanceMethod yX10_becomeData, Cond.selects RX10 yX10_becomeData yX10_becomeData, Cond.code yX10_becomeData cX10_becomeData 5 none, Cond.methodLink RX3 251 yX3_decide, Cond.instanceMethod yX3_decide, Cond.selects RX3 yX3_decide yX3_decide, Cond.code yX3_decide cX3_decide 5 (some .int), Cond.methodLink RX3 267 yX3_doStep, Cond.instanceMethod yX3_doStep, Cond.selects RX3 yX3_doStep yX3_doStep, Cond.code yX3_doStep cX3_doStep 1 (some .boolean), Cond.methodLink RX3 231 yX3_choose, Cond.instanceMethod yX3_choose]
def wsL_law0_r27 : List Cond := [Cond.selects RX3 yX3_choose yX3_choose, Cond.code yX3_choose cX3_choose 3 none, Cond.instanceMethod yX10_become, Cond.selects RX10 yX10_become yX10_become, Cond.code yX10_become cX10_become 3 none, Cond.methodLink RX3 234 yX3_startSome, Cond.instanceMethod yX3_startSome, Cond.selects RX3 yX3_startSome yX3_startSome, Cond.code yX3_startSome cX3_startSome 3 none, Cond.methodLink RX3 131 yX3_makeWhole, Cond.instanceMethod yX3_makeWhole, Cond.selects RX3 yX3_makeWhole yX3_makeWhole, Cond.code yX3_makeWhole cX3_makeWhole 2 none, Cond.methodLink RX3 237 yX3_isForced, Cond.instanceMethod yX3_isForced, Cond.selects RX3 yX3_isForced yX3_isForced, Cond.code yX3_isForced cX3_isForced 2 (some .boolean), Cond.methodLink RX3 244 yX3_pushParts, Cond.instanceMethod yX3_pushParts, Cond.selects RX3 yX3_pushParts yX3_pushParts, Cond.code yX3_pushParts cX3_pushParts 3 none, Cond.methodLink RX3 134 yX3_match, Cond.instanceMethod yX3_match, Cond.selects RX3 yX3_match yX3_match]
def wsL_law0_r28 : List Cond := [Cond.code yX3_match cX3_match 9 none, Cond.methodLink RX3 285 yX3_isKind, Cond.instanceMethod yX3_isKind, Cond.selects RX3 yX3_isKind yX3_isKind, Cond.code yX3_isKind cX3_isKind 8 (some .boolean), Cond.methodLink RX3 289 yX3_matchParts, Cond.instanceMethod yX3_matchParts, Cond.selects RX3 yX3_matchParts yX3_matchParts, Cond.code yX3_matchParts cX3_matchParts 6 none, Cond.methodLink RX3 138 yX3_applyRule, Cond.instanceMethod yX3_applyRule, Cond.selects RX3 yX3_applyRule yX3_applyRule, Cond.code yX3_applyRule cX3_applyRule 5 none, Cond.methodLink RX3 144 yX3_unite, Cond.instanceMethod yX3_unite, Cond.selects RX3 yX3_unite yX3_unite, Cond.code yX3_unite cX3_unite 5 none, Cond.methodLink RX3 297 yX3_bind, Cond.instanceMethod yX3_bind, Cond.selects RX3 yX3_bind yX3_bind, Cond.code yX3_bind cX3_bind 4 none, Cond.instanceMethod yX10_isIn, Cond.selects RX10 yX10_isIn yX10_isIn, Cond.code yX10_isIn cX10_isIn 7 (some .boolean)]
def wsL_law0_r29 : List Cond := [Cond.methodLink RX10 50 yX10_find, Cond.methodLink RX10 54 yX10_enqueue, Cond.instanceMethod yX10_enqueue, Cond.selects RX10 yX10_enqueue yX10_enqueue, Cond.code yX10_enqueue cX10_enqueue 3 (some .int), Cond.methodLink RX3 300 yX3_pushPairs, Cond.instanceMethod yX3_pushPairs, Cond.selects RX3 yX3_pushPairs yX3_pushPairs, Cond.code yX3_pushPairs cX3_pushPairs 6 none, Cond.methodLink RX3 151 yX3_ask, Cond.instanceMethod yX3_ask, Cond.selects RX3 yX3_ask yX3_ask, Cond.code yX3_ask cX3_ask 4 none, Cond.methodLink RX3 307 yX3_dropAsking, Cond.instanceMethod yX3_dropAsking, Cond.selects RX3 yX3_dropAsking yX3_dropAsking, Cond.code yX3_dropAsking cX3_dropAsking 2 none, Cond.methodLink RX3 157 yX3_startRunWithin, Cond.instanceMethod yX3_startRunWithin, Cond.selects RX3 yX3_startRunWithin yX3_startRunWithin, Cond.code yX3_startRunWithin cX3_startRunWithin 4 none, Cond.methodLink RX3 161 yX3_endRunWithin, Cond.instanceMethod yX3_endRunWithin, Cond.selects RX3 yX3_endRunWithin yX3_endRunWithin]
def wsL_law0_r30 : List Cond := [Cond.code yX3_endRunWithin cX3_endRunWithin 1 none, Cond.methodLink RX8 74 yX8_addBranches, Cond.instanceMethod yX8_addBranches, Cond.selects RX8 yX8_addBranches yX8_addBranches, Cond.code yX8_addBranches cX8_addBranches 5 none, Cond.methodLink RX8 78 yX8_keepValue, Cond.instanceMethod yX8_keepValue, Cond.selects RX8 yX8_keepValue yX8_keepValue, Cond.code yX8_keepValue cX8_keepValue 2 none, Cond.instanceMethod yX1_keep, Cond.selects RX1 yX1_keep yX1_keep, Cond.code yX1_keep cX1_keep 6 none, Cond.methodLink RX1 40 yX1_tellRow, Cond.instanceMethod yX1_tellRow, Cond.selects RX1 yX1_tellRow yX1_tellRow, Cond.code yX1_tellRow cX1_tellRow 9 none, Cond.methodLink RX1 72 yX1_numberOfOpen, Cond.instanceMethod yX1_numberOfOpen, Cond.selects RX1 yX1_numberOfOpen yX1_numberOfOpen, Cond.code yX1_numberOfOpen cX1_numberOfOpen 4 (some .int), Cond.methodLink RX1 79 yX1_lookAhead, Cond.instanceMethod yX1_lookAhead, Cond.selects RX1 yX1_lookAhead yX1_lookAhead, Cond.code yX1_lookAhead cX1_lookAhead 6 (some .int)]
def wsL_law0_r31 : List Cond := [Cond.methodLink RL 132 yX12_search, Cond.instanceMethod yX12_search, Cond.selects RX12 yX12_search yX12_search, Cond.code yX12_search cX12_search 6 (some .int), Cond.fieldLink RX12 347 "ChoicepointModel" "waitingMany" "I", Cond.fieldLink RX12 344 "ChoicepointModel" "lainMany" "I", Cond.constant RX12 353 (1103515245), Cond.fieldLink RX12 245 "ChoicepointModel" "end" "I", Cond.fieldLink RX12 248 "ChoicepointModel" "branchMany" "I", Cond.methodLink RX12 350 yX12_lays, Cond.instanceMethod yX12_lays, Cond.selects RX12 yX12_lays yX12_lays, Cond.code yX12_lays cX12_lays 4 none, Cond.methodLink RX12 354 yX12_takes, Cond.instanceMethod yX12_takes, Cond.selects RX12 yX12_takes yX12_takes, Cond.code yX12_takes cX12_takes 4 none, Cond.methodLink RX12 357 yX12_run, Cond.instanceMethod yX12_run, Cond.selects RX12 yX12_run yX12_run, Cond.code yX12_run cX12_run 1 none, Cond.fieldLink RX12 227 "ChoicepointModel" "thingMany" "I", Cond.fieldLink RX12 230 "ChoicepointModel" "placeMany" "I", Cond.fieldLink RX12 239 "ChoicepointModel" "taskMany" "I"]
def wsL_law0_r32 : List Cond := [Cond.fieldLink RX12 242 "ChoicepointModel" "stepMany" "I", Cond.fieldLink RX12 251 "ChoicepointModel" "level" "I", Cond.fieldLink RX12 332 "ChoicepointModel" "goalNames" "I", Cond.fieldLink RX12 335 "ChoicepointModel" "goalThing" "I", Cond.methodLink RX12 276 yX12_newNames, Cond.instanceMethod yX12_newNames, Cond.selects RX12 yX12_newNames yX12_newNames, Cond.code yX12_newNames cX12_newNames 2 (some .int), Cond.methodLink RX12 292 yX12_opens, Cond.instanceMethod yX12_opens, Cond.selects RX12 yX12_opens yX12_opens, Cond.code yX12_opens cX12_opens 6 none, Cond.methodLink RX12 233 yX12_newThing, Cond.instanceMethod yX12_newThing, Cond.selects RX12 yX12_newThing yX12_newThing, Cond.code yX12_newThing cX12_newThing 4 (some .int), Cond.methodLink RX12 257 yX12_make, Cond.instanceMethod yX12_make, Cond.selects RX12 yX12_make yX12_make, Cond.code yX12_make cX12_make 12 (some .int), Cond.methodLink RX12 236 yX12_kindOf, Cond.static yX12_kindOf, Cond.code yX12_kindOf cX12_kindOf 1 (some .int), Cond.methodLink RX12 260 yX12_task]
def wsL_law0_r33 : List Cond := [Cond.instanceMethod yX12_task, Cond.selects RX12 yX12_task yX12_task, Cond.code yX12_task cX12_task 5 none, Cond.methodLink RX12 338 yX12_does, Cond.instanceMethod yX12_does, Cond.selects RX12 yX12_does yX12_does, Cond.code yX12_does cX12_does 5 none, Cond.methodLink RX12 311 yX12_force, Cond.instanceMethod yX12_force, Cond.selects RX12 yX12_force yX12_force, Cond.code yX12_force cX12_force 5 none, Cond.methodLink RX12 280 yX12_root, Cond.instanceMethod yX12_root, Cond.selects RX12 yX12_root yX12_root, Cond.code yX12_root cX12_root 3 (some .int), Cond.methodLink RX12 283 yX12_call_, Cond.instanceMethod yX12_call_, Cond.selects RX12 yX12_call_ yX12_call_, Cond.code yX12_call_ cX12_call_ 7 none, Cond.methodLink RX12 270 yX12_fail, Cond.instanceMethod yX12_fail, Cond.selects RX12 yX12_fail yX12_fail, Cond.code yX12_fail cX12_fail 3 none, Cond.methodLink RX12 264 yX12_attempt]
def wsL_law0_r34 : List Cond := [Cond.instanceMethod yX12_attempt, Cond.selects RX12 yX12_attempt yX12_attempt, Cond.code yX12_attempt cX12_attempt 3 none, Cond.methodLink RX12 254 yX12_step, Cond.instanceMethod yX12_step, Cond.selects RX12 yX12_step yX12_step, Cond.code yX12_step cX12_step 1 none, Cond.methodLink RX12 267 yX12_becomeData, Cond.instanceMethod yX12_becomeData, Cond.selects RX12 yX12_becomeData yX12_becomeData, Cond.code yX12_becomeData cX12_becomeData 3 none, Cond.methodLink RX12 273 yX12_decide, Cond.instanceMethod yX12_decide, Cond.selects RX12 yX12_decide yX12_decide, Cond.code yX12_decide cX12_decide 4 (some .int), Cond.methodLink RX12 286 yX12_become, Cond.instanceMethod yX12_become, Cond.selects RX12 yX12_become yX12_become, Cond.code yX12_become cX12_become 3 none, Cond.methodLink RX12 289 yX12_beginSome, Cond.instanceMethod yX12_beginSome, Cond.selects RX12 yX12_beginSome yX12_beginSome, Cond.code yX12_beginSome cX12_beginSome 2 none, Cond.methodLink RX12 314 yX12_parts]
def wsL_law0_r35 : List Cond := [Cond.instanceMethod yX12_parts, Cond.selects RX12 yX12_parts yX12_parts, Cond.code yX12_parts cX12_parts 3 none, Cond.methodLink RX12 317 yX12_match, Cond.instanceMethod yX12_match, Cond.selects RX12 yX12_match yX12_match, Cond.code yX12_match cX12_match 4 none, Cond.methodLink RX12 320 yX12_matchData, Cond.instanceMethod yX12_matchData, Cond.selects RX12 yX12_matchData yX12_matchData, Cond.code yX12_matchData cX12_matchData 9 none, Cond.methodLink RX12 323 yX12_endCall, Cond.instanceMethod yX12_endCall, Cond.selects RX12 yX12_endCall yX12_endCall, Cond.code yX12_endCall cX12_endCall 4 none, Cond.methodLink RX12 326 yX12_endSame, Cond.instanceMethod yX12_endSame, Cond.selects RX12 yX12_endSame yX12_endSame, Cond.code yX12_endSame cX12_endSame 8 none, Cond.fieldLink RX12 296 "ChoicepointModel" "pairMany" "I", Cond.methodLink RX12 305 yX12_pair, Cond.instanceMethod yX12_pair, Cond.selects RX12 yX12_pair yX12_pair, Cond.code yX12_pair cX12_pair 3 none]
def wsL_law0_r36 : List Cond := [Cond.methodLink RX12 302 yX12_isIn, Cond.instanceMethod yX12_isIn, Cond.selects RX12 yX12_isIn yX12_isIn, Cond.code yX12_isIn cX12_isIn 7 (some .boolean), Cond.fieldLink RX12 299 "ChoicepointModel" "seenRound" "I", Cond.methodLink RX12 308 yX12_bind, Cond.instanceMethod yX12_bind, Cond.selects RX12 yX12_bind yX12_bind, Cond.code yX12_bind cX12_bind 4 none, Cond.methodLink RX12 329 yX12_endUnlike, Cond.instanceMethod yX12_endUnlike, Cond.selects RX12 yX12_endUnlike yX12_endUnlike, Cond.code yX12_endUnlike cX12_endUnlike 5 none, Cond.methodLink RX12 360 yX12_keepValue, Cond.instanceMethod yX12_keepValue, Cond.selects RX12 yX12_keepValue yX12_keepValue, Cond.code yX12_keepValue cX12_keepValue 3 none, Cond.methodLink RX12 341 yX12_tell, Cond.instanceMethod yX12_tell, Cond.selects RX12 yX12_tell yX12_tell, Cond.code yX12_tell cX12_tell 9 none, Cond.methodLink RL 133 yL_count, Cond.static yL_count, Cond.codeWith yL_count cL_count 4 (some .int) [(0, 9, 12, 13)]]
def wsL_law0_r37 : List Cond := [Cond.methodLink RL 56 yX11_count, Cond.instanceMethod yX11_count, Cond.selects RX11 yX11_count yX11_count, Cond.code yX11_count cX11_count 2 (some .int), Cond.methodLink RL 135 yX12_count, Cond.instanceMethod yX12_count, Cond.selects RX12 yX12_count yX12_count, Cond.code yX12_count cX12_count 2 (some .int), Cond.methodLink RL 136 yL_part, Cond.static yL_part, Cond.codeWith yL_part cL_part 5 (some .int) [(0, 10, 13, 25)], Cond.methodLink RL 59 yX11_part, Cond.instanceMethod yX11_part, Cond.selects RX11 yX11_part yX11_part, Cond.code yX11_part cX11_part 3 (some .int), Cond.methodLink RX11 148 yX11_needPlace, Cond.instanceMethod yX11_needPlace, Cond.selects RX11 yX11_needPlace yX11_needPlace, Cond.code yX11_needPlace cX11_needPlace 3 none, Cond.methodLink RX11 161 yX11_numberAt, Cond.static yX11_numberAt, Cond.code yX11_numberAt cX11_numberAt 2 (some .int), Cond.methodLink RL 138 yX12_part, Cond.instanceMethod yX12_part]
def wsL_law0_r38 : List Cond := [Cond.selects RX12 yX12_part yX12_part, Cond.code yX12_part cX12_part 3 (some .int), Cond.methodLink RX12 363 yX12_isValue, Cond.instanceMethod yX12_isValue, Cond.selects RX12 yX12_isValue yX12_isValue, Cond.code yX12_isValue cX12_isValue 2 (some .boolean), Cond.methodLink RX12 366 yX12_told, Cond.instanceMethod yX12_told, Cond.selects RX12 yX12_told yX12_told, Cond.code yX12_told cX12_told 3 (some .int), Cond.methodLink RL 139 yL_bound, Cond.static yL_bound, Cond.codeWith yL_bound cL_bound 6 (some .int) [(0, 12, 15, 25)], Cond.methodLink RL 62 yX11_bound, Cond.instanceMethod yX11_bound, Cond.selects RX11 yX11_bound yX11_bound, Cond.code yX11_bound cX11_bound 4 (some .int), Cond.methodLink RL 141 yX12_bound, Cond.instanceMethod yX12_bound, Cond.selects RX12 yX12_bound yX12_bound, Cond.code yX12_bound cX12_bound 4 (some .int), Cond.methodLink RL 142 yL_steps, Cond.static yL_steps, Cond.codeWith yL_steps cL_steps 4 (some .int) [(0, 9, 12, 25)]]
def wsL_law0_r39 : List Cond := [Cond.methodLink RL 65 yX11_steps, Cond.instanceMethod yX11_steps, Cond.selects RX11 yX11_steps yX11_steps, Cond.code yX11_steps cX11_steps 2 (some .int), Cond.methodLink RL 144 yX12_steps, Cond.instanceMethod yX12_steps, Cond.selects RX12 yX12_steps yX12_steps, Cond.code yX12_steps cX12_steps 2 (some .int), Cond.methodLink RL 145 yL_fate, Cond.static yL_fate, Cond.codeWith yL_fate cL_fate 5 (some .int) [(0, 10, 13, 25)], Cond.methodLink RL 68 yX11_fate, Cond.instanceMethod yX11_fate, Cond.selects RX11 yX11_fate yX11_fate, Cond.code yX11_fate cX11_fate 3 (some .int), Cond.methodLink RL 147 yX12_fate, Cond.instanceMethod yX12_fate, Cond.selects RX12 yX12_fate yX12_fate, Cond.code yX12_fate cX12_fate 3 (some .int), Cond.methodLink RL 148 yL_within, Cond.static yL_within, Cond.codeWith yL_within cL_within 4 (some .int) [(0, 9, 12, 13), (0, 9, 15, 15)], Cond.methodLink RL 71 yX11_within, Cond.instanceMethod yX11_within]
def wsL_law0_r40 : List Cond := [Cond.selects RX11 yX11_within yX11_within, Cond.code yX11_within cX11_within 2 (some .int), Cond.instanceMethod yX8_countWithin, Cond.selects RX8 yX8_countWithin yX8_countWithin, Cond.code yX8_countWithin cX8_countWithin 7 (some .int), Cond.instanceMethod yX2_deepen, Cond.selects RX2 yX2_deepen yX2_deepen, Cond.code yX2_deepen cX2_deepen 1 none, Cond.methodLink RL 150 yX12_within, Cond.instanceMethod yX12_within, Cond.selects RX12 yX12_within yX12_within, Cond.code yX12_within cX12_within 6 (some .int)]
def wsL_law0 : List Cond := (wsL_law0_r1 ++ (wsL_law0_r2 ++ (wsL_law0_r3 ++ (wsL_law0_r4 ++ (wsL_law0_r5 ++ (wsL_law0_r6 ++ (wsL_law0_r7 ++ (wsL_law0_r8 ++ (wsL_law0_r9 ++ (wsL_law0_r10 ++ (wsL_law0_r11 ++ (wsL_law0_r12 ++ (wsL_law0_r13 ++ (wsL_law0_r14 ++ (wsL_law0_r15 ++ (wsL_law0_r16 ++ (wsL_law0_r17 ++ (wsL_law0_r18 ++ (wsL_law0_r19 ++ (wsL_law0_r20 ++ (wsL_law0_r21 ++ (wsL_law0_r22 ++ (wsL_law0_r23 ++ (wsL_law0_r24 ++ (wsL_law0_r25 ++ (wsL_law0_r26 ++ (wsL_law0_r27 ++ (wsL_law0_r28 ++ (wsL_law0_r29 ++ (wsL_law0_r30 ++ (wsL_law0_r31 ++ (wsL_law0_r32 ++ (wsL_law0_r33 ++ (wsL_law0_r34 ++ (wsL_law0_r35 ++ (wsL_law0_r36 ++ (wsL_law0_r37 ++ (wsL_law0_r38 ++ (wsL_law0_r39 ++ wsL_law0_r40))))))))))))))))))))))))))))))))))))))) ++ wsX110 ++ wsX120 ++ wsX40 ++ wsX50 ++ wsX30 ++ wsX80 ++ wsX100 ++ wsX90 ++ wsX70 ++ wsX20 ++ wsX10 ++ wsX60 ++ wsX00 ++ ([] : List Cond)
def wsL_law : List Cond := wsL_law0 ++ (vx_atS RX11 49 "java/lang/IllegalArgumentException" ["java/lang/RuntimeException", "java/lang/Exception"]).filter goodWord ++ (vx_atS RX11 60 "java/lang/IllegalStateException" ["java/lang/RuntimeException", "java/lang/Exception"]).filter goodWord ++ (vx_atS RX11 169 "java/lang/IndexOutOfBoundsException" ["java/lang/RuntimeException", "java/lang/Exception"]).filter goodWord
set_option maxRecDepth 20000 in
theorem wsL_law0_r1_in : ∀ w ∈ wsL_law0_r1, w ∈ lw_tbl := fun w h => (goodIn_p wsL_law0_r1 [145, 148] (by decide +kernel) (by decide +kernel) w h).1
set_option maxRecDepth 20000 in
theorem wsL_law0_r2_in : ∀ w ∈ wsL_law0_r2, w ∈ lw_tbl := fun w h => (goodIn_p wsL_law0_r2 [153, 185] (by decide +kernel) (by decide +kernel) w h).1
set_option maxRecDepth 20000 in
theorem wsL_law0_r3_in : ∀ w ∈ wsL_law0_r3, w ∈ lw_tbl := fun w h => (goodIn_p wsL_law0_r3 [216] (by decide +kernel) (by decide +kernel) w h).1
set_option maxRecDepth 20000 in
theorem wsL_law0_r4_in : ∀ w ∈ wsL_law0_r4, w ∈ lw_tbl := fun w h => (goodIn_p wsL_law0_r4 [222, 275] (by decide +kernel) (by decide +kernel) w h).1
set_option maxRecDepth 20000 in
theorem wsL_law0_r5_in : ∀ w ∈ wsL_law0_r5, w ∈ lw_tbl := fun w h => (goodIn_p wsL_law0_r5 [305, 328] (by decide +kernel) (by decide +kernel) w h).1
set_option maxRecDepth 20000 in
theorem wsL_law0_r6_in : ∀ w ∈ wsL_law0_r6, w ∈ lw_tbl := fun w h => (goodIn_p wsL_law0_r6 [421, 428] (by decide +kernel) (by decide +kernel) w h).1
set_option maxRecDepth 20000 in
theorem wsL_law0_r7_in : ∀ w ∈ wsL_law0_r7, w ∈ lw_tbl := fun w h => (goodIn_p wsL_law0_r7 [1146] (by decide +kernel) (by decide +kernel) w h).1
set_option maxRecDepth 20000 in
theorem wsL_law0_r8_in : ∀ w ∈ wsL_law0_r8, w ∈ lw_tbl := fun w h => (goodIn_p wsL_law0_r8 [] (by decide +kernel) (by decide +kernel) w h).1
set_option maxRecDepth 20000 in
theorem wsL_law0_r9_in : ∀ w ∈ wsL_law0_r9, w ∈ lw_tbl := fun w h => (goodIn_p wsL_law0_r9 [558, 646] (by decide +kernel) (by decide +kernel) w h).1
set_option maxRecDepth 20000 in
theorem wsL_law0_r10_in : ∀ w ∈ wsL_law0_r10, w ∈ lw_tbl := fun w h => (goodIn_p wsL_law0_r10 [1349, 1352, 1345, 653, 658] (by decide +kernel) (by decide +kernel) w h).1
set_option maxRecDepth 20000 in
theorem wsL_law0_r11_in : ∀ w ∈ wsL_law0_r11, w ∈ lw_tbl := fun w h => (goodIn_p wsL_law0_r11 [662, 666, 670, 675, 1356, 1360] (by decide +kernel) (by decide +kernel) w h).1
set_option maxRecDepth 20000 in
theorem wsL_law0_r12_in : ∀ w ∈ wsL_law0_r12, w ∈ lw_tbl := fun w h => (goodIn_p wsL_law0_r12 [1364, 1368, 683, 686, 690] (by decide +kernel) (by decide +kernel) w h).1
set_option maxRecDepth 20000 in
theorem wsL_law0_r13_in : ∀ w ∈ wsL_law0_r13, w ∈ lw_tbl := fun w h => (goodIn_p wsL_law0_r13 [1372, 1376, 1380, 715, 719, 724] (by decide +kernel) (by decide +kernel) w h).1
set_option maxRecDepth 20000 in
theorem wsL_law0_r14_in : ∀ w ∈ wsL_law0_r14, w ∈ lw_tbl := fun w h => (goodIn_p wsL_law0_r14 [1384, 1388, 731, 1392, 1396] (by decide +kernel) (by decide +kernel) w h).1
set_option maxRecDepth 20000 in
theorem wsL_law0_r15_in : ∀ w ∈ wsL_law0_r15, w ∈ lw_tbl := fun w h => (goodIn_p wsL_law0_r15 [738, 1400, 745, 1404] (by decide +kernel) (by decide +kernel) w h).1
set_option maxRecDepth 20000 in
theorem wsL_law0_r16_in : ∀ w ∈ wsL_law0_r16, w ∈ lw_tbl := fun w h => (goodIn_p wsL_law0_r16 [752, 1408, 511, 1412, 759] (by decide +kernel) (by decide +kernel) w h).1
set_option maxRecDepth 20000 in
theorem wsL_law0_r17_in : ∀ w ∈ wsL_law0_r17, w ∈ lw_tbl := fun w h => (goodIn_p wsL_law0_r17 [764, 802] (by decide +kernel) (by decide +kernel) w h).1
set_option maxRecDepth 20000 in
theorem wsL_law0_r18_in : ∀ w ∈ wsL_law0_r18, w ∈ lw_tbl := fun w h => (goodIn_p wsL_law0_r18 [806, 834, 1416, 1420, 1423, 1427] (by decide +kernel) (by decide +kernel) w h).1
set_option maxRecDepth 20000 in
theorem wsL_law0_r19_in : ∀ w ∈ wsL_law0_r19, w ∈ lw_tbl := fun w h => (goodIn_p wsL_law0_r19 [841, 531, 847, 1431, 515, 519] (by decide +kernel) (by decide +kernel) w h).1
set_option maxRecDepth 20000 in
theorem wsL_law0_r20_in : ∀ w ∈ wsL_law0_r20, w ∈ lw_tbl := fun w h => (goodIn_p wsL_law0_r20 [523, 527, 536, 540, 545, 549, 1435] (by decide +kernel) (by decide +kernel) w h).1
set_option maxRecDepth 20000 in
theorem wsL_law0_r21_in : ∀ w ∈ wsL_law0_r21, w ∈ lw_tbl := fun w h => (goodIn_p wsL_law0_r21 [1439, 1443, 1447, 1451, 1455, 1459] (by decide +kernel) (by decide +kernel) w h).1
set_option maxRecDepth 20000 in
theorem wsL_law0_r22_in : ∀ w ∈ wsL_law0_r22, w ∈ lw_tbl := fun w h => (goodIn_p wsL_law0_r22 [854, 1463, 861, 867] (by decide +kernel) (by decide +kernel) w h).1
set_option maxRecDepth 20000 in
theorem wsL_law0_r23_in : ∀ w ∈ wsL_law0_r23, w ∈ lw_tbl := fun w h => (goodIn_p wsL_law0_r23 [871, 875, 881, 888, 892] (by decide +kernel) (by decide +kernel) w h).1
set_option maxRecDepth 20000 in
theorem wsL_law0_r24_in : ∀ w ∈ wsL_law0_r24, w ∈ lw_tbl := fun w h => (goodIn_p wsL_law0_r24 [896, 900, 904, 908, 912, 916] (by decide +kernel) (by decide +kernel) w h).1
set_option maxRecDepth 20000 in
theorem wsL_law0_r25_in : ∀ w ∈ wsL_law0_r25, w ∈ lw_tbl := fun w h => (goodIn_p wsL_law0_r25 [920, 924, 929, 933, 938, 942, 946] (by decide +kernel) (by decide +kernel) w h).1
set_option maxRecDepth 20000 in
theorem wsL_law0_r26_in : ∀ w ∈ wsL_law0_r26, w ∈ lw_tbl := fun w h => (goodIn_p wsL_law0_r26 [950, 955, 959, 963, 968, 973] (by decide +kernel) (by decide +kernel) w h).1
set_option maxRecDepth 20000 in
theorem wsL_law0_r27_in : ∀ w ∈ wsL_law0_r27, w ∈ lw_tbl := fun w h => (goodIn_p wsL_law0_r27 [977, 981, 985, 989, 993, 997] (by decide +kernel) (by decide +kernel) w h).1
set_option maxRecDepth 20000 in
theorem wsL_law0_r28_in : ∀ w ∈ wsL_law0_r28, w ∈ lw_tbl := fun w h => (goodIn_p wsL_law0_r28 [1002, 1006, 1010, 1014, 1018, 1022, 1026] (by decide +kernel) (by decide +kernel) w h).1
set_option maxRecDepth 20000 in
theorem wsL_law0_r29_in : ∀ w ∈ wsL_law0_r29, w ∈ lw_tbl := fun w h => (goodIn_p wsL_law0_r29 [1031, 1036, 1040, 1044, 1048] (by decide +kernel) (by decide +kernel) w h).1
set_option maxRecDepth 20000 in
theorem wsL_law0_r30_in : ∀ w ∈ wsL_law0_r30, w ∈ lw_tbl := fun w h => (goodIn_p wsL_law0_r30 [1052, 1056, 1060, 1064, 1068, 1073, 1077] (by decide +kernel) (by decide +kernel) w h).1
set_option maxRecDepth 20000 in
theorem wsL_law0_r31_in : ∀ w ∈ wsL_law0_r31, w ∈ lw_tbl := fun w h => (goodIn_p wsL_law0_r31 [1467, 1471, 1476, 1480] (by decide +kernel) (by decide +kernel) w h).1
set_option maxRecDepth 20000 in
theorem wsL_law0_r32_in : ∀ w ∈ wsL_law0_r32, w ∈ lw_tbl := fun w h => (goodIn_p wsL_law0_r32 [1484, 1488, 1492, 1496, 1499] (by decide +kernel) (by decide +kernel) w h).1
set_option maxRecDepth 20000 in
theorem wsL_law0_r33_in : ∀ w ∈ wsL_law0_r33, w ∈ lw_tbl := fun w h => (goodIn_p wsL_law0_r33 [1503, 1507, 1511, 1515, 1519, 1523] (by decide +kernel) (by decide +kernel) w h).1
set_option maxRecDepth 20000 in
theorem wsL_law0_r34_in : ∀ w ∈ wsL_law0_r34, w ∈ lw_tbl := fun w h => (goodIn_p wsL_law0_r34 [1527, 1531, 1535, 1539, 1543, 1547] (by decide +kernel) (by decide +kernel) w h).1
set_option maxRecDepth 20000 in
theorem wsL_law0_r35_in : ∀ w ∈ wsL_law0_r35, w ∈ lw_tbl := fun w h => (goodIn_p wsL_law0_r35 [1551, 1555, 1559, 1563, 1567, 1571] (by decide +kernel) (by decide +kernel) w h).1
set_option maxRecDepth 20000 in
theorem wsL_law0_r36_in : ∀ w ∈ wsL_law0_r36, w ∈ lw_tbl := fun w h => (goodIn_p wsL_law0_r36 [1575, 1579, 1583, 1587, 1591] (by decide +kernel) (by decide +kernel) w h).1
set_option maxRecDepth 20000 in
theorem wsL_law0_r37_in : ∀ w ∈ wsL_law0_r37, w ∈ lw_tbl := fun w h => (goodIn_p wsL_law0_r37 [1085, 1595, 1093, 1097, 1102] (by decide +kernel) (by decide +kernel) w h).1
set_option maxRecDepth 20000 in
theorem wsL_law0_r38_in : ∀ w ∈ wsL_law0_r38, w ∈ lw_tbl := fun w h => (goodIn_p wsL_law0_r38 [1599, 1603, 1607, 1109, 1611] (by decide +kernel) (by decide +kernel) w h).1
set_option maxRecDepth 20000 in
theorem wsL_law0_r39_in : ∀ w ∈ wsL_law0_r39, w ∈ lw_tbl := fun w h => (goodIn_p wsL_law0_r39 [1117, 1615, 1124, 1619] (by decide +kernel) (by decide +kernel) w h).1
set_option maxRecDepth 20000 in
theorem wsL_law0_r40_in : ∀ w ∈ wsL_law0_r40, w ∈ lw_tbl := fun w h => (goodIn_p wsL_law0_r40 [1131, 1136, 1140, 1623] (by decide +kernel) (by decide +kernel) w h).1
set_option maxRecDepth 20000 in
theorem wsX110_in0 : ∀ w ∈ wsX110, w ∈ lw_tbl := fun w h => (goodIn_p wsX110 [] (by decide +kernel) (by decide +kernel) w h).1
set_option maxRecDepth 20000 in
theorem wsX120_in0 : ∀ w ∈ wsX120, w ∈ lw_tbl := fun w h => (goodIn_p wsX120 [] (by decide +kernel) (by decide +kernel) w h).1
set_option maxRecDepth 20000 in
theorem wsX40_in0 : ∀ w ∈ wsX40, w ∈ lw_tbl := fun w h => (goodIn_p wsX40 [] (by decide +kernel) (by decide +kernel) w h).1
set_option maxRecDepth 20000 in
theorem wsX50_in0 : ∀ w ∈ wsX50, w ∈ lw_tbl := fun w h => (goodIn_p wsX50 [] (by decide +kernel) (by decide +kernel) w h).1
set_option maxRecDepth 20000 in
theorem wsX30_in0 : ∀ w ∈ wsX30, w ∈ lw_tbl := fun w h => (goodIn_p wsX30 [] (by decide +kernel) (by decide +kernel) w h).1
set_option maxRecDepth 20000 in
theorem wsX80_in0 : ∀ w ∈ wsX80, w ∈ lw_tbl := fun w h => (goodIn_p wsX80 [] (by decide +kernel) (by decide +kernel) w h).1
set_option maxRecDepth 20000 in
theorem wsX100_in0 : ∀ w ∈ wsX100, w ∈ lw_tbl := fun w h => (goodIn_p wsX100 [] (by decide +kernel) (by decide +kernel) w h).1
set_option maxRecDepth 20000 in
theorem wsX90_in0 : ∀ w ∈ wsX90, w ∈ lw_tbl := fun w h => (goodIn_p wsX90 [] (by decide +kernel) (by decide +kernel) w h).1
set_option maxRecDepth 20000 in
theorem wsX70_in0 : ∀ w ∈ wsX70, w ∈ lw_tbl := fun w h => (goodIn_p wsX70 [] (by decide +kernel) (by decide +kernel) w h).1
set_option maxRecDepth 20000 in
theorem wsX20_in0 : ∀ w ∈ wsX20, w ∈ lw_tbl := fun w h => (goodIn_p wsX20 [] (by decide +kernel) (by decide +kernel) w h).1
set_option maxRecDepth 20000 in
theorem wsX10_in0 : ∀ w ∈ wsX10, w ∈ lw_tbl := fun w h => (goodIn_p wsX10 [] (by decide +kernel) (by decide +kernel) w h).1
set_option maxRecDepth 20000 in
theorem wsX60_in0 : ∀ w ∈ wsX60, w ∈ lw_tbl := fun w h => (goodIn_p wsX60 [] (by decide +kernel) (by decide +kernel) w h).1
set_option maxRecDepth 20000 in
theorem wsX00_in0 : ∀ w ∈ wsX00, w ∈ lw_tbl := fun w h => (goodIn_p wsX00 [] (by decide +kernel) (by decide +kernel) w h).1
theorem wsL_law_in0 : ∀ w ∈ wsL_law0, w ∈ lw_tbl := by
  intro w h
  unfold wsL_law0 at h
  rw [List.append_nil] at h
  simp only [List.mem_append, or_assoc] at h
  rcases h with h | h | h | h | h | h | h | h | h | h | h | h | h | h | h | h | h | h | h | h | h | h | h | h | h | h | h | h | h | h | h | h | h | h | h | h | h | h | h | h | h | h | h | h | h | h | h | h | h | h | h | h | h
  · exact wsL_law0_r1_in w h
  · exact wsL_law0_r2_in w h
  · exact wsL_law0_r3_in w h
  · exact wsL_law0_r4_in w h
  · exact wsL_law0_r5_in w h
  · exact wsL_law0_r6_in w h
  · exact wsL_law0_r7_in w h
  · exact wsL_law0_r8_in w h
  · exact wsL_law0_r9_in w h
  · exact wsL_law0_r10_in w h
  · exact wsL_law0_r11_in w h
  · exact wsL_law0_r12_in w h
  · exact wsL_law0_r13_in w h
  · exact wsL_law0_r14_in w h
  · exact wsL_law0_r15_in w h
  · exact wsL_law0_r16_in w h
  · exact wsL_law0_r17_in w h
  · exact wsL_law0_r18_in w h
  · exact wsL_law0_r19_in w h
  · exact wsL_law0_r20_in w h
  · exact wsL_law0_r21_in w h
  · exact wsL_law0_r22_in w h
  · exact wsL_law0_r23_in w h
  · exact wsL_law0_r24_in w h
  · exact wsL_law0_r25_in w h
  · exact wsL_law0_r26_in w h
  · exact wsL_law0_r27_in w h
  · exact wsL_law0_r28_in w h
  · exact wsL_law0_r29_in w h
  · exact wsL_law0_r30_in w h
  · exact wsL_law0_r31_in w h
  · exact wsL_law0_r32_in w h
  · exact wsL_law0_r33_in w h
  · exact wsL_law0_r34_in w h
  · exact wsL_law0_r35_in w h
  · exact wsL_law0_r36_in w h
  · exact wsL_law0_r37_in w h
  · exact wsL_law0_r38_in w h
  · exact wsL_law0_r39_in w h
  · exact wsL_law0_r40_in w h
  · exact wsX110_in0 w h
  · exact wsX120_in0 w h
  · exact wsX40_in0 w h
  · exact wsX50_in0 w h
  · exact wsX30_in0 w h
  · exact wsX80_in0 w h
  · exact wsX100_in0 w h
  · exact wsX90_in0 w h
  · exact wsX70_in0 w h
  · exact wsX20_in0 w h
  · exact wsX10_in0 w h
  · exact wsX60_in0 w h
  · exact wsX00_in0 w h
theorem wsL_law_x0 : ∀ w ∈ (vx_atS RX11 49 "java/lang/IllegalArgumentException" ["java/lang/RuntimeException", "java/lang/Exception"]).filter goodWord, w ∈ lw_tbl := by decide +kernel
theorem wsL_law_x1 : ∀ w ∈ (vx_atS RX11 60 "java/lang/IllegalStateException" ["java/lang/RuntimeException", "java/lang/Exception"]).filter goodWord, w ∈ lw_tbl := by decide +kernel
theorem wsL_law_x2 : ∀ w ∈ (vx_atS RX11 169 "java/lang/IndexOutOfBoundsException" ["java/lang/RuntimeException", "java/lang/Exception"]).filter goodWord, w ∈ lw_tbl := by decide +kernel
theorem wsL_law_in : ∀ w ∈ wsL_law, w ∈ lw_tbl := fun w h => (List.mem_append.mp h).elim (fun h => (List.mem_append.mp h).elim (fun h => (List.mem_append.mp h).elim (fun h => wsL_law_in0 w h) (fun h => wsL_law_x0 w h)) (fun h => wsL_law_x1 w h)) (fun h => wsL_law_x2 w h)
theorem inlX0 : ∀ w ∈ wsX00, w ∈ wsL_law := fun _ h => List.mem_append_left _ (List.mem_append_left _ (List.mem_append_left _ (List.mem_append_left _ (List.mem_append_right _ h))))
theorem inX0 : ∀ w ∈ wsX00, w ∈ lw_tbl := fun w h => wsL_law_in w (inlX0 w h)
theorem inlX1 : ∀ w ∈ wsX10, w ∈ wsL_law := fun _ h => List.mem_append_left _ (List.mem_append_left _ (List.mem_append_left _ (List.mem_append_left _ (List.mem_append_left _ (List.mem_append_left _ (List.mem_append_right _ h))))))
theorem inX1 : ∀ w ∈ wsX10, w ∈ lw_tbl := fun w h => wsL_law_in w (inlX1 w h)
theorem inlX2 : ∀ w ∈ wsX20, w ∈ wsL_law := fun _ h => List.mem_append_left _ (List.mem_append_left _ (List.mem_append_left _ (List.mem_append_left _ (List.mem_append_left _ (List.mem_append_left _ (List.mem_append_left _ (List.mem_append_right _ h)))))))
theorem inX2 : ∀ w ∈ wsX20, w ∈ lw_tbl := fun w h => wsL_law_in w (inlX2 w h)
theorem inlX3 : ∀ w ∈ wsX30, w ∈ wsL_law := fun _ h => List.mem_append_left _ (List.mem_append_left _ (List.mem_append_left _ (List.mem_append_left _ (List.mem_append_left _ (List.mem_append_left _ (List.mem_append_left _ (List.mem_append_left _ (List.mem_append_left _ (List.mem_append_left _ (List.mem_append_left _ (List.mem_append_left _ (List.mem_append_right _ h))))))))))))
theorem inX3 : ∀ w ∈ wsX30, w ∈ lw_tbl := fun w h => wsL_law_in w (inlX3 w h)
theorem inlX4 : ∀ w ∈ wsX40, w ∈ wsL_law := fun _ h => List.mem_append_left _ (List.mem_append_left _ (List.mem_append_left _ (List.mem_append_left _ (List.mem_append_left _ (List.mem_append_left _ (List.mem_append_left _ (List.mem_append_left _ (List.mem_append_left _ (List.mem_append_left _ (List.mem_append_left _ (List.mem_append_left _ (List.mem_append_left _ (List.mem_append_left _ (List.mem_append_right _ h))))))))))))))
theorem inX4 : ∀ w ∈ wsX40, w ∈ lw_tbl := fun w h => wsL_law_in w (inlX4 w h)
theorem inlX5 : ∀ w ∈ wsX50, w ∈ wsL_law := fun _ h => List.mem_append_left _ (List.mem_append_left _ (List.mem_append_left _ (List.mem_append_left _ (List.mem_append_left _ (List.mem_append_left _ (List.mem_append_left _ (List.mem_append_left _ (List.mem_append_left _ (List.mem_append_left _ (List.mem_append_left _ (List.mem_append_left _ (List.mem_append_left _ (List.mem_append_right _ h)))))))))))))
theorem inX5 : ∀ w ∈ wsX50, w ∈ lw_tbl := fun w h => wsL_law_in w (inlX5 w h)
theorem inlX6 : ∀ w ∈ wsX60, w ∈ wsL_law := fun _ h => List.mem_append_left _ (List.mem_append_left _ (List.mem_append_left _ (List.mem_append_left _ (List.mem_append_left _ (List.mem_append_right _ h)))))
theorem inX6 : ∀ w ∈ wsX60, w ∈ lw_tbl := fun w h => wsL_law_in w (inlX6 w h)
theorem inlX7 : ∀ w ∈ wsX70, w ∈ wsL_law := fun _ h => List.mem_append_left _ (List.mem_append_left _ (List.mem_append_left _ (List.mem_append_left _ (List.mem_append_left _ (List.mem_append_left _ (List.mem_append_left _ (List.mem_append_left _ (List.mem_append_right _ h))))))))
theorem inX7 : ∀ w ∈ wsX70, w ∈ lw_tbl := fun w h => wsL_law_in w (inlX7 w h)
theorem inlX8 : ∀ w ∈ wsX80, w ∈ wsL_law := fun _ h => List.mem_append_left _ (List.mem_append_left _ (List.mem_append_left _ (List.mem_append_left _ (List.mem_append_left _ (List.mem_append_left _ (List.mem_append_left _ (List.mem_append_left _ (List.mem_append_left _ (List.mem_append_left _ (List.mem_append_left _ (List.mem_append_right _ h)))))))))))
theorem inX8 : ∀ w ∈ wsX80, w ∈ lw_tbl := fun w h => wsL_law_in w (inlX8 w h)
theorem inlX9 : ∀ w ∈ wsX90, w ∈ wsL_law := fun _ h => List.mem_append_left _ (List.mem_append_left _ (List.mem_append_left _ (List.mem_append_left _ (List.mem_append_left _ (List.mem_append_left _ (List.mem_append_left _ (List.mem_append_left _ (List.mem_append_left _ (List.mem_append_right _ h)))))))))
theorem inX9 : ∀ w ∈ wsX90, w ∈ lw_tbl := fun w h => wsL_law_in w (inlX9 w h)
theorem inlX10 : ∀ w ∈ wsX100, w ∈ wsL_law := fun _ h => List.mem_append_left _ (List.mem_append_left _ (List.mem_append_left _ (List.mem_append_left _ (List.mem_append_left _ (List.mem_append_left _ (List.mem_append_left _ (List.mem_append_left _ (List.mem_append_left _ (List.mem_append_left _ (List.mem_append_right _ h))))))))))
theorem inX10 : ∀ w ∈ wsX100, w ∈ lw_tbl := fun w h => wsL_law_in w (inlX10 w h)
theorem inlX11 : ∀ w ∈ wsX110, w ∈ wsL_law := fun _ h => List.mem_append_left _ (List.mem_append_left _ (List.mem_append_left _ (List.mem_append_left _ (List.mem_append_left _ (List.mem_append_left _ (List.mem_append_left _ (List.mem_append_left _ (List.mem_append_left _ (List.mem_append_left _ (List.mem_append_left _ (List.mem_append_left _ (List.mem_append_left _ (List.mem_append_left _ (List.mem_append_left _ (List.mem_append_left _ (List.mem_append_right _ h))))))))))))))))
theorem inX11 : ∀ w ∈ wsX110, w ∈ lw_tbl := fun w h => wsL_law_in w (inlX11 w h)
theorem inlX12 : ∀ w ∈ wsX120, w ∈ wsL_law := fun _ h => List.mem_append_left _ (List.mem_append_left _ (List.mem_append_left _ (List.mem_append_left _ (List.mem_append_left _ (List.mem_append_left _ (List.mem_append_left _ (List.mem_append_left _ (List.mem_append_left _ (List.mem_append_left _ (List.mem_append_left _ (List.mem_append_left _ (List.mem_append_left _ (List.mem_append_left _ (List.mem_append_left _ (List.mem_append_right _ h)))))))))))))))
theorem inX12 : ∀ w ∈ wsX120, w ∈ lw_tbl := fun w h => wsL_law_in w (inlX12 w h)
theorem inJ0 : ∀ w ∈ wsJ00, w ∈ lw_tbl := by decide +kernel
theorem inJ10 : ∀ w ∈ wsJ100, w ∈ lw_tbl := by decide +kernel
abbrev vwCl : List vw_C := [(RX0, TX0, 7), (RX1, TX1, 6), (RX2, TX2, 8), (RX3, TX3, 14), (RX4, TX4, 6), (RX5, TX5, 6), (RX6, TX6, 5), (RX7, TX7, 4), (RX8, TX8, 11), (RX9, TX9, 5), (RX10, TX10, 11), (RX11, TX11, 5), (RX12, TX12, 64)]

