-- names, field tables and methods' bytes: the program's own, as printed
def RX0 : String := "DisambiguationBench$EditState"
def TX0 : u_T := fun k => match k with
  | 0 => ("DisambiguationBench$EditState", "filters", "[I", true)
  | 1 => ("DisambiguationBench$EditState", "variables", "[I", true)
  | _ => ("DisambiguationBench$EditState", "pipelineLength", "I", false)
def tyX0 : Nat → FieldType := fun k => match k with
  | 0 => .array .int
  | 1 => .array .int
  | _ => .int
theorem nmX0 : ∀ a, a < 3 → ∀ b, b < 3 → a ≠ b → (TX0 a).2.1 ≠ (TX0 b).2.1 := by decide +kernel
theorem tyX0_ok : ∀ k, k < 3 → parseFieldDescriptor (TX0 k).2.2.1 = some (tyX0 k) := by decide +kernel
abbrev cX0_init : ByteArray := prog_2_method_1_code
def yX0_init : MethodName := ⟨RX0, "<init>", "()V"⟩
abbrev cX0_reset : ByteArray := prog_2_method_2_code
def yX0_reset : MethodName := ⟨RX0, "reset", "()V"⟩
abbrev cX0_copyFrom : ByteArray := prog_2_method_3_code
def yX0_copyFrom : MethodName := ⟨RX0, "copyFrom", "(LDisambiguationBench$EditState;)V"⟩
abbrev cX0_insert : ByteArray := prog_2_method_4_code
def yX0_insert : MethodName := ⟨RX0, "insert", "(II)V"⟩
abbrev cX0_delete : ByteArray := prog_2_method_5_code
def yX0_delete : MethodName := ⟨RX0, "delete", "(I)V"⟩
abbrev cX0_swapWithNext : ByteArray := prog_2_method_6_code
def yX0_swapWithNext : MethodName := ⟨RX0, "swapWithNext", "(I)V"⟩
def RX1 : String := "DisambiguationBench$FilterCode"
def TX1 : u_T := fun k => match k with
  | _ => ("", "", "", false)
def tyX1 : Nat → FieldType := fun k => match k with
  | _ => .int
theorem nmX1 : ∀ a, a < 0 → ∀ b, b < 0 → a ≠ b → (TX1 a).2.1 ≠ (TX1 b).2.1 := by decide +kernel
theorem tyX1_ok : ∀ k, k < 0 → parseFieldDescriptor (TX1 k).2.2.1 = some (tyX1 k) := by decide +kernel
abbrev cX1_of : ByteArray := prog_3_method_2_code
def yX1_of : MethodName := ⟨RX1, "of", "(IIIZ)I"⟩
abbrev cX1_kind : ByteArray := prog_3_method_3_code
def yX1_kind : MethodName := ⟨RX1, "kind", "(I)I"⟩
abbrev cX1_symbol : ByteArray := prog_3_method_4_code
def yX1_symbol : MethodName := ⟨RX1, "symbol", "(I)I"⟩
abbrev cX1_childSymbol : ByteArray := prog_3_method_5_code
def yX1_childSymbol : MethodName := ⟨RX1, "childSymbol", "(I)I"⟩
abbrev cX1_isRightSide : ByteArray := prog_3_method_6_code
def yX1_isRightSide : MethodName := ⟨RX1, "isRightSide", "(I)Z"⟩
abbrev cX1_forbids : ByteArray := prog_3_method_7_code
def yX1_forbids : MethodName := ⟨RX1, "forbids", "(ILDisambiguationBench$Setup;IIZ)Z"⟩
def RX2 : String := "DisambiguationBench$Forest"
def TX2 : u_T := fun k => match k with
  | 0 => ("DisambiguationBench$Forest", "operators", "I", false)
  | 1 => ("DisambiguationBench$Forest", "roots", "[I", true)
  | 2 => ("DisambiguationBench$Forest", "leftChildren", "[I", true)
  | 3 => ("DisambiguationBench$Forest", "rightChildren", "[I", true)
  | _ => ("DisambiguationBench$Forest", "counts", "[I", true)
def tyX2 : Nat → FieldType := fun k => match k with
  | 0 => .int
  | 1 => .array .int
  | 2 => .array .int
  | 3 => .array .int
  | _ => .array .int
theorem nmX2 : ∀ a, a < 5 → ∀ b, b < 5 → a ≠ b → (TX2 a).2.1 ≠ (TX2 b).2.1 := by decide +kernel
theorem tyX2_ok : ∀ k, k < 5 → parseFieldDescriptor (TX2 k).2.2.1 = some (tyX2 k) := by decide +kernel
abbrev cX2_init : ByteArray := prog_4_method_1_code
def yX2_init : MethodName := ⟨RX2, "<init>", "()V"⟩
abbrev cX2_reset : ByteArray := prog_4_method_2_code
def yX2_reset : MethodName := ⟨RX2, "reset", "(I)V"⟩
abbrev cX2_apply : ByteArray := prog_4_method_3_code
def yX2_apply : MethodName := ⟨RX2, "apply", "(LDisambiguationBench$Setup;I)V"⟩
abbrev cX2_forbidChildren : ByteArray := prog_4_method_4_code
def yX2_forbidChildren : MethodName := ⟨RX2, "forbidChildren", "(LDisambiguationBench$Setup;I)V"⟩
abbrev cX2_keepRoots : ByteArray := prog_4_method_5_code
def yX2_keepRoots : MethodName := ⟨RX2, "keepRoots", "(I)V"⟩
abbrev cX2_countTrees : ByteArray := prog_4_method_6_code
def yX2_countTrees : MethodName := ⟨RX2, "countTrees", "()I"⟩
abbrev cX2_countSpan : ByteArray := prog_4_method_7_code
def yX2_countSpan : MethodName := ⟨RX2, "countSpan", "(II)V"⟩
abbrev cX2_treesOf : ByteArray := prog_4_method_8_code
def yX2_treesOf : MethodName := ⟨RX2, "treesOf", "(III)I"⟩
abbrev cX2_derivationsOf : ByteArray := prog_4_method_9_code
def yX2_derivationsOf : MethodName := ⟨RX2, "derivationsOf", "(IIII)I"⟩
abbrev cX2_allowsRoot : ByteArray := prog_4_method_10_code
def yX2_allowsRoot : MethodName := ⟨RX2, "allowsRoot", "(III)Z"⟩
abbrev cX2_isIn : ByteArray := prog_4_method_11_code
def yX2_isIn : MethodName := ⟨RX2, "isIn", "(II)Z"⟩
def RX3 : String := "DisambiguationBench$History"
def TX3 : u_T := fun k => match k with
  | 0 => ("DisambiguationBench$History", "states", "[LDisambiguationBench$EditState;", true)
  | _ => ("DisambiguationBench$History", "size", "I", false)
def tyX3 : Nat → FieldType := fun k => match k with
  | 0 => .array (.object "DisambiguationBench$EditState")
  | _ => .int
theorem nmX3 : ∀ a, a < 2 → ∀ b, b < 2 → a ≠ b → (TX3 a).2.1 ≠ (TX3 b).2.1 := by decide +kernel
theorem tyX3_ok : ∀ k, k < 2 → parseFieldDescriptor (TX3 k).2.2.1 = some (tyX3 k) := by decide +kernel
abbrev cX3_init : ByteArray := prog_5_method_1_code
def yX3_init : MethodName := ⟨RX3, "<init>", "()V"⟩
abbrev cX3_reset : ByteArray := prog_5_method_2_code
def yX3_reset : MethodName := ⟨RX3, "reset", "()V"⟩
abbrev cX3_save : ByteArray := prog_5_method_3_code
def yX3_save : MethodName := ⟨RX3, "save", "(LDisambiguationBench$EditState;)V"⟩
abbrev cX3_dropOldest : ByteArray := prog_5_method_4_code
def yX3_dropOldest : MethodName := ⟨RX3, "dropOldest", "()V"⟩
abbrev cX3_restore : ByteArray := prog_5_method_5_code
def yX3_restore : MethodName := ⟨RX3, "restore", "(LDisambiguationBench$EditState;)Z"⟩
def RX4 : String := "DisambiguationBench$Setup"
def TX4 : u_T := fun k => match k with
  | 0 => ("DisambiguationBench$Setup", "priorities", "[I", true)
  | 1 => ("DisambiguationBench$Setup", "associativities", "[I", true)
  | 2 => ("DisambiguationBench$Setup", "symbols", "[I", true)
  | 3 => ("DisambiguationBench$Setup", "letters", "[I", true)
  | _ => ("DisambiguationBench$Setup", "operands", "I", false)
def tyX4 : Nat → FieldType := fun k => match k with
  | 0 => .array .int
  | 1 => .array .int
  | 2 => .array .int
  | 3 => .array .int
  | _ => .int
theorem nmX4 : ∀ a, a < 5 → ∀ b, b < 5 → a ≠ b → (TX4 a).2.1 ≠ (TX4 b).2.1 := by decide +kernel
theorem tyX4_ok : ∀ k, k < 5 → parseFieldDescriptor (TX4 k).2.2.1 = some (tyX4 k) := by decide +kernel
abbrev cX4_init : ByteArray := prog_6_method_1_code
def yX4_init : MethodName := ⟨RX4, "<init>", "()V"⟩
abbrev cX4_reset : ByteArray := prog_6_method_2_code
def yX4_reset : MethodName := ⟨RX4, "reset", "()V"⟩
abbrev cX4_copyFrom : ByteArray := prog_6_method_3_code
def yX4_copyFrom : MethodName := ⟨RX4, "copyFrom", "(LDisambiguationBench$Setup;)V"⟩
abbrev cX4_hasExpression : ByteArray := prog_6_method_4_code
def yX4_hasExpression : MethodName := ⟨RX4, "hasExpression", "()Z"⟩
abbrev cX4_operators : ByteArray := prog_6_method_5_code
def yX4_operators : MethodName := ⟨RX4, "operators", "()I"⟩
abbrev cX4_isDeclared : ByteArray := prog_6_method_6_code
def yX4_isDeclared : MethodName := ⟨RX4, "isDeclared", "(I)Z"⟩
abbrev cX4_putOperand : ByteArray := prog_6_method_7_code
def yX4_putOperand : MethodName := ⟨RX4, "putOperand", "(IC)Z"⟩
abbrev cX4_putOperator : ByteArray := prog_6_method_8_code
def yX4_putOperator : MethodName := ⟨RX4, "putOperator", "(IC)Z"⟩
abbrev cX4_operatorsWith : ByteArray := prog_6_method_9_code
def yX4_operatorsWith : MethodName := ⟨RX4, "operatorsWith", "(I)I"⟩
def RX5 : String := "DisambiguationBench$SetupText"
def TX5 : u_T := fun k => match k with
  | 0 => ("DisambiguationBench$SetupText", "characters", "[C", true)
  | _ => ("DisambiguationBench$SetupText", "length", "I", false)
def tyX5 : Nat → FieldType := fun k => match k with
  | 0 => .array .char
  | _ => .int
theorem nmX5 : ∀ a, a < 2 → ∀ b, b < 2 → a ≠ b → (TX5 a).2.1 ≠ (TX5 b).2.1 := by decide +kernel
theorem tyX5_ok : ∀ k, k < 2 → parseFieldDescriptor (TX5 k).2.2.1 = some (tyX5 k) := by decide +kernel
abbrev cX5_init : ByteArray := prog_7_method_1_code
def yX5_init : MethodName := ⟨RX5, "<init>", "()V"⟩
abbrev cX5_put : ByteArray := prog_7_method_2_code
def yX5_put : MethodName := ⟨RX5, "put", "(C)Z"⟩
abbrev cX5_empty : ByteArray := prog_7_method_3_code
def yX5_empty : MethodName := ⟨RX5, "empty", "()V"⟩
abbrev cX5_parse : ByteArray := prog_7_method_4_code
def yX5_parse : MethodName := ⟨RX5, "parse", "(LDisambiguationBench$Setup;)I"⟩
abbrev cX5_parseStatement : ByteArray := prog_7_method_5_code
def yX5_parseStatement : MethodName := ⟨RX5, "parseStatement", "(IILDisambiguationBench$Setup;)Z"⟩
abbrev cX5_hasWord : ByteArray := prog_7_method_6_code
def yX5_hasWord : MethodName := ⟨RX5, "hasWord", "(Ljava/lang/String;II)Z"⟩
abbrev cX5_parseDeclaration : ByteArray := prog_7_method_7_code
def yX5_parseDeclaration : MethodName := ⟨RX5, "parseDeclaration", "(IILDisambiguationBench$Setup;)Z"⟩
abbrev cX5_parseExpression : ByteArray := prog_7_method_8_code
def yX5_parseExpression : MethodName := ⟨RX5, "parseExpression", "(IILDisambiguationBench$Setup;)Z"⟩
def RX6 : String := "DisambiguationBench$Tree"
def TX6 : u_T := fun k => match k with
  | 0 => ("DisambiguationBench$Tree", "operators", "I", false)
  | 1 => ("DisambiguationBench$Tree", "roots", "[I", true)
  | 2 => ("DisambiguationBench$Tree", "ranks", "[I", true)
  | 3 => ("DisambiguationBench$Tree", "allowedRoots", "[I", true)
  | 4 => ("DisambiguationBench$Tree", "ranksBelowRoot", "[I", true)
  | _ => ("DisambiguationBench$Tree", "results", "[J", true)
def tyX6 : Nat → FieldType := fun k => match k with
  | 0 => .int
  | 1 => .array .int
  | 2 => .array .int
  | 3 => .array .int
  | 4 => .array .int
  | _ => .array .long
theorem nmX6 : ∀ a, a < 6 → ∀ b, b < 6 → a ≠ b → (TX6 a).2.1 ≠ (TX6 b).2.1 := by decide +kernel
theorem tyX6_ok : ∀ k, k < 6 → parseFieldDescriptor (TX6 k).2.2.1 = some (tyX6 k) := by decide +kernel
abbrev cX6_init : ByteArray := prog_8_method_1_code
def yX6_init : MethodName := ⟨RX6, "<init>", "()V"⟩
abbrev cX6_select : ByteArray := prog_8_method_2_code
def yX6_select : MethodName := ⟨RX6, "select", "(LDisambiguationBench$Forest;I)V"⟩
abbrev cX6_hasSubtree : ByteArray := prog_8_method_3_code
def yX6_hasSubtree : MethodName := ⟨RX6, "hasSubtree", "(II)Z"⟩
abbrev cX6_putSubtree : ByteArray := prog_8_method_4_code
def yX6_putSubtree : MethodName := ⟨RX6, "putSubtree", "(IIII)V"⟩
abbrev cX6_splitSubtree : ByteArray := prog_8_method_5_code
def yX6_splitSubtree : MethodName := ⟨RX6, "splitSubtree", "(LDisambiguationBench$Forest;II)V"⟩
abbrev cX6_operatorInPreorder : ByteArray := prog_8_method_6_code
def yX6_operatorInPreorder : MethodName := ⟨RX6, "operatorInPreorder", "(I)I"⟩
abbrev cX6_survives : ByteArray := prog_8_method_7_code
def yX6_survives : MethodName := ⟨RX6, "survives", "(LDisambiguationBench$Forest;)Z"⟩
abbrev cX6_rootSurvives : ByteArray := prog_8_method_8_code
def yX6_rootSurvives : MethodName := ⟨RX6, "rootSurvives", "(LDisambiguationBench$Forest;II)Z"⟩
abbrev cX6_childSurvives : ByteArray := prog_8_method_9_code
def yX6_childSurvives : MethodName := ⟨RX6, "childSurvives", "(III)Z"⟩
abbrev cX6_rankIn : ByteArray := prog_8_method_10_code
def yX6_rankIn : MethodName := ⟨RX6, "rankIn", "(LDisambiguationBench$Forest;)I"⟩
abbrev cX6_rankBelowRoot : ByteArray := prog_8_method_11_code
def yX6_rankBelowRoot : MethodName := ⟨RX6, "rankBelowRoot", "(LDisambiguationBench$Forest;II)V"⟩
abbrev cX6_rankOf : ByteArray := prog_8_method_12_code
def yX6_rankOf : MethodName := ⟨RX6, "rankOf", "(LDisambiguationBench$Forest;III)I"⟩
abbrev cX6_evaluate : ByteArray := prog_8_method_13_code
def yX6_evaluate : MethodName := ⟨RX6, "evaluate", "(LDisambiguationBench$Setup;[I)J"⟩
abbrev cX6_evaluateSubtree : ByteArray := prog_8_method_14_code
def yX6_evaluateSubtree : MethodName := ⟨RX6, "evaluateSubtree", "(LDisambiguationBench$Setup;II)V"⟩
abbrev cX6_isFailure : ByteArray := prog_8_method_15_code
def yX6_isFailure : MethodName := ⟨RX6, "isFailure", "(J)Z"⟩
abbrev cX6_combine : ByteArray := prog_8_method_16_code
def yX6_combine : MethodName := ⟨RX6, "combine", "(IJJ)J"⟩
abbrev cX6_intOrOverflow : ByteArray := prog_8_method_17_code
def yX6_intOrOverflow : MethodName := ⟨RX6, "intOrOverflow", "(J)J"⟩
def RX7 : String := "DisambiguationBench"
def TX7 : u_T := fun k => match k with
  | 0 => ("DisambiguationBench", "text", "LDisambiguationBench$SetupText;", true)
  | 1 => ("DisambiguationBench", "setup", "LDisambiguationBench$Setup;", true)
  | 2 => ("DisambiguationBench", "candidate", "LDisambiguationBench$Setup;", true)
  | 3 => ("DisambiguationBench", "state", "LDisambiguationBench$EditState;", true)
  | 4 => ("DisambiguationBench", "history", "LDisambiguationBench$History;", true)
  | 5 => ("DisambiguationBench", "forest", "LDisambiguationBench$Forest;", true)
  | 6 => ("DisambiguationBench", "tree", "LDisambiguationBench$Tree;", true)
  | _ => ("DisambiguationBench", "results", "[J", true)
def tyX7 : Nat → FieldType := fun k => match k with
  | 0 => .object "DisambiguationBench$SetupText"
  | 1 => .object "DisambiguationBench$Setup"
  | 2 => .object "DisambiguationBench$Setup"
  | 3 => .object "DisambiguationBench$EditState"
  | 4 => .object "DisambiguationBench$History"
  | 5 => .object "DisambiguationBench$Forest"
  | 6 => .object "DisambiguationBench$Tree"
  | _ => .array .long
theorem nmX7 : ∀ a, a < 8 → ∀ b, b < 8 → a ≠ b → (TX7 a).2.1 ≠ (TX7 b).2.1 := by decide +kernel
theorem tyX7_ok : ∀ k, k < 8 → parseFieldDescriptor (TX7 k).2.2.1 = some (tyX7 k) := by decide +kernel
abbrev cX7_init : ByteArray := prog_1_method_1_code
def yX7_init : MethodName := ⟨RX7, "<init>", "()V"⟩
abbrev cX7_append : ByteArray := prog_1_method_2_code
def yX7_append : MethodName := ⟨RX7, "append", "(I)I"⟩
abbrev cX7_clearText : ByteArray := prog_1_method_3_code
def yX7_clearText : MethodName := ⟨RX7, "clearText", "()I"⟩
abbrev cX7_syntaxError : ByteArray := prog_1_method_4_code
def yX7_syntaxError : MethodName := ⟨RX7, "syntaxError", "()I"⟩
abbrev cX7_load : ByteArray := prog_1_method_5_code
def yX7_load : MethodName := ⟨RX7, "load", "()I"⟩
abbrev cX7_takeSetup : ByteArray := prog_1_method_6_code
def yX7_takeSetup : MethodName := ⟨RX7, "takeSetup", "()Z"⟩
abbrev cX7_addPriorityFilter : ByteArray := prog_1_method_7_code
def yX7_addPriorityFilter : MethodName := ⟨RX7, "addPriorityFilter", "(I)I"⟩
abbrev cX7_addAssociativityFilter : ByteArray := prog_1_method_8_code
def yX7_addAssociativityFilter : MethodName := ⟨RX7, "addAssociativityFilter", "(I)I"⟩
abbrev cX7_addRejectFilter : ByteArray := prog_1_method_9_code
def yX7_addRejectFilter : MethodName := ⟨RX7, "addRejectFilter", "(IIIZ)I"⟩
abbrev cX7_addPreferFilter : ByteArray := prog_1_method_10_code
def yX7_addPreferFilter : MethodName := ⟨RX7, "addPreferFilter", "(II)I"⟩
abbrev cX7_addAvoidFilter : ByteArray := prog_1_method_11_code
def yX7_addAvoidFilter : MethodName := ⟨RX7, "addAvoidFilter", "(II)I"⟩
abbrev cX7_insertFilter : ByteArray := prog_1_method_12_code
def yX7_insertFilter : MethodName := ⟨RX7, "insertFilter", "(II)I"⟩
abbrev cX7_removeFilter : ByteArray := prog_1_method_13_code
def yX7_removeFilter : MethodName := ⟨RX7, "removeFilter", "(I)I"⟩
abbrev cX7_swapFilters : ByteArray := prog_1_method_14_code
def yX7_swapFilters : MethodName := ⟨RX7, "swapFilters", "(I)I"⟩
abbrev cX7_filterKind : ByteArray := prog_1_method_15_code
def yX7_filterKind : MethodName := ⟨RX7, "filterKind", "(I)I"⟩
abbrev cX7_setVariable : ByteArray := prog_1_method_16_code
def yX7_setVariable : MethodName := ⟨RX7, "setVariable", "(II)I"⟩
abbrev cX7_undo : ByteArray := prog_1_method_17_code
def yX7_undo : MethodName := ⟨RX7, "undo", "()I"⟩
abbrev cX7_symbolOf : ByteArray := prog_1_method_18_code
def yX7_symbolOf : MethodName := ⟨RX7, "symbolOf", "(I)I"⟩
abbrev cX7_priorityOf : ByteArray := prog_1_method_19_code
def yX7_priorityOf : MethodName := ⟨RX7, "priorityOf", "(I)I"⟩
abbrev cX7_treeCount : ByteArray := prog_1_method_20_code
def yX7_treeCount : MethodName := ⟨RX7, "treeCount", "(I)I"⟩
abbrev cX7_derivations : ByteArray := prog_1_method_21_code
def yX7_derivations : MethodName := ⟨RX7, "derivations", "(IIII)I"⟩
abbrev cX7_orderMatters : ByteArray := prog_1_method_22_code
def yX7_orderMatters : MethodName := ⟨RX7, "orderMatters", "(I)I"⟩
abbrev cX7_operatorAt : ByteArray := prog_1_method_23_code
def yX7_operatorAt : MethodName := ⟨RX7, "operatorAt", "(III)I"⟩
abbrev cX7_discardedBy : ByteArray := prog_1_method_24_code
def yX7_discardedBy : MethodName := ⟨RX7, "discardedBy", "(I)I"⟩
abbrev cX7_survivorRank : ByteArray := prog_1_method_25_code
def yX7_survivorRank : MethodName := ⟨RX7, "survivorRank", "(II)I"⟩
abbrev cX7_value : ByteArray := prog_1_method_26_code
def yX7_value : MethodName := ⟨RX7, "value", "(II)J"⟩
abbrev cX7_distinctValues : ByteArray := prog_1_method_27_code
def yX7_distinctValues : MethodName := ⟨RX7, "distinctValues", "(I)I"⟩
abbrev cX7_noteResult : ByteArray := prog_1_method_28_code
def yX7_noteResult : MethodName := ⟨RX7, "noteResult", "(IJ)I"⟩
abbrev cX7_operatorCount : ByteArray := prog_1_method_29_code
def yX7_operatorCount : MethodName := ⟨RX7, "operatorCount", "()I"⟩
abbrev cX7_filterCount : ByteArray := prog_1_method_30_code
def yX7_filterCount : MethodName := ⟨RX7, "filterCount", "()I"⟩
abbrev cX7_historySize : ByteArray := prog_1_method_31_code
def yX7_historySize : MethodName := ⟨RX7, "historySize", "()I"⟩
abbrev cX7_isSymbol : ByteArray := prog_1_method_32_code
def yX7_isSymbol : MethodName := ⟨RX7, "isSymbol", "(I)Z"⟩
abbrev cX7_isFilterCount : ByteArray := prog_1_method_33_code
def yX7_isFilterCount : MethodName := ⟨RX7, "isFilterCount", "(I)Z"⟩
abbrev cX7_isPosition : ByteArray := prog_1_method_34_code
def yX7_isPosition : MethodName := ⟨RX7, "isPosition", "(I)Z"⟩
abbrev cX7_isLastPosition : ByteArray := prog_1_method_35_code
def yX7_isLastPosition : MethodName := ⟨RX7, "isLastPosition", "(I)Z"⟩
abbrev cX7_growForest : ByteArray := prog_1_method_36_code
def yX7_growForest : MethodName := ⟨RX7, "growForest", "(I)I"⟩
abbrev cX7_selectTree : ByteArray := prog_1_method_37_code
def yX7_selectTree : MethodName := ⟨RX7, "selectTree", "(II)Z"⟩
abbrev cX7_spanIndex : ByteArray := prog_1_method_38_code
def yX7_spanIndex : MethodName := ⟨RX7, "spanIndex", "(II)I"⟩
def RX8 : String := "DisambiguationBenchModel"
def TX8 : u_T := fun k => match k with
  | 0 => ("DisambiguationBenchModel", "now", "[I", true)
  | 1 => ("DisambiguationBenchModel", "history", "[I", true)
  | 2 => ("DisambiguationBenchModel", "edits", "I", false)
  | 3 => ("DisambiguationBenchModel", "priority", "[I", true)
  | 4 => ("DisambiguationBenchModel", "assoc", "[I", true)
  | 5 => ("DisambiguationBenchModel", "operators", "I", false)
  | 6 => ("DisambiguationBenchModel", "symbols", "[I", true)
  | 7 => ("DisambiguationBenchModel", "operands", "[I", true)
  | 8 => ("DisambiguationBenchModel", "readPriority", "[I", true)
  | 9 => ("DisambiguationBenchModel", "readAssoc", "[I", true)
  | 10 => ("DisambiguationBenchModel", "readOperators", "I", false)
  | 11 => ("DisambiguationBenchModel", "readSymbols", "[I", true)
  | 12 => ("DisambiguationBenchModel", "readOperands", "[I", true)
  | 13 => ("DisambiguationBenchModel", "text", "[I", true)
  | 14 => ("DisambiguationBenchModel", "typed", "I", false)
  | 15 => ("DisambiguationBenchModel", "at", "I", false)
  | 16 => ("DisambiguationBenchModel", "trees", "[I", true)
  | 17 => ("DisambiguationBenchModel", "discarded", "[I", true)
  | 18 => ("DisambiguationBenchModel", "preorder", "[I", true)
  | 19 => ("DisambiguationBenchModel", "lowOf", "[I", true)
  | 20 => ("DisambiguationBenchModel", "highOf", "[I", true)
  | 21 => ("DisambiguationBenchModel", "parentOf", "[I", true)
  | 22 => ("DisambiguationBenchModel", "sideOf", "[I", true)
  | 23 => ("DisambiguationBenchModel", "stack", "[I", true)
  | 24 => ("DisambiguationBenchModel", "ranks", "[I", true)
  | 25 => ("DisambiguationBenchModel", "values", "[J", true)
  | _ => ("DisambiguationBenchModel", "results", "[J", true)
def tyX8 : Nat → FieldType := fun k => match k with
  | 0 => .array .int
  | 1 => .array .int
  | 2 => .int
  | 3 => .array .int
  | 4 => .array .int
  | 5 => .int
  | 6 => .array .int
  | 7 => .array .int
  | 8 => .array .int
  | 9 => .array .int
  | 10 => .int
  | 11 => .array .int
  | 12 => .array .int
  | 13 => .array .int
  | 14 => .int
  | 15 => .int
  | 16 => .array .int
  | 17 => .array .int
  | 18 => .array .int
  | 19 => .array .int
  | 20 => .array .int
  | 21 => .array .int
  | 22 => .array .int
  | 23 => .array .int
  | 24 => .array .int
  | 25 => .array .long
  | _ => .array .long
theorem nmX8 : ∀ a, a < 27 → ∀ b, b < 27 → a ≠ b → (TX8 a).2.1 ≠ (TX8 b).2.1 := by decide +kernel
theorem tyX8_ok : ∀ k, k < 27 → parseFieldDescriptor (TX8 k).2.2.1 = some (tyX8 k) := by decide +kernel
abbrev cX8_init : ByteArray := prog_10_method_1_code
def yX8_init : MethodName := ⟨RX8, "<init>", "()V"⟩
abbrev cX8_in : ByteArray := prog_10_method_2_code
def yX8_in : MethodName := ⟨RX8, "in", "(III)Z"⟩
abbrev cX8_append : ByteArray := prog_10_method_3_code
def yX8_append : MethodName := ⟨RX8, "append", "(I)I"⟩
abbrev cX8_clearText : ByteArray := prog_10_method_4_code
def yX8_clearText : MethodName := ⟨RX8, "clearText", "()I"⟩
abbrev cX8_resetReading : ByteArray := prog_10_method_5_code
def yX8_resetReading : MethodName := ⟨RX8, "resetReading", "()V"⟩
abbrev cX8_declare : ByteArray := prog_10_method_6_code
def yX8_declare : MethodName := ⟨RX8, "declare", "(III)V"⟩
abbrev cX8_characterAt : ByteArray := prog_10_method_7_code
def yX8_characterAt : MethodName := ⟨RX8, "characterAt", "(I)I"⟩
abbrev cX8_symbolOfCharacter : ByteArray := prog_10_method_8_code
def yX8_symbolOfCharacter : MethodName := ⟨RX8, "symbolOfCharacter", "(I)I"⟩
abbrev cX8_isTaken : ByteArray := prog_10_method_9_code
def yX8_isTaken : MethodName := ⟨RX8, "isTaken", "(I)Z"⟩
abbrev cX8_readOp : ByteArray := prog_10_method_10_code
def yX8_readOp : MethodName := ⟨RX8, "readOp", "()Z"⟩
abbrev cX8_isOperand : ByteArray := prog_10_method_11_code
def yX8_isOperand : MethodName := ⟨RX8, "isOperand", "()Z"⟩
abbrev cX8_readExpression : ByteArray := prog_10_method_12_code
def yX8_readExpression : MethodName := ⟨RX8, "readExpression", "()Z"⟩
abbrev cX8_read : ByteArray := prog_10_method_13_code
def yX8_read : MethodName := ⟨RX8, "read", "()I"⟩
abbrev cX8_syntaxError : ByteArray := prog_10_method_14_code
def yX8_syntaxError : MethodName := ⟨RX8, "syntaxError", "()I"⟩
abbrev cX8_load : ByteArray := prog_10_method_15_code
def yX8_load : MethodName := ⟨RX8, "load", "()I"⟩
abbrev cX8_install : ByteArray := prog_10_method_16_code
def yX8_install : MethodName := ⟨RX8, "install", "()V"⟩
abbrev cX8_push : ByteArray := prog_10_method_17_code
def yX8_push : MethodName := ⟨RX8, "push", "()V"⟩
abbrev cX8_undo : ByteArray := prog_10_method_18_code
def yX8_undo : MethodName := ⟨RX8, "undo", "()I"⟩
abbrev cX8_isFilter : ByteArray := prog_10_method_19_code
def yX8_isFilter : MethodName := ⟨RX8, "isFilter", "(I)Z"⟩
abbrev cX8_isSymbol : ByteArray := prog_10_method_20_code
def yX8_isSymbol : MethodName := ⟨RX8, "isSymbol", "(I)Z"⟩
abbrev cX8_add : ByteArray := prog_10_method_21_code
def yX8_add : MethodName := ⟨RX8, "add", "(IIIII)I"⟩
abbrev cX8_addPriorityFilter : ByteArray := prog_10_method_22_code
def yX8_addPriorityFilter : MethodName := ⟨RX8, "addPriorityFilter", "(I)I"⟩
abbrev cX8_addAssociativityFilter : ByteArray := prog_10_method_23_code
def yX8_addAssociativityFilter : MethodName := ⟨RX8, "addAssociativityFilter", "(I)I"⟩
abbrev cX8_addRejectFilter : ByteArray := prog_10_method_24_code
def yX8_addRejectFilter : MethodName := ⟨RX8, "addRejectFilter", "(IIIZ)I"⟩
abbrev cX8_addPreferFilter : ByteArray := prog_10_method_25_code
def yX8_addPreferFilter : MethodName := ⟨RX8, "addPreferFilter", "(II)I"⟩
abbrev cX8_addAvoidFilter : ByteArray := prog_10_method_26_code
def yX8_addAvoidFilter : MethodName := ⟨RX8, "addAvoidFilter", "(II)I"⟩
abbrev cX8_removeFilter : ByteArray := prog_10_method_27_code
def yX8_removeFilter : MethodName := ⟨RX8, "removeFilter", "(I)I"⟩
abbrev cX8_swap : ByteArray := prog_10_method_28_code
def yX8_swap : MethodName := ⟨RX8, "swap", "(I)V"⟩
abbrev cX8_swapFilters : ByteArray := prog_10_method_29_code
def yX8_swapFilters : MethodName := ⟨RX8, "swapFilters", "(I)I"⟩
abbrev cX8_filterKind : ByteArray := prog_10_method_30_code
def yX8_filterKind : MethodName := ⟨RX8, "filterKind", "(I)I"⟩
abbrev cX8_setVariable : ByteArray := prog_10_method_31_code
def yX8_setVariable : MethodName := ⟨RX8, "setVariable", "(II)I"⟩
abbrev cX8_symbolOf : ByteArray := prog_10_method_32_code
def yX8_symbolOf : MethodName := ⟨RX8, "symbolOf", "(I)I"⟩
abbrev cX8_priorityOf : ByteArray := prog_10_method_33_code
def yX8_priorityOf : MethodName := ⟨RX8, "priorityOf", "(I)I"⟩
abbrev cX8_isForbiddenBy : ByteArray := prog_10_method_34_code
def yX8_isForbiddenBy : MethodName := ⟨RX8, "isForbiddenBy", "(IIII)Z"⟩
abbrev cX8_isForbidden : ByteArray := prog_10_method_35_code
def yX8_isForbidden : MethodName := ⟨RX8, "isForbidden", "(IIII)Z"⟩
abbrev cX8_below : ByteArray := prog_10_method_36_code
def yX8_below : MethodName := ⟨RX8, "below", "(IIIII)I"⟩
abbrev cX8_has : ByteArray := prog_10_method_37_code
def yX8_has : MethodName := ⟨RX8, "has", "(II)Z"⟩
abbrev cX8_discard : ByteArray := prog_10_method_38_code
def yX8_discard : MethodName := ⟨RX8, "discard", "(III)V"⟩
abbrev cX8_countSpans : ByteArray := prog_10_method_39_code
def yX8_countSpans : MethodName := ⟨RX8, "countSpans", "(II)V"⟩
abbrev cX8_build : ByteArray := prog_10_method_40_code
def yX8_build : MethodName := ⟨RX8, "build", "(I)V"⟩
abbrev cX8_all : ByteArray := prog_10_method_41_code
def yX8_all : MethodName := ⟨RX8, "all", "()I"⟩
abbrev cX8_isPrefix : ByteArray := prog_10_method_42_code
def yX8_isPrefix : MethodName := ⟨RX8, "isPrefix", "(I)Z"⟩
abbrev cX8_treesBy : ByteArray := prog_10_method_43_code
def yX8_treesBy : MethodName := ⟨RX8, "treesBy", "(I)I"⟩
abbrev cX8_treeCount : ByteArray := prog_10_method_44_code
def yX8_treeCount : MethodName := ⟨RX8, "treeCount", "(I)I"⟩
abbrev cX8_derivations : ByteArray := prog_10_method_45_code
def yX8_derivations : MethodName := ⟨RX8, "derivations", "(IIII)I"⟩
abbrev cX8_orderMatters : ByteArray := prog_10_method_46_code
def yX8_orderMatters : MethodName := ⟨RX8, "orderMatters", "(I)I"⟩
abbrev cX8_mayStand : ByteArray := prog_10_method_47_code
def yX8_mayStand : MethodName := ⟨RX8, "mayStand", "(IIII)Z"⟩
abbrev cX8_unrank : ByteArray := prog_10_method_48_code
def yX8_unrank : MethodName := ⟨RX8, "unrank", "(II)V"⟩
abbrev cX8_operatorAt : ByteArray := prog_10_method_49_code
def yX8_operatorAt : MethodName := ⟨RX8, "operatorAt", "(III)I"⟩
abbrev cX8_survives : ByteArray := prog_10_method_50_code
def yX8_survives : MethodName := ⟨RX8, "survives", "(I)Z"⟩
abbrev cX8_isTree : ByteArray := prog_10_method_51_code
def yX8_isTree : MethodName := ⟨RX8, "isTree", "(I)Z"⟩
abbrev cX8_discardedBy : ByteArray := prog_10_method_52_code
def yX8_discardedBy : MethodName := ⟨RX8, "discardedBy", "(I)I"⟩
abbrev cX8_rankOf : ByteArray := prog_10_method_53_code
def yX8_rankOf : MethodName := ⟨RX8, "rankOf", "(I)I"⟩
abbrev cX8_survivorRank : ByteArray := prog_10_method_54_code
def yX8_survivorRank : MethodName := ⟨RX8, "survivorRank", "(II)I"⟩
abbrev cX8_isFailure : ByteArray := prog_10_method_55_code
def yX8_isFailure : MethodName := ⟨RX8, "isFailure", "(J)Z"⟩
abbrev cX8_fit : ByteArray := prog_10_method_56_code
def yX8_fit : MethodName := ⟨RX8, "fit", "(J)J"⟩
abbrev cX8_apply : ByteArray := prog_10_method_57_code
def yX8_apply : MethodName := ⟨RX8, "apply", "(IJJ)J"⟩
abbrev cX8_leaf : ByteArray := prog_10_method_58_code
def yX8_leaf : MethodName := ⟨RX8, "leaf", "(I)J"⟩
abbrev cX8_evaluate : ByteArray := prog_10_method_59_code
def yX8_evaluate : MethodName := ⟨RX8, "evaluate", "()J"⟩
abbrev cX8_value : ByteArray := prog_10_method_60_code
def yX8_value : MethodName := ⟨RX8, "value", "(II)J"⟩
abbrev cX8_distinctValues : ByteArray := prog_10_method_61_code
def yX8_distinctValues : MethodName := ⟨RX8, "distinctValues", "(I)I"⟩
abbrev cX8_operatorCount : ByteArray := prog_10_method_62_code
def yX8_operatorCount : MethodName := ⟨RX8, "operatorCount", "()I"⟩
abbrev cX8_filterCount : ByteArray := prog_10_method_63_code
def yX8_filterCount : MethodName := ⟨RX8, "filterCount", "()I"⟩
abbrev cX8_historySize : ByteArray := prog_10_method_64_code
def yX8_historySize : MethodName := ⟨RX8, "historySize", "()I"⟩
def RJx145de : String := "java/io/Serializable"
def TJx145de : u_T := fun k => match k with
  | _ => ("", "", "", false)
def tyJx145de : Nat → FieldType := fun k => match k with
  | _ => .int
theorem nmJx145de : ∀ a, a < 0 → ∀ b, b < 0 → a ≠ b → (TJx145de a).2.1 ≠ (TJx145de b).2.1 := by decide +kernel
theorem tyJx145de_ok : ∀ k, k < 0 → parseFieldDescriptor (TJx145de k).2.2.1 = some (tyJx145de k) := by decide +kernel
def RJx9f9b0 : String := "java/lang/CharSequence"
def TJx9f9b0 : u_T := fun k => match k with
  | _ => ("", "", "", false)
def tyJx9f9b0 : Nat → FieldType := fun k => match k with
  | _ => .int
theorem nmJx9f9b0 : ∀ a, a < 0 → ∀ b, b < 0 → a ≠ b → (TJx9f9b0 a).2.1 ≠ (TJx9f9b0 b).2.1 := by decide +kernel
theorem tyJx9f9b0_ok : ∀ k, k < 0 → parseFieldDescriptor (TJx9f9b0 k).2.2.1 = some (tyJx9f9b0 k) := by decide +kernel
def RJ11 : String := "java/lang/Character"
def TJ11 : u_T := fun k => match k with
  | _ => ("", "", "", false)
def tyJ11 : Nat → FieldType := fun k => match k with
  | _ => .int
theorem nmJ11 : ∀ a, a < 0 → ∀ b, b < 0 → a ≠ b → (TJ11 a).2.1 ≠ (TJ11 b).2.1 := by decide +kernel
theorem tyJ11_ok : ∀ k, k < 0 → parseFieldDescriptor (TJ11 k).2.2.1 = some (tyJ11 k) := by decide +kernel
abbrev cJ11_isValidCodePoint_9a6ad : ByteArray := prog_11_method_11_code
def yJ11_isValidCodePoint_9a6ad : MethodName := ⟨RJ11, "isValidCodePoint", "(I)Z"⟩
abbrev cJ11_highSurrogate_5068e : ByteArray := prog_11_method_28_code
def yJ11_highSurrogate_5068e : MethodName := ⟨RJ11, "highSurrogate", "(I)C"⟩
abbrev cJ11_lowSurrogate_5068e : ByteArray := prog_11_method_29_code
def yJ11_lowSurrogate_5068e : MethodName := ⟨RJ11, "lowSurrogate", "(I)C"⟩
def RJxb160c : String := "java/lang/Comparable"
def TJxb160c : u_T := fun k => match k with
  | _ => ("", "", "", false)
def tyJxb160c : Nat → FieldType := fun k => match k with
  | _ => .int
theorem nmJxb160c : ∀ a, a < 0 → ∀ b, b < 0 → a ≠ b → (TJxb160c a).2.1 ≠ (TJxb160c b).2.1 := by decide +kernel
theorem tyJxb160c_ok : ∀ k, k < 0 → parseFieldDescriptor (TJxb160c k).2.2.1 = some (tyJxb160c k) := by decide +kernel
def RJ9 : String := "java/lang/Math"
def TJ9 : u_T := fun k => match k with
  | _ => ("", "", "", false)
def tyJ9 : Nat → FieldType := fun k => match k with
  | _ => .int
theorem nmJ9 : ∀ a, a < 0 → ∀ b, b < 0 → a ≠ b → (TJ9 a).2.1 ≠ (TJ9 b).2.1 := by decide +kernel
theorem tyJ9_ok : ∀ k, k < 0 → parseFieldDescriptor (TJ9 k).2.2.1 = some (tyJ9 k) := by decide +kernel
abbrev cJ9_max_7cf53 : ByteArray := prog_12_method_65_code
def yJ9_max_7cf53 : MethodName := ⟨RJ9, "max", "(II)I"⟩
abbrev cJ9_min_7cf53 : ByteArray := prog_12_method_69_code
def yJ9_min_7cf53 : MethodName := ⟨RJ9, "min", "(II)I"⟩
def RJ0 : String := "java/lang/String"
def TJ0 : u_T := fun k => match k with
  | _ => ("", "", "", false)
def tyJ0 : Nat → FieldType := fun k => match k with
  | _ => .int
theorem nmJ0 : ∀ a, a < 0 → ∀ b, b < 0 → a ≠ b → (TJ0 a).2.1 ≠ (TJ0 b).2.1 := by decide +kernel
theorem tyJ0_ok : ∀ k, k < 0 → parseFieldDescriptor (TJ0 k).2.2.1 = some (tyJ0 k) := by decide +kernel
abbrev cJ0_length_8abf5 : ByteArray := prog_13_method_54_code
def yJ0_length_8abf5 : MethodName := ⟨RJ0, "length", "()I"⟩
abbrev cJ0_charAt_5068e : ByteArray := prog_13_method_56_code
def yJ0_charAt_5068e : MethodName := ⟨RJ0, "charAt", "(I)C"⟩
abbrev cJ0_indexOf_0f7a4 : ByteArray := prog_13_method_79_code
def yJ0_indexOf_0f7a4 : MethodName := ⟨RJ0, "indexOf", "(I)I"⟩
abbrev cJ0_indexOf_7cf53 : ByteArray := prog_13_method_80_code
def yJ0_indexOf_7cf53 : MethodName := ⟨RJ0, "indexOf", "(II)I"⟩
abbrev cJ0_coder_7d493 : ByteArray := prog_13_method_152_code
def yJ0_coder_7d493 : MethodName := ⟨RJ0, "coder", "()B"⟩
abbrev cJ0_isLatin1_aae02 : ByteArray := prog_13_method_154_code
def yJ0_isLatin1_aae02 : MethodName := ⟨RJ0, "isLatin1", "()Z"⟩
abbrev cJ0_checkIndex_df160 : ByteArray := prog_13_method_155_code
def yJ0_checkIndex_df160 : MethodName := ⟨RJ0, "checkIndex", "(II)V"⟩
abbrev cJ0_checkBoundsBeginEnd_23922 : ByteArray := prog_13_method_158_code
def yJ0_checkBoundsBeginEnd_23922 : MethodName := ⟨RJ0, "checkBoundsBeginEnd", "(III)V"⟩
def RJ1 : String := "java/lang/StringLatin1"
def TJ1 : u_T := fun k => match k with
  | _ => ("", "", "", false)
def tyJ1 : Nat → FieldType := fun k => match k with
  | _ => .int
theorem nmJ1 : ∀ a, a < 0 → ∀ b, b < 0 → a ≠ b → (TJ1 a).2.1 ≠ (TJ1 b).2.1 := by decide +kernel
theorem tyJ1_ok : ∀ k, k < 0 → parseFieldDescriptor (TJ1 k).2.2.1 = some (tyJ1 k) := by decide +kernel
abbrev cJ1_charAt_3b067 : ByteArray := prog_14_method_2_code
def yJ1_charAt_3b067 : MethodName := ⟨RJ1, "charAt", "([BI)C"⟩
abbrev cJ1_canEncode_9a6ad : ByteArray := prog_14_method_4_code
def yJ1_canEncode_9a6ad : MethodName := ⟨RJ1, "canEncode", "(I)Z"⟩
abbrev cJ1_indexOf_4cfef : ByteArray := prog_14_method_22_code
def yJ1_indexOf_4cfef : MethodName := ⟨RJ1, "indexOf", "([BIII)I"⟩
abbrev cJ1_indexOfChar_4cfef : ByteArray := prog_14_method_23_code
def yJ1_indexOfChar_4cfef : MethodName := ⟨RJ1, "indexOfChar", "([BIII)I"⟩
def RJ2 : String := "java/lang/StringUTF16"
def TJ2 : u_T := fun k => match k with
  | _ => ("", "", "", false)
def tyJ2 : Nat → FieldType := fun k => match k with
  | _ => .int
theorem nmJ2 : ∀ a, a < 0 → ∀ b, b < 0 → a ≠ b → (TJ2 a).2.1 ≠ (TJ2 b).2.1 := by decide +kernel
theorem tyJ2_ok : ∀ k, k < 0 → parseFieldDescriptor (TJ2 k).2.2.1 = some (tyJ2 k) := by decide +kernel
abbrev cJ2_getChar_3b067 : ByteArray := prog_15_method_5_code
def yJ2_getChar_3b067 : MethodName := ⟨RJ2, "getChar", "([BI)C"⟩
abbrev cJ2_length_9d52b : ByteArray := prog_15_method_6_code
def yJ2_length_9d52b : MethodName := ⟨RJ2, "length", "([B)I"⟩
abbrev cJ2_indexOf_4cfef : ByteArray := prog_15_method_40_code
def yJ2_indexOf_4cfef : MethodName := ⟨RJ2, "indexOf", "([BIII)I"⟩
abbrev cJ2_indexOfChar_4cfef : ByteArray := prog_15_method_47_code
def yJ2_indexOfChar_4cfef : MethodName := ⟨RJ2, "indexOfChar", "([BIII)I"⟩
abbrev cJ2_indexOfCharUnsafe_4cfef : ByteArray := prog_15_method_48_code
def yJ2_indexOfCharUnsafe_4cfef : MethodName := ⟨RJ2, "indexOfCharUnsafe", "([BIII)I"⟩
abbrev cJ2_indexOfSupplementary_4cfef : ByteArray := prog_15_method_49_code
def yJ2_indexOfSupplementary_4cfef : MethodName := ⟨RJ2, "indexOfSupplementary", "([BIII)I"⟩
abbrev cJ2_charAt_3b067 : ByteArray := prog_15_method_83_code
def yJ2_charAt_3b067 : MethodName := ⟨RJ2, "charAt", "([BI)C"⟩
abbrev cJ2_checkIndex_2214a : ByteArray := prog_15_method_91_code
def yJ2_checkIndex_2214a : MethodName := ⟨RJ2, "checkIndex", "(I[B)V"⟩
abbrev cJ2_checkBoundsBeginEnd_d044e : ByteArray := prog_15_method_93_code
def yJ2_checkBoundsBeginEnd_d044e : MethodName := ⟨RJ2, "checkBoundsBeginEnd", "(II[B)V"⟩
def RJ10 : String := "java/lang/System"
def TJ10 : u_T := fun k => match k with
  | _ => ("", "", "", false)
def tyJ10 : Nat → FieldType := fun k => match k with
  | _ => .int
theorem nmJ10 : ∀ a, a < 0 → ∀ b, b < 0 → a ≠ b → (TJ10 a).2.1 ≠ (TJ10 b).2.1 := by decide +kernel
theorem tyJ10_ok : ∀ k, k < 0 → parseFieldDescriptor (TJ10 k).2.2.1 = some (tyJ10 k) := by decide +kernel
def RJxfd54e : String := "java/lang/constant/Constable"
def TJxfd54e : u_T := fun k => match k with
  | _ => ("", "", "", false)
def tyJxfd54e : Nat → FieldType := fun k => match k with
  | _ => .int
theorem nmJxfd54e : ∀ a, a < 0 → ∀ b, b < 0 → a ≠ b → (TJxfd54e a).2.1 ≠ (TJxfd54e b).2.1 := by decide +kernel
theorem tyJxfd54e_ok : ∀ k, k < 0 → parseFieldDescriptor (TJxfd54e k).2.2.1 = some (tyJxfd54e k) := by decide +kernel
def RJx3cf43 : String := "java/lang/constant/ConstantDesc"
def TJx3cf43 : u_T := fun k => match k with
  | _ => ("", "", "", false)
def tyJx3cf43 : Nat → FieldType := fun k => match k with
  | _ => .int
theorem nmJx3cf43 : ∀ a, a < 0 → ∀ b, b < 0 → a ≠ b → (TJx3cf43 a).2.1 ≠ (TJx3cf43 b).2.1 := by decide +kernel
theorem tyJx3cf43_ok : ∀ k, k < 0 → parseFieldDescriptor (TJx3cf43 k).2.2.1 = some (tyJx3cf43 k) := by decide +kernel
def RJ7 : String := "java/util/Arrays"
def TJ7 : u_T := fun k => match k with
  | _ => ("", "", "", false)
def tyJ7 : Nat → FieldType := fun k => match k with
  | _ => .int
theorem nmJ7 : ∀ a, a < 0 → ∀ b, b < 0 → a ≠ b → (TJ7 a).2.1 ≠ (TJ7 b).2.1 := by decide +kernel
theorem tyJ7_ok : ∀ k, k < 0 → parseFieldDescriptor (TJ7 k).2.2.1 = some (tyJ7 k) := by decide +kernel
abbrev cJ7_fill_53178 : ByteArray := prog_17_method_103_code
def yJ7_fill_53178 : MethodName := ⟨RJ7, "fill", "([II)V"⟩
def RJ3 : String := "jdk/internal/util/Preconditions"
def TJ3 : u_T := fun k => match k with
  | _ => ("", "", "", false)
def tyJ3 : Nat → FieldType := fun k => match k with
  | _ => .int
theorem nmJ3 : ∀ a, a < 0 → ∀ b, b < 0 → a ≠ b → (TJ3 a).2.1 ≠ (TJ3 b).2.1 := by decide +kernel
theorem tyJ3_ok : ∀ k, k < 0 → parseFieldDescriptor (TJ3 k).2.2.1 = some (tyJ3 k) := by decide +kernel
abbrev cJ3_checkIndex_8e157 : ByteArray := prog_18_method_11_code
def yJ3_checkIndex_8e157 : MethodName := ⟨RJ3, "checkIndex", "(IILjava/util/function/BiFunction;)I"⟩
abbrev cJ3_checkFromToIndex_8c36e : ByteArray := prog_18_method_12_code
def yJ3_checkFromToIndex_8c36e : MethodName := ⟨RJ3, "checkFromToIndex", "(IIILjava/util/function/BiFunction;)I"⟩
def RL : String := "DisambiguationBenchLaw"
abbrev cL_law : ByteArray := code
def yL_law : MethodName := ⟨RL, "law", "([I)Z"⟩
abbrev vwCl : List vw_C := [(RX0, TX0, 3), (RX2, TX2, 5), (RX3, TX3, 2), (RX4, TX4, 5), (RX5, TX5, 2), (RX6, TX6, 6), (RX7, TX7, 8), (RX8, TX8, 27)]
