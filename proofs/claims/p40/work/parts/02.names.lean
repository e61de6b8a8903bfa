/-! ===== BEGIN printed: names, fields, word lists, decode rows ===== -/
def RX0 : String := "TablePages$Cell"
def TX0 : u_T := fun k => match k with
  | 0 => ("TablePages$Cell", "firstRow", "LTablePages$Row;", true)
  | 1 => ("TablePages$Cell", "column", "I", true)
  | 2 => ("TablePages$Cell", "rowSpan", "I", true)
  | 3 => ("TablePages$Cell", "columnSpan", "I", true)
  | 4 => ("TablePages$Cell", "weights", "[I", true)
  | 5 => ("TablePages$Cell", "lengths", "[I", true)
  | 6 => ("TablePages$Cell", "cuts", "[I", true)
  | 7 => ("TablePages$Cell", "wordCount", "I", false)
  | 8 => ("TablePages$Cell", "hasFigure", "Z", false)
  | 9 => ("TablePages$Cell", "hundredths", "I", false)
  | 10 => ("TablePages$Cell", "decimals", "I", false)
  | 11 => ("TablePages$Cell", "noteLines", "I", false)
  | _ => ("TablePages$Cell", "shownColumns", "I", false)
def tyX0 : Nat → FieldType := fun k => match k with
  | 0 => .object "TablePages$Row"
  | 1 => .int
  | 2 => .int
  | 3 => .int
  | 4 => .array .int
  | 5 => .array .int
  | 6 => .array .int
  | 7 => .int
  | 8 => .boolean
  | 9 => .int
  | 10 => .int
  | 11 => .int
  | _ => .int
abbrev wsX00 : List Cond := u_ws RX0 TX0 13
theorem nmX0 : ∀ a, a < 13 → ∀ b, b < 13 → a ≠ b → (TX0 a).2.1 ≠ (TX0 b).2.1 := by decide +kernel
theorem tyX0_ok : ∀ k, k < 13 → parseFieldDescriptor (TX0 k).2.2.1 = some (tyX0 k) := by decide +kernel
abbrev cX0_init : ByteArray := prog_2_method_1_code
def yX0_init : MethodName := ⟨RX0, "<init>", "(LTablePages$Row;III)V"⟩
abbrev cX0_addWord : ByteArray := prog_2_method_2_code
def yX0_addWord : MethodName := ⟨RX0, "addWord", "(II)V"⟩
abbrev cX0_isOut : ByteArray := prog_2_method_3_code
def yX0_isOut : MethodName := ⟨RX0, "isOut", "()Z"⟩
abbrev cX0_showsFigure : ByteArray := prog_2_method_4_code
def yX0_showsFigure : MethodName := ⟨RX0, "showsFigure", "()Z"⟩
abbrev cX0_rightPart : ByteArray := prog_2_method_5_code
def yX0_rightPart : MethodName := ⟨RX0, "rightPart", "()I"⟩
abbrev cX0_leastByWords : ByteArray := prog_2_method_6_code
def yX0_leastByWords : MethodName := ⟨RX0, "leastByWords", "()I"⟩
abbrev cX0_mostByWords : ByteArray := prog_2_method_7_code
def yX0_mostByWords : MethodName := ⟨RX0, "mostByWords", "()I"⟩
abbrev cX0_linesAt : ByteArray := prog_2_method_8_code
def yX0_linesAt : MethodName := ⟨RX0, "linesAt", "(I)I"⟩
abbrev cX0_canBePut : ByteArray := prog_2_method_9_code
def yX0_canBePut : MethodName := ⟨RX0, "canBePut", "(III)Z"⟩
abbrev cX0_begin : ByteArray := prog_2_method_10_code
def yX0_begin : MethodName := ⟨RX0, "begin", "(I)I"⟩
def RX1 : String := "TablePages$Column"
def TX1 : u_T := fun k => match k with
  | 0 => ("TablePages$Column", "kind", "I", true)
  | 1 => ("TablePages$Column", "value", "I", true)
  | 2 => ("TablePages$Column", "weights", "[I", true)
  | _ => ("TablePages$Column", "isTotalled", "Z", false)
def tyX1 : Nat → FieldType := fun k => match k with
  | 0 => .int
  | 1 => .int
  | 2 => .array .int
  | _ => .boolean
abbrev wsX10 : List Cond := u_ws RX1 TX1 4
theorem nmX1 : ∀ a, a < 4 → ∀ b, b < 4 → a ≠ b → (TX1 a).2.1 ≠ (TX1 b).2.1 := by decide +kernel
theorem tyX1_ok : ∀ k, k < 4 → parseFieldDescriptor (TX1 k).2.2.1 = some (tyX1 k) := by decide +kernel
abbrev cX1_init : ByteArray := prog_3_method_1_code
def yX1_init : MethodName := ⟨RX1, "<init>", "(II)V"⟩
def RX2 : String := "TablePages$Flow"
def TX2 : u_T := fun k => match k with
  | 0 => ("TablePages$Flow", "grid", "LTablePages$Grid;", true)
  | 1 => ("TablePages$Flow", "heights", "LTablePages$Heights;", true)
  | 2 => ("TablePages$Flow", "sheets", "LTablePages$Sheets;", true)
  | 3 => ("TablePages$Flow", "itemOf", "[I", true)
  | 4 => ("TablePages$Flow", "lineCountOf", "[I", true)
  | 5 => ("TablePages$Flow", "noteLinesOf", "[I", true)
  | 6 => ("TablePages$Flow", "mayBreakOf", "[Z", true)
  | 7 => ("TablePages$Flow", "noteLinesOfRow", "[I", true)
  | 8 => ("TablePages$Flow", "itemCount", "I", false)
  | 9 => ("TablePages$Flow", "headsAndFeet", "I", false)
  | 10 => ("TablePages$Flow", "carryLines", "I", false)
  | 11 => ("TablePages$Flow", "pageLines", "I", false)
  | 12 => ("TablePages$Flow", "left", "I", false)
  | _ => ("TablePages$Flow", "isPageEmpty", "Z", false)
def tyX2 : Nat → FieldType := fun k => match k with
  | 0 => .object "TablePages$Grid"
  | 1 => .object "TablePages$Heights"
  | 2 => .object "TablePages$Sheets"
  | 3 => .array .int
  | 4 => .array .int
  | 5 => .array .int
  | 6 => .array .boolean
  | 7 => .array .int
  | 8 => .int
  | 9 => .int
  | 10 => .int
  | 11 => .int
  | 12 => .int
  | _ => .boolean
abbrev wsX20 : List Cond := u_ws RX2 TX2 14
theorem nmX2 : ∀ a, a < 14 → ∀ b, b < 14 → a ≠ b → (TX2 a).2.1 ≠ (TX2 b).2.1 := by decide +kernel
theorem tyX2_ok : ∀ k, k < 14 → parseFieldDescriptor (TX2 k).2.2.1 = some (tyX2 k) := by decide +kernel
abbrev cX2_init : ByteArray := prog_4_method_1_code
def yX2_init : MethodName := ⟨RX2, "<init>", "(LTablePages$Grid;LTablePages$Heights;LTablePages$Sheets;)V"⟩
abbrev cX2_fillSheets : ByteArray := prog_4_method_2_code
def yX2_fillSheets : MethodName := ⟨RX2, "fillSheets", "(IZ)V"⟩
abbrev cX2_collectItems : ByteArray := prog_4_method_3_code
def yX2_collectItems : MethodName := ⟨RX2, "collectItems", "(Z)V"⟩
abbrev cX2_countNoteLines : ByteArray := prog_4_method_4_code
def yX2_countNoteLines : MethodName := ⟨RX2, "countNoteLines", "()I"⟩
abbrev cX2_addItem : ByteArray := prog_4_method_5_code
def yX2_addItem : MethodName := ⟨RX2, "addItem", "(IIIZ)V"⟩
abbrev cX2_openPage : ByteArray := prog_4_method_6_code
def yX2_openPage : MethodName := ⟨RX2, "openPage", "()V"⟩
abbrev cX2_putItem : ByteArray := prog_4_method_7_code
def yX2_putItem : MethodName := ⟨RX2, "putItem", "(I)Z"⟩
abbrev cX2_putPiece : ByteArray := prog_4_method_8_code
def yX2_putPiece : MethodName := ⟨RX2, "putPiece", "(IIII)V"⟩
def RX3 : String := "TablePages$Grid"
def TX3 : u_T := fun k => match k with
  | 0 => ("TablePages$Grid", "columns", "Ljava/util/ArrayList;", true)
  | 1 => ("TablePages$Grid", "rows", "Ljava/util/ArrayList;", true)
  | 2 => ("TablePages$Grid", "cells", "Ljava/util/ArrayList;", true)
  | 3 => ("TablePages$Grid", "heads", "Ljava/util/ArrayList;", true)
  | 4 => ("TablePages$Grid", "body", "Ljava/util/ArrayList;", true)
  | 5 => ("TablePages$Grid", "feet", "Ljava/util/ArrayList;", true)
  | 6 => ("TablePages$Grid", "isShownOf", "[Z", true)
  | _ => ("TablePages$Grid", "tableWeight", "I", false)
def tyX3 : Nat → FieldType := fun k => match k with
  | 0 => .object "java/util/ArrayList"
  | 1 => .object "java/util/ArrayList"
  | 2 => .object "java/util/ArrayList"
  | 3 => .object "java/util/ArrayList"
  | 4 => .object "java/util/ArrayList"
  | 5 => .object "java/util/ArrayList"
  | 6 => .array .boolean
  | _ => .int
abbrev wsX30 : List Cond := u_ws RX3 TX3 8
theorem nmX3 : ∀ a, a < 8 → ∀ b, b < 8 → a ≠ b → (TX3 a).2.1 ≠ (TX3 b).2.1 := by decide +kernel
theorem tyX3_ok : ∀ k, k < 8 → parseFieldDescriptor (TX3 k).2.2.1 = some (tyX3 k) := by decide +kernel
abbrev cX3_init : ByteArray := prog_5_method_1_code
def yX3_init : MethodName := ⟨RX3, "<init>", "()V"⟩
abbrev cX3_hasColumn : ByteArray := prog_5_method_2_code
def yX3_hasColumn : MethodName := ⟨RX3, "hasColumn", "(I)Z"⟩
abbrev cX3_hasRow : ByteArray := prog_5_method_3_code
def yX3_hasRow : MethodName := ⟨RX3, "hasRow", "(I)Z"⟩
abbrev cX3_hasCell : ByteArray := prog_5_method_4_code
def yX3_hasCell : MethodName := ⟨RX3, "hasCell", "(I)Z"⟩
abbrev cX3_isBodyRow : ByteArray := prog_5_method_5_code
def yX3_isBodyRow : MethodName := ⟨RX3, "isBodyRow", "(I)Z"⟩
abbrev cX3_rowsOf : ByteArray := prog_5_method_6_code
def yX3_rowsOf : MethodName := ⟨RX3, "rowsOf", "(I)Ljava/util/ArrayList;"⟩
abbrev cX3_isFull : ByteArray := prog_5_method_7_code
def yX3_isFull : MethodName := ⟨RX3, "isFull", "(I)Z"⟩
abbrev cX3_addColumn : ByteArray := prog_5_method_8_code
def yX3_addColumn : MethodName := ⟨RX3, "addColumn", "(II)I"⟩
abbrev cX3_addRow : ByteArray := prog_5_method_9_code
def yX3_addRow : MethodName := ⟨RX3, "addRow", "(IIZ)I"⟩
abbrev cX3_hasFreePlaces : ByteArray := prog_5_method_10_code
def yX3_hasFreePlaces : MethodName := ⟨RX3, "hasFreePlaces", "(LTablePages$Row;III)Z"⟩
abbrev cX3_addCell : ByteArray := prog_5_method_11_code
def yX3_addCell : MethodName := ⟨RX3, "addCell", "(LTablePages$Cell;)I"⟩
abbrev cX3_cellNumberAt : ByteArray := prog_5_method_12_code
def yX3_cellNumberAt : MethodName := ⟨RX3, "cellNumberAt", "(II)I"⟩
abbrev cX3_isShown : ByteArray := prog_5_method_13_code
def yX3_isShown : MethodName := ⟨RX3, "isShown", "(I)Z"⟩
abbrev cX3_isShownContent : ByteArray := prog_5_method_14_code
def yX3_isShownContent : MethodName := ⟨RX3, "isShownContent", "(I)Z"⟩
abbrev cX3_countShownColumns : ByteArray := prog_5_method_15_code
def yX3_countShownColumns : MethodName := ⟨RX3, "countShownColumns", "()I"⟩
abbrev cX3_countShown : ByteArray := prog_5_method_17_code
def yX3_countShown : MethodName := ⟨RX3, "countShown", "(LTablePages$Cell;)I"⟩
abbrev cX3_hideOrShow : ByteArray := prog_5_method_18_code
def yX3_hideOrShow : MethodName := ⟨RX3, "hideOrShow", "(I)Z"⟩
abbrev cX3_isTotalled : ByteArray := prog_5_method_19_code
def yX3_isTotalled : MethodName := ⟨RX3, "isTotalled", "(I)Z"⟩
abbrev cX3_totalledColumns : ByteArray := prog_5_method_20_code
def yX3_totalledColumns : MethodName := ⟨RX3, "totalledColumns", "()I"⟩
abbrev cX3_between : ByteArray := prog_5_method_21_code
def yX3_between : MethodName := ⟨RX3, "between", "()I"⟩
abbrev cX3_widthTogether : ByteArray := prog_5_method_22_code
def yX3_widthTogether : MethodName := ⟨RX3, "widthTogether", "([I)I"⟩
abbrev cX3_widthOfCell : ByteArray := prog_5_method_23_code
def yX3_widthOfCell : MethodName := ⟨RX3, "widthOfCell", "(LTablePages$Cell;[I)I"⟩
abbrev cX3_hasFigureAt : ByteArray := prog_5_method_24_code
def yX3_hasFigureAt : MethodName := ⟨RX3, "hasFigureAt", "(LTablePages$Row;I)Z"⟩
abbrev cX3_figureAt : ByteArray := prog_5_method_25_code
def yX3_figureAt : MethodName := ⟨RX3, "figureAt", "(LTablePages$Row;I)I"⟩
abbrev cX3_sumOfBody : ByteArray := prog_5_method_26_code
def yX3_sumOfBody : MethodName := ⟨RX3, "sumOfBody", "(III)I"⟩
abbrev cX3_endsRun : ByteArray := prog_5_method_27_code
def yX3_endsRun : MethodName := ⟨RX3, "endsRun", "(LTablePages$Row;)Z"⟩
abbrev cX3_hasBodyCellOfSeveralRows : ByteArray := prog_5_method_29_code
def yX3_hasBodyCellOfSeveralRows : MethodName := ⟨RX3, "hasBodyCellOfSeveralRows", "()Z"⟩
abbrev cX3_putBodyInOrder : ByteArray := prog_5_method_30_code
def yX3_putBodyInOrder : MethodName := ⟨RX3, "putBodyInOrder", "(IZ)V"⟩
abbrev cX3_goesAhead : ByteArray := prog_5_method_31_code
def yX3_goesAhead : MethodName := ⟨RX3, "goesAhead", "(LTablePages$Row;LTablePages$Row;IZ)Z"⟩
abbrev cX3_numberBodyAnew : ByteArray := prog_5_method_32_code
def yX3_numberBodyAnew : MethodName := ⟨RX3, "numberBodyAnew", "()I"⟩
abbrev cX3_hasBordered : ByteArray := prog_5_method_33_code
def yX3_hasBordered : MethodName := ⟨RX3, "hasBordered", "(II)Z"⟩
abbrev cX3_setWeight : ByteArray := prog_5_method_34_code
def yX3_setWeight : MethodName := ⟨RX3, "setWeight", "(IIII)I"⟩
abbrev cX3_putWeight : ByteArray := prog_5_method_35_code
def yX3_putWeight : MethodName := ⟨RX3, "putWeight", "(IIII)V"⟩
abbrev cX3_weightOf : ByteArray := prog_5_method_36_code
def yX3_weightOf : MethodName := ⟨RX3, "weightOf", "(III)I"⟩
abbrev cX3_greaterWeight : ByteArray := prog_5_method_37_code
def yX3_greaterWeight : MethodName := ⟨RX3, "greaterWeight", "(IIII)I"⟩
abbrev cX3_rowBeside : ByteArray := prog_5_method_38_code
def yX3_rowBeside : MethodName := ⟨RX3, "rowBeside", "(II)I"⟩
abbrev cX3_rowStandingAt : ByteArray := prog_5_method_39_code
def yX3_rowStandingAt : MethodName := ⟨RX3, "rowStandingAt", "(I)I"⟩
abbrev cX3_columnBeside : ByteArray := prog_5_method_40_code
def yX3_columnBeside : MethodName := ⟨RX3, "columnBeside", "(II)I"⟩
def RX4 : String := "TablePages$Heights"
def TX4 : u_T := fun k => match k with
  | 0 => ("TablePages$Heights", "grid", "LTablePages$Grid;", true)
  | 1 => ("TablePages$Heights", "linesOf", "[I", true)
  | _ => ("TablePages$Heights", "heightOf", "[I", true)
def tyX4 : Nat → FieldType := fun k => match k with
  | 0 => .object "TablePages$Grid"
  | 1 => .array .int
  | _ => .array .int
abbrev wsX40 : List Cond := u_ws RX4 TX4 3
theorem nmX4 : ∀ a, a < 3 → ∀ b, b < 3 → a ≠ b → (TX4 a).2.1 ≠ (TX4 b).2.1 := by decide +kernel
theorem tyX4_ok : ∀ k, k < 3 → parseFieldDescriptor (TX4 k).2.2.1 = some (tyX4 k) := by decide +kernel
abbrev cX4_init : ByteArray := prog_6_method_1_code
def yX4_init : MethodName := ⟨RX4, "<init>", "(LTablePages$Grid;)V"⟩
abbrev cX4_measureCells : ByteArray := prog_6_method_2_code
def yX4_measureCells : MethodName := ⟨RX4, "measureCells", "([I)V"⟩
abbrev cX4_stackRows : ByteArray := prog_6_method_3_code
def yX4_stackRows : MethodName := ⟨RX4, "stackRows", "()V"⟩
abbrev cX4_lengthenLastRow : ByteArray := prog_6_method_4_code
def yX4_lengthenLastRow : MethodName := ⟨RX4, "lengthenLastRow", "(LTablePages$Cell;I)V"⟩
abbrev cX4_heightOfPart : ByteArray := prog_6_method_5_code
def yX4_heightOfPart : MethodName := ⟨RX4, "heightOfPart", "(I)I"⟩
def RX5 : String := "TablePages$Row"
def TX5 : u_T := fun k => match k with
  | 0 => ("TablePages$Row", "number", "I", true)
  | 1 => ("TablePages$Row", "part", "I", true)
  | 2 => ("TablePages$Row", "group", "I", true)
  | 3 => ("TablePages$Row", "mayBreak", "Z", true)
  | 4 => ("TablePages$Row", "weights", "[I", true)
  | 5 => ("TablePages$Row", "places", "[I", true)
  | _ => ("TablePages$Row", "position", "I", false)
def tyX5 : Nat → FieldType := fun k => match k with
  | 0 => .int
  | 1 => .int
  | 2 => .int
  | 3 => .boolean
  | 4 => .array .int
  | 5 => .array .int
  | _ => .int
abbrev wsX50 : List Cond := u_ws RX5 TX5 7
theorem nmX5 : ∀ a, a < 7 → ∀ b, b < 7 → a ≠ b → (TX5 a).2.1 ≠ (TX5 b).2.1 := by decide +kernel
theorem tyX5_ok : ∀ k, k < 7 → parseFieldDescriptor (TX5 k).2.2.1 = some (tyX5 k) := by decide +kernel
abbrev cX5_init : ByteArray := prog_7_method_1_code
def yX5_init : MethodName := ⟨RX5, "<init>", "(IIIZ)V"⟩
def RX6 : String := "TablePages$Sheets"
def TX6 : u_T := fun k => match k with
  | 0 => ("TablePages$Sheets", "isSet", "Z", false)
  | 1 => ("TablePages$Sheets", "pageCount", "I", false)
  | 2 => ("TablePages$Sheets", "pieceCount", "I", false)
  | 3 => ("TablePages$Sheets", "totalledColumns", "I", false)
  | 4 => ("TablePages$Sheets", "itemOf", "[I", true)
  | 5 => ("TablePages$Sheets", "firstLineOf", "[I", true)
  | 6 => ("TablePages$Sheets", "lineCountOf", "[I", true)
  | 7 => ("TablePages$Sheets", "firstPieceOf", "[I", true)
  | 8 => ("TablePages$Sheets", "usedOf", "[I", true)
  | 9 => ("TablePages$Sheets", "noteLinesOf", "[I", true)
  | 10 => ("TablePages$Sheets", "carriedOf", "[I", true)
  | _ => ("TablePages$Sheets", "firstPageOf", "[I", true)
def tyX6 : Nat → FieldType := fun k => match k with
  | 0 => .boolean
  | 1 => .int
  | 2 => .int
  | 3 => .int
  | 4 => .array .int
  | 5 => .array .int
  | 6 => .array .int
  | 7 => .array .int
  | 8 => .array .int
  | 9 => .array .int
  | 10 => .array .int
  | _ => .array .int
abbrev wsX60 : List Cond := u_ws RX6 TX6 12
theorem nmX6 : ∀ a, a < 12 → ∀ b, b < 12 → a ≠ b → (TX6 a).2.1 ≠ (TX6 b).2.1 := by decide +kernel
theorem tyX6_ok : ∀ k, k < 12 → parseFieldDescriptor (TX6 k).2.2.1 = some (tyX6 k) := by decide +kernel
abbrev cX6_init : ByteArray := prog_8_method_1_code
def yX6_init : MethodName := ⟨RX6, "<init>", "()V"⟩
abbrev cX6_clear : ByteArray := prog_8_method_2_code
def yX6_clear : MethodName := ⟨RX6, "clear", "(I)V"⟩
abbrev cX6_giveUp : ByteArray := prog_8_method_3_code
def yX6_giveUp : MethodName := ⟨RX6, "giveUp", "()V"⟩
abbrev cX6_hasPage : ByteArray := prog_8_method_4_code
def yX6_hasPage : MethodName := ⟨RX6, "hasPage", "(I)Z"⟩
abbrev cX6_openPage : ByteArray := prog_8_method_5_code
def yX6_openPage : MethodName := ⟨RX6, "openPage", "()V"⟩
abbrev cX6_put : ByteArray := prog_8_method_6_code
def yX6_put : MethodName := ⟨RX6, "put", "(IIII)V"⟩
abbrev cX6_pieceBeginOf : ByteArray := prog_8_method_7_code
def yX6_pieceBeginOf : MethodName := ⟨RX6, "pieceBeginOf", "(I)I"⟩
abbrev cX6_pieceEndOf : ByteArray := prog_8_method_8_code
def yX6_pieceEndOf : MethodName := ⟨RX6, "pieceEndOf", "(I)I"⟩
abbrev cX6_linesOfItem : ByteArray := prog_8_method_9_code
def yX6_linesOfItem : MethodName := ⟨RX6, "linesOfItem", "(III)I"⟩
abbrev cX6_carriedOut : ByteArray := prog_8_method_10_code
def yX6_carriedOut : MethodName := ⟨RX6, "carriedOut", "(II)I"⟩
abbrev cX6_addFrame : ByteArray := prog_8_method_11_code
def yX6_addFrame : MethodName := ⟨RX6, "addFrame", "(II)V"⟩
abbrev cX6_sumUp : ByteArray := prog_8_method_12_code
def yX6_sumUp : MethodName := ⟨RX6, "sumUp", "(LTablePages$Grid;)V"⟩
abbrev cX6_addFigures : ByteArray := prog_8_method_13_code
def yX6_addFigures : MethodName := ⟨RX6, "addFigures", "(LTablePages$Row;ILTablePages$Grid;)V"⟩
abbrev cX6_countDifferencesTo : ByteArray := prog_8_method_14_code
def yX6_countDifferencesTo : MethodName := ⟨RX6, "countDifferencesTo", "(LTablePages$Sheets;)I"⟩
abbrev cX6_hasSamePage : ByteArray := prog_8_method_15_code
def yX6_hasSamePage : MethodName := ⟨RX6, "hasSamePage", "(ILTablePages$Sheets;)Z"⟩
abbrev cX6_hasSamePieces : ByteArray := prog_8_method_16_code
def yX6_hasSamePieces : MethodName := ⟨RX6, "hasSamePieces", "(ILTablePages$Sheets;)Z"⟩
abbrev cX6_takeFrom : ByteArray := prog_8_method_17_code
def yX6_takeFrom : MethodName := ⟨RX6, "takeFrom", "(LTablePages$Sheets;)V"⟩
def RX7 : String := "TablePages$Trial"
def TX7 : u_T := fun k => match k with
  | 0 => ("TablePages$Trial", "grid", "LTablePages$Grid;", true)
  | 1 => ("TablePages$Trial", "widths", "LTablePages$Widths;", true)
  | 2 => ("TablePages$Trial", "heights", "LTablePages$Heights;", true)
  | 3 => ("TablePages$Trial", "choicesOf", "[I", true)
  | 4 => ("TablePages$Trial", "extraOf", "[I", true)
  | _ => ("TablePages$Trial", "knownLines", "[I", true)
def tyX7 : Nat → FieldType := fun k => match k with
  | 0 => .object "TablePages$Grid"
  | 1 => .object "TablePages$Widths"
  | 2 => .object "TablePages$Heights"
  | 3 => .array .int
  | 4 => .array .int
  | _ => .array .int
abbrev wsX70 : List Cond := u_ws RX7 TX7 6
theorem nmX7 : ∀ a, a < 6 → ∀ b, b < 6 → a ≠ b → (TX7 a).2.1 ≠ (TX7 b).2.1 := by decide +kernel
theorem tyX7_ok : ∀ k, k < 6 → parseFieldDescriptor (TX7 k).2.2.1 = some (tyX7 k) := by decide +kernel
abbrev cX7_init : ByteArray := prog_9_method_1_code
def yX7_init : MethodName := ⟨RX7, "<init>", "(LTablePages$Grid;)V"⟩
abbrev cX7_heightFromNothing : ByteArray := prog_9_method_2_code
def yX7_heightFromNothing : MethodName := ⟨RX7, "heightFromNothing", "(II)I"⟩
def RX8 : String := "TablePages$Widths"
def TX8 : u_T := fun k => match k with
  | 0 => ("TablePages$Widths", "grid", "LTablePages$Grid;", true)
  | 1 => ("TablePages$Widths", "leastOf", "[I", true)
  | 2 => ("TablePages$Widths", "mostOf", "[I", true)
  | 3 => ("TablePages$Widths", "solvedOf", "[I", true)
  | 4 => ("TablePages$Widths", "leftOf", "[I", true)
  | 5 => ("TablePages$Widths", "rightOf", "[I", true)
  | 6 => ("TablePages$Widths", "sumAboveOf", "[I", true)
  | _ => ("TablePages$Widths", "sumBelowOf", "[I", true)
def tyX8 : Nat → FieldType := fun k => match k with
  | 0 => .object "TablePages$Grid"
  | 1 => .array .int
  | 2 => .array .int
  | 3 => .array .int
  | 4 => .array .int
  | 5 => .array .int
  | 6 => .array .int
  | _ => .array .int
abbrev wsX80 : List Cond := u_ws RX8 TX8 8
theorem nmX8 : ∀ a, a < 8 → ∀ b, b < 8 → a ≠ b → (TX8 a).2.1 ≠ (TX8 b).2.1 := by decide +kernel
theorem tyX8_ok : ∀ k, k < 8 → parseFieldDescriptor (TX8 k).2.2.1 = some (tyX8 k) := by decide +kernel
abbrev cX8_init : ByteArray := prog_10_method_1_code
def yX8_init : MethodName := ⟨RX8, "<init>", "(LTablePages$Grid;)V"⟩
abbrev cX8_pointOf : ByteArray := prog_10_method_2_code
def yX8_pointOf : MethodName := ⟨RX8, "pointOf", "(I)I"⟩
abbrev cX8_solve : ByteArray := prog_10_method_3_code
def yX8_solve : MethodName := ⟨RX8, "solve", "(I)V"⟩
abbrev cX8_clear : ByteArray := prog_10_method_4_code
def yX8_clear : MethodName := ⟨RX8, "clear", "()V"⟩
abbrev cX8_measureFigures : ByteArray := prog_10_method_5_code
def yX8_measureFigures : MethodName := ⟨RX8, "measureFigures", "()V"⟩
abbrev cX8_measureTotals : ByteArray := prog_10_method_6_code
def yX8_measureTotals : MethodName := ⟨RX8, "measureTotals", "()V"⟩
abbrev cX8_measureSingleColumns : ByteArray := prog_10_method_7_code
def yX8_measureSingleColumns : MethodName := ⟨RX8, "measureSingleColumns", "()V"⟩
abbrev cX8_spreadOverColumns : ByteArray := prog_10_method_8_code
def yX8_spreadOverColumns : MethodName := ⟨RX8, "spreadOverColumns", "([IZ)V"⟩
abbrev cX8_widenOneColumn : ByteArray := prog_10_method_9_code
def yX8_widenOneColumn : MethodName := ⟨RX8, "widenOneColumn", "(LTablePages$Cell;[I)V"⟩
abbrev cX8_lastShownOf : ByteArray := prog_10_method_10_code
def yX8_lastShownOf : MethodName := ⟨RX8, "lastShownOf", "(LTablePages$Cell;)I"⟩
abbrev cX8_shareOut : ByteArray := prog_10_method_11_code
def yX8_shareOut : MethodName := ⟨RX8, "shareOut", "(I)V"⟩
abbrev cX8_wantedBy : ByteArray := prog_10_method_12_code
def yX8_wantedBy : MethodName := ⟨RX8, "wantedBy", "(LTablePages$Column;I)I"⟩
abbrev cX8_giveAll : ByteArray := prog_10_method_13_code
def yX8_giveAll : MethodName := ⟨RX8, "giveAll", "()V"⟩
abbrev cX8_giveInProportion : ByteArray := prog_10_method_14_code
def yX8_giveInProportion : MethodName := ⟨RX8, "giveInProportion", "(II)V"⟩
def RX9 : String := "TablePages"
def TX9 : u_T := fun k => match k with
  | 0 => ("TablePages", "grid", "LTablePages$Grid;", true)
  | 1 => ("TablePages", "widths", "LTablePages$Widths;", true)
  | 2 => ("TablePages", "heights", "LTablePages$Heights;", true)
  | 3 => ("TablePages", "trial", "LTablePages$Trial;", true)
  | 4 => ("TablePages", "flow", "LTablePages$Flow;", true)
  | 5 => ("TablePages", "sheets", "LTablePages$Sheets;", true)
  | 6 => ("TablePages", "sheetsLookedAt", "LTablePages$Sheets;", true)
  | 7 => ("TablePages", "paperWidth", "I", false)
  | 8 => ("TablePages", "pageLines", "I", false)
  | 9 => ("TablePages", "hasNotesAtEnd", "Z", false)
  | _ => ("TablePages", "isStale", "Z", false)
def tyX9 : Nat → FieldType := fun k => match k with
  | 0 => .object "TablePages$Grid"
  | 1 => .object "TablePages$Widths"
  | 2 => .object "TablePages$Heights"
  | 3 => .object "TablePages$Trial"
  | 4 => .object "TablePages$Flow"
  | 5 => .object "TablePages$Sheets"
  | 6 => .object "TablePages$Sheets"
  | 7 => .int
  | 8 => .int
  | 9 => .boolean
  | _ => .boolean
abbrev wsX90 : List Cond := u_ws RX9 TX9 11
theorem nmX9 : ∀ a, a < 11 → ∀ b, b < 11 → a ≠ b → (TX9 a).2.1 ≠ (TX9 b).2.1 := by decide +kernel
theorem tyX9_ok : ∀ k, k < 11 → parseFieldDescriptor (TX9 k).2.2.1 = some (tyX9 k) := by decide +kernel
abbrev cX9_init : ByteArray := prog_1_method_1_code
def yX9_init : MethodName := ⟨RX9, "<init>", "()V"⟩
abbrev cX9_column : ByteArray := prog_1_method_2_code
def yX9_column : MethodName := ⟨RX9, "column", "(II)I"⟩
abbrev cX9_row : ByteArray := prog_1_method_3_code
def yX9_row : MethodName := ⟨RX9, "row", "(IIZ)I"⟩
abbrev cX9_cell : ByteArray := prog_1_method_4_code
def yX9_cell : MethodName := ⟨RX9, "cell", "(IIII)I"⟩
abbrev cX9_word : ByteArray := prog_1_method_5_code
def yX9_word : MethodName := ⟨RX9, "word", "(III)I"⟩
abbrev cX9_figure : ByteArray := prog_1_method_6_code
def yX9_figure : MethodName := ⟨RX9, "figure", "(III)V"⟩
abbrev cX9_empty : ByteArray := prog_1_method_7_code
def yX9_empty : MethodName := ⟨RX9, "empty", "(I)I"⟩
abbrev cX9_note : ByteArray := prog_1_method_8_code
def yX9_note : MethodName := ⟨RX9, "note", "(II)I"⟩
abbrev cX9_at : ByteArray := prog_1_method_9_code
def yX9_at : MethodName := ⟨RX9, "at", "(II)I"⟩
abbrev cX9_setPaper : ByteArray := prog_1_method_10_code
def yX9_setPaper : MethodName := ⟨RX9, "setPaper", "(II)V"⟩
abbrev cX9_notesAtEnd : ByteArray := prog_1_method_11_code
def yX9_notesAtEnd : MethodName := ⟨RX9, "notesAtEnd", "()Z"⟩
abbrev cX9_totalled : ByteArray := prog_1_method_12_code
def yX9_totalled : MethodName := ⟨RX9, "totalled", "(I)Z"⟩
abbrev cX9_hide : ByteArray := prog_1_method_13_code
def yX9_hide : MethodName := ⟨RX9, "hide", "(I)Z"⟩
abbrev cX9_sort : ByteArray := prog_1_method_14_code
def yX9_sort : MethodName := ⟨RX9, "sort", "(IZ)I"⟩
abbrev cX9_least : ByteArray := prog_1_method_15_code
def yX9_least : MethodName := ⟨RX9, "least", "(I)I"⟩
abbrev cX9_most : ByteArray := prog_1_method_16_code
def yX9_most : MethodName := ⟨RX9, "most", "(I)I"⟩
abbrev cX9_width : ByteArray := prog_1_method_17_code
def yX9_width : MethodName := ⟨RX9, "width", "(I)I"⟩
abbrev cX9_over : ByteArray := prog_1_method_18_code
def yX9_over : MethodName := ⟨RX9, "over", "()I"⟩
abbrev cX9_point : ByteArray := prog_1_method_19_code
def yX9_point : MethodName := ⟨RX9, "point", "(I)I"⟩
abbrev cX9_begins : ByteArray := prog_1_method_20_code
def yX9_begins : MethodName := ⟨RX9, "begins", "(I)I"⟩
abbrev cX9_lines : ByteArray := prog_1_method_21_code
def yX9_lines : MethodName := ⟨RX9, "lines", "(I)I"⟩
abbrev cX9_height : ByteArray := prog_1_method_22_code
def yX9_height : MethodName := ⟨RX9, "height", "(I)I"⟩
abbrev cX9_heightByCells : ByteArray := prog_1_method_23_code
def yX9_heightByCells : MethodName := ⟨RX9, "heightByCells", "(I)I"⟩
abbrev cX9_tableHeight : ByteArray := prog_1_method_24_code
def yX9_tableHeight : MethodName := ⟨RX9, "tableHeight", "()I"⟩
abbrev cX9_border : ByteArray := prog_1_method_26_code
def yX9_border : MethodName := ⟨RX9, "border", "(IIII)I"⟩
abbrev cX9_edge : ByteArray := prog_1_method_27_code
def yX9_edge : MethodName := ⟨RX9, "edge", "(III)I"⟩
abbrev cX9_pages : ByteArray := prog_1_method_28_code
def yX9_pages : MethodName := ⟨RX9, "pages", "()I"⟩
abbrev cX9_pageOf : ByteArray := prog_1_method_29_code
def yX9_pageOf : MethodName := ⟨RX9, "pageOf", "(I)I"⟩
abbrev cX9_linesOn : ByteArray := prog_1_method_30_code
def yX9_linesOn : MethodName := ⟨RX9, "linesOn", "(II)I"⟩
abbrev cX9_shown : ByteArray := prog_1_method_31_code
def yX9_shown : MethodName := ⟨RX9, "shown", "(II)I"⟩
abbrev cX9_used : ByteArray := prog_1_method_32_code
def yX9_used : MethodName := ⟨RX9, "used", "(I)I"⟩
abbrev cX9_notesOn : ByteArray := prog_1_method_33_code
def yX9_notesOn : MethodName := ⟨RX9, "notesOn", "(I)I"⟩
abbrev cX9_look : ByteArray := prog_1_method_34_code
def yX9_look : MethodName := ⟨RX9, "look", "()I"⟩
abbrev cX9_total : ByteArray := prog_1_method_35_code
def yX9_total : MethodName := ⟨RX9, "total", "(I)I"⟩
abbrev cX9_carried : ByteArray := prog_1_method_37_code
def yX9_carried : MethodName := ⟨RX9, "carried", "(II)I"⟩
abbrev cX9_carriedByCells : ByteArray := prog_1_method_38_code
def yX9_carriedByCells : MethodName := ⟨RX9, "carriedByCells", "(II)I"⟩
abbrev cX9_requireColumn : ByteArray := prog_1_method_39_code
def yX9_requireColumn : MethodName := ⟨RX9, "requireColumn", "(I)V"⟩
abbrev cX9_requireRow : ByteArray := prog_1_method_40_code
def yX9_requireRow : MethodName := ⟨RX9, "requireRow", "(I)V"⟩
abbrev cX9_requireCell : ByteArray := prog_1_method_41_code
def yX9_requireCell : MethodName := ⟨RX9, "requireCell", "(I)V"⟩
abbrev cX9_requireSheets : ByteArray := prog_1_method_42_code
def yX9_requireSheets : MethodName := ⟨RX9, "requireSheets", "()V"⟩
abbrev cX9_requirePage : ByteArray := prog_1_method_43_code
def yX9_requirePage : MethodName := ⟨RX9, "requirePage", "(I)V"⟩
abbrev cX9_refresh : ByteArray := prog_1_method_44_code
def yX9_refresh : MethodName := ⟨RX9, "refresh", "()V"⟩
abbrev cX9_isFigure : ByteArray := prog_1_method_45_code
def yX9_isFigure : MethodName := ⟨RX9, "isFigure", "(II)Z"⟩
abbrev cX9_hasSide : ByteArray := prog_1_method_46_code
def yX9_hasSide : MethodName := ⟨RX9, "hasSide", "(II)Z"⟩
abbrev cX9_strongest : ByteArray := prog_1_method_47_code
def yX9_strongest : MethodName := ⟨RX9, "strongest", "(IIII)I"⟩
abbrev cX9_leftPart : ByteArray := prog_1_method_48_code
def yX9_leftPart : MethodName := ⟨RX9, "leftPart", "(I)I"⟩
abbrev cX9_linesOfRowsOf : ByteArray := prog_1_method_49_code
def yX9_linesOfRowsOf : MethodName := ⟨RX9, "linesOfRowsOf", "(LTablePages$Cell;II)I"⟩
def RX10 : String := "TablePagesModel"
def TX10 : u_T := fun k => match k with
  | _ => ("", "", "", false)
def tyX10 : Nat → FieldType := fun k => match k with
  | _ => .int
abbrev wsX100 : List Cond := u_ws RX10 TX10 0
theorem nmX10 : ∀ a, a < 0 → ∀ b, b < 0 → a ≠ b → (TX10 a).2.1 ≠ (TX10 b).2.1 := by decide +kernel
theorem tyX10_ok : ∀ k, k < 0 → parseFieldDescriptor (TX10 k).2.2.1 = some (tyX10 k) := by decide +kernel
def RJx145de : String := "java/io/Serializable"
def TJx145de : u_T := fun k => match k with
  | _ => ("", "", "", false)
def tyJx145de : Nat → FieldType := fun k => match k with
  | _ => .int
abbrev wsJx145de0 : List Cond := u_ws RJx145de TJx145de 0
theorem nmJx145de : ∀ a, a < 0 → ∀ b, b < 0 → a ≠ b → (TJx145de a).2.1 ≠ (TJx145de b).2.1 := by decide +kernel
theorem tyJx145de_ok : ∀ k, k < 0 → parseFieldDescriptor (TJx145de k).2.2.1 = some (tyJx145de k) := by decide +kernel
def RJx8e188 : String := "java/lang/Cloneable"
def TJx8e188 : u_T := fun k => match k with
  | _ => ("", "", "", false)
def tyJx8e188 : Nat → FieldType := fun k => match k with
  | _ => .int
abbrev wsJx8e1880 : List Cond := u_ws RJx8e188 TJx8e188 0
theorem nmJx8e188 : ∀ a, a < 0 → ∀ b, b < 0 → a ≠ b → (TJx8e188 a).2.1 ≠ (TJx8e188 b).2.1 := by decide +kernel
theorem tyJx8e188_ok : ∀ k, k < 0 → parseFieldDescriptor (TJx8e188 k).2.2.1 = some (tyJx8e188 k) := by decide +kernel
def RJxab1ab : String := "java/lang/Iterable"
def TJxab1ab : u_T := fun k => match k with
  | _ => ("", "", "", false)
def tyJxab1ab : Nat → FieldType := fun k => match k with
  | _ => .int
abbrev wsJxab1ab0 : List Cond := u_ws RJxab1ab TJxab1ab 0
theorem nmJxab1ab : ∀ a, a < 0 → ∀ b, b < 0 → a ≠ b → (TJxab1ab a).2.1 ≠ (TJxab1ab b).2.1 := by decide +kernel
theorem tyJxab1ab_ok : ∀ k, k < 0 → parseFieldDescriptor (TJxab1ab k).2.2.1 = some (tyJxab1ab k) := by decide +kernel
def RJ9 : String := "java/lang/Math"
def TJ9 : u_T := fun k => match k with
  | _ => ("", "", "", false)
def tyJ9 : Nat → FieldType := fun k => match k with
  | _ => .int
abbrev wsJ90 : List Cond := u_ws RJ9 TJ9 0
theorem nmJ9 : ∀ a, a < 0 → ∀ b, b < 0 → a ≠ b → (TJ9 a).2.1 ≠ (TJ9 b).2.1 := by decide +kernel
theorem tyJ9_ok : ∀ k, k < 0 → parseFieldDescriptor (TJ9 k).2.2.1 = some (tyJ9 k) := by decide +kernel
abbrev cJ9_floorDiv_7cf53 : ByteArray := prog_20_method_47_code
def yJ9_floorDiv_7cf53 : MethodName := ⟨RJ9, "floorDiv", "(II)I"⟩
abbrev cJ9_max_7cf53 : ByteArray := prog_20_method_65_code
def yJ9_max_7cf53 : MethodName := ⟨RJ9, "max", "(II)I"⟩
abbrev cJ9_min_7cf53 : ByteArray := prog_20_method_69_code
def yJ9_min_7cf53 : MethodName := ⟨RJ9, "min", "(II)I"⟩
def RJ0 : String := "java/lang/String"
def TJ0 : u_T := fun k => match k with
  | _ => ("", "", "", false)
def tyJ0 : Nat → FieldType := fun k => match k with
  | _ => .int
abbrev wsJ00 : List Cond := u_ws RJ0 TJ0 0
theorem nmJ0 : ∀ a, a < 0 → ∀ b, b < 0 → a ≠ b → (TJ0 a).2.1 ≠ (TJ0 b).2.1 := by decide +kernel
theorem tyJ0_ok : ∀ k, k < 0 → parseFieldDescriptor (TJ0 k).2.2.1 = some (tyJ0 k) := by decide +kernel
def RJ10 : String := "java/lang/System"
def TJ10 : u_T := fun k => match k with
  | _ => ("", "", "", false)
def tyJ10 : Nat → FieldType := fun k => match k with
  | _ => .int
abbrev wsJ100 : List Cond := u_ws RJ10 TJ10 0
theorem nmJ10 : ∀ a, a < 0 → ∀ b, b < 0 → a ≠ b → (TJ10 a).2.1 ≠ (TJ10 b).2.1 := by decide +kernel
theorem tyJ10_ok : ∀ k, k < 0 → parseFieldDescriptor (TJ10 k).2.2.1 = some (tyJ10 k) := by decide +kernel
def RJxa1e45 : String := "java/util/AbstractCollection"
def TJxa1e45 : u_T := fun k => match k with
  | _ => ("", "", "", false)
def tyJxa1e45 : Nat → FieldType := fun k => match k with
  | _ => .int
abbrev wsJxa1e450 : List Cond := u_ws RJxa1e45 TJxa1e45 0
theorem nmJxa1e45 : ∀ a, a < 0 → ∀ b, b < 0 → a ≠ b → (TJxa1e45 a).2.1 ≠ (TJxa1e45 b).2.1 := by decide +kernel
theorem tyJxa1e45_ok : ∀ k, k < 0 → parseFieldDescriptor (TJxa1e45 k).2.2.1 = some (tyJxa1e45 k) := by decide +kernel
abbrev cJxa1e45_init_da8c8 : ByteArray := prog_25_method_1_code
def yJxa1e45_init_da8c8 : MethodName := ⟨RJxa1e45, "<init>", "()V"⟩
def RJxc12de : String := "java/util/AbstractList"
def TJxc12de : u_T := fun k => match k with
  | _ => ("", "", "", false)
def tyJxc12de : Nat → FieldType := fun k => match k with
  | _ => .int
abbrev wsJxc12de0 : List Cond := u_ws RJxc12de TJxc12de 0
theorem nmJxc12de : ∀ a, a < 0 → ∀ b, b < 0 → a ≠ b → (TJxc12de a).2.1 ≠ (TJxc12de b).2.1 := by decide +kernel
theorem tyJxc12de_ok : ∀ k, k < 0 → parseFieldDescriptor (TJxc12de k).2.2.1 = some (tyJxc12de k) := by decide +kernel
abbrev cJxc12de_init_da8c8 : ByteArray := prog_26_method_1_code
def yJxc12de_init_da8c8 : MethodName := ⟨RJxc12de, "<init>", "()V"⟩
def RJx4a65c : String := "java/util/ArrayList"
def TJx4a65c : u_T := fun k => match k with
  | 0 => ("java/util/AbstractList", "modCount", "I", false)
  | 1 => ("java/util/ArrayList", "elementData", "[Ljava/lang/Object;", false)
  | _ => ("java/util/ArrayList", "size", "I", false)
def tyJx4a65c : Nat → FieldType := fun k => match k with
  | 0 => .int
  | 1 => .array (.object "java/lang/Object")
  | _ => .int
abbrev wsJx4a65c0 : List Cond := u_ws RJx4a65c TJx4a65c 3
theorem nmJx4a65c : ∀ a, a < 3 → ∀ b, b < 3 → a ≠ b → (TJx4a65c a).2.1 ≠ (TJx4a65c b).2.1 := by decide +kernel
theorem tyJx4a65c_ok : ∀ k, k < 3 → parseFieldDescriptor (TJx4a65c k).2.2.1 = some (tyJx4a65c k) := by decide +kernel
abbrev cJx4a65c_init_da8c8 : ByteArray := prog_27_method_2_code
def yJx4a65c_init_da8c8 : MethodName := ⟨RJx4a65c, "<init>", "()V"⟩
abbrev cJx4a65c_grow_92f84 : ByteArray := prog_27_method_6_code
def yJx4a65c_grow_92f84 : MethodName := ⟨RJx4a65c, "grow", "(I)[Ljava/lang/Object;"⟩
abbrev cJx4a65c_grow_d5877 : ByteArray := prog_27_method_7_code
def yJx4a65c_grow_d5877 : MethodName := ⟨RJx4a65c, "grow", "()[Ljava/lang/Object;"⟩
abbrev cJx4a65c_size_8abf5 : ByteArray := prog_27_method_8_code
def yJx4a65c_size_8abf5 : MethodName := ⟨RJx4a65c, "size", "()I"⟩
abbrev cJx4a65c_isEmpty_aae02 : ByteArray := prog_27_method_9_code
def yJx4a65c_isEmpty_aae02 : MethodName := ⟨RJx4a65c, "isEmpty", "()Z"⟩
abbrev cJx4a65c_elementData_915e3 : ByteArray := prog_27_method_18_code
def yJx4a65c_elementData_915e3 : MethodName := ⟨RJx4a65c, "elementData", "(I)Ljava/lang/Object;"⟩
abbrev cJx4a65c_get_915e3 : ByteArray := prog_27_method_20_code
def yJx4a65c_get_915e3 : MethodName := ⟨RJx4a65c, "get", "(I)Ljava/lang/Object;"⟩
abbrev cJx4a65c_set_bcc79 : ByteArray := prog_27_method_23_code
def yJx4a65c_set_bcc79 : MethodName := ⟨RJx4a65c, "set", "(ILjava/lang/Object;)Ljava/lang/Object;"⟩
abbrev cJx4a65c_add_72be8 : ByteArray := prog_27_method_24_code
def yJx4a65c_add_72be8 : MethodName := ⟨RJx4a65c, "add", "(Ljava/lang/Object;[Ljava/lang/Object;I)V"⟩
abbrev cJx4a65c_add_9ea2d : ByteArray := prog_27_method_25_code
def yJx4a65c_add_9ea2d : MethodName := ⟨RJx4a65c, "add", "(Ljava/lang/Object;)Z"⟩
def RJ7 : String := "java/util/Arrays"
def TJ7 : u_T := fun k => match k with
  | _ => ("", "", "", false)
def tyJ7 : Nat → FieldType := fun k => match k with
  | _ => .int
abbrev wsJ70 : List Cond := u_ws RJ7 TJ7 0
theorem nmJ7 : ∀ a, a < 0 → ∀ b, b < 0 → a ≠ b → (TJ7 a).2.1 ≠ (TJ7 b).2.1 := by decide +kernel
theorem tyJ7_ok : ∀ k, k < 0 → parseFieldDescriptor (TJ7 k).2.2.1 = some (tyJ7 k) := by decide +kernel
abbrev cJ7_fill_53178 : ByteArray := prog_28_method_103_code
def yJ7_fill_53178 : MethodName := ⟨RJ7, "fill", "([II)V"⟩
abbrev cJ7_copyOf_1904c : ByteArray := prog_28_method_119_code
def yJ7_copyOf_1904c : MethodName := ⟨RJ7, "copyOf", "([Ljava/lang/Object;I)[Ljava/lang/Object;"⟩
abbrev cJ7_copyOf_6403c : ByteArray := prog_28_method_120_code
def yJ7_copyOf_6403c : MethodName := ⟨RJ7, "copyOf", "([Ljava/lang/Object;ILjava/lang/Class;)[Ljava/lang/Object;"⟩
def RJx5ef63 : String := "java/util/Collection"
def TJx5ef63 : u_T := fun k => match k with
  | _ => ("", "", "", false)
def tyJx5ef63 : Nat → FieldType := fun k => match k with
  | _ => .int
abbrev wsJx5ef630 : List Cond := u_ws RJx5ef63 TJx5ef63 0
theorem nmJx5ef63 : ∀ a, a < 0 → ∀ b, b < 0 → a ≠ b → (TJx5ef63 a).2.1 ≠ (TJx5ef63 b).2.1 := by decide +kernel
theorem tyJx5ef63_ok : ∀ k, k < 0 → parseFieldDescriptor (TJx5ef63 k).2.2.1 = some (tyJx5ef63 k) := by decide +kernel
def RJxbd725 : String := "java/util/List"
def TJxbd725 : u_T := fun k => match k with
  | _ => ("", "", "", false)
def tyJxbd725 : Nat → FieldType := fun k => match k with
  | _ => .int
abbrev wsJxbd7250 : List Cond := u_ws RJxbd725 TJxbd725 0
theorem nmJxbd725 : ∀ a, a < 0 → ∀ b, b < 0 → a ≠ b → (TJxbd725 a).2.1 ≠ (TJxbd725 b).2.1 := by decide +kernel
theorem tyJxbd725_ok : ∀ k, k < 0 → parseFieldDescriptor (TJxbd725 k).2.2.1 = some (tyJxbd725 k) := by decide +kernel
def RJ15 : String := "java/util/Objects"
def TJ15 : u_T := fun k => match k with
  | _ => ("", "", "", false)
def tyJ15 : Nat → FieldType := fun k => match k with
  | _ => .int
abbrev wsJ150 : List Cond := u_ws RJ15 TJ15 0
theorem nmJ15 : ∀ a, a < 0 → ∀ b, b < 0 → a ≠ b → (TJ15 a).2.1 ≠ (TJ15 b).2.1 := by decide +kernel
theorem tyJ15_ok : ∀ k, k < 0 → parseFieldDescriptor (TJ15 k).2.2.1 = some (tyJ15 k) := by decide +kernel
abbrev cJ15_checkIndex_7cf53 : ByteArray := prog_31_method_17_code
def yJ15_checkIndex_7cf53 : MethodName := ⟨RJ15, "checkIndex", "(II)I"⟩
def RJxf0a74 : String := "java/util/RandomAccess"
def TJxf0a74 : u_T := fun k => match k with
  | _ => ("", "", "", false)
def tyJxf0a74 : Nat → FieldType := fun k => match k with
  | _ => .int
abbrev wsJxf0a740 : List Cond := u_ws RJxf0a74 TJxf0a74 0
theorem nmJxf0a74 : ∀ a, a < 0 → ∀ b, b < 0 → a ≠ b → (TJxf0a74 a).2.1 ≠ (TJxf0a74 b).2.1 := by decide +kernel
theorem tyJxf0a74_ok : ∀ k, k < 0 → parseFieldDescriptor (TJxf0a74 k).2.2.1 = some (tyJxf0a74 k) := by decide +kernel
def RJxa66e6 : String := "java/util/SequencedCollection"
def TJxa66e6 : u_T := fun k => match k with
  | _ => ("", "", "", false)
def tyJxa66e6 : Nat → FieldType := fun k => match k with
  | _ => .int
abbrev wsJxa66e60 : List Cond := u_ws RJxa66e6 TJxa66e6 0
theorem nmJxa66e6 : ∀ a, a < 0 → ∀ b, b < 0 → a ≠ b → (TJxa66e6 a).2.1 ≠ (TJxa66e6 b).2.1 := by decide +kernel
theorem tyJxa66e6_ok : ∀ k, k < 0 → parseFieldDescriptor (TJxa66e6 k).2.2.1 = some (tyJxa66e6 k) := by decide +kernel
def RJ8 : String := "jdk/internal/util/ArraysSupport"
def TJ8 : u_T := fun k => match k with
  | _ => ("", "", "", false)
def tyJ8 : Nat → FieldType := fun k => match k with
  | _ => .int
abbrev wsJ80 : List Cond := u_ws RJ8 TJ8 0
theorem nmJ8 : ∀ a, a < 0 → ∀ b, b < 0 → a ≠ b → (TJ8 a).2.1 ≠ (TJ8 b).2.1 := by decide +kernel
theorem tyJ8_ok : ∀ k, k < 0 → parseFieldDescriptor (TJ8 k).2.2.1 = some (tyJ8 k) := by decide +kernel
abbrev cJ8_newLength_cabcc : ByteArray := prog_34_method_27_code
def yJ8_newLength_cabcc : MethodName := ⟨RJ8, "newLength", "(III)I"⟩
abbrev cJ8_hugeLength_7cf53 : ByteArray := prog_34_method_28_code
def yJ8_hugeLength_7cf53 : MethodName := ⟨RJ8, "hugeLength", "(II)I"⟩
def RJ3 : String := "jdk/internal/util/Preconditions"
def TJ3 : u_T := fun k => match k with
  | _ => ("", "", "", false)
def tyJ3 : Nat → FieldType := fun k => match k with
  | _ => .int
abbrev wsJ30 : List Cond := u_ws RJ3 TJ3 0
theorem nmJ3 : ∀ a, a < 0 → ∀ b, b < 0 → a ≠ b → (TJ3 a).2.1 ≠ (TJ3 b).2.1 := by decide +kernel
theorem tyJ3_ok : ∀ k, k < 0 → parseFieldDescriptor (TJ3 k).2.2.1 = some (tyJ3 k) := by decide +kernel
abbrev cJ3_checkIndex_8e157 : ByteArray := prog_35_method_11_code
def yJ3_checkIndex_8e157 : MethodName := ⟨RJ3, "checkIndex", "(IILjava/util/function/BiFunction;)I"⟩
def RL : String := "TablePagesLaw"
abbrev cL_from : ByteArray := method_2_code
def yL_from : MethodName := ⟨RL, "from", "([III)I"⟩
abbrev cL_placeOf : ByteArray := method_3_code
def yL_placeOf : MethodName := ⟨RL, "placeOf", "([II)I"⟩
abbrev cL_at : ByteArray := method_4_code
def yL_at : MethodName := ⟨RL, "at", "([I[I[III)I"⟩
abbrev cL_shows : ByteArray := method_5_code
def yL_shows : MethodName := ⟨RL, "shows", "([I[II)I"⟩
abbrev cL_words : ByteArray := method_6_code
def yL_words : MethodName := ⟨RL, "words", "([JI)I"⟩
abbrev cL_length : ByteArray := method_7_code
def yL_length : MethodName := ⟨RL, "length", "([JII)I"⟩
abbrev cL_cut : ByteArray := method_8_code
def yL_cut : MethodName := ⟨RL, "cut", "([JII)I"⟩
abbrev cL_wants : ByteArray := method_9_code
def yL_wants : MethodName := ⟨RL, "wants", "([JIZ)I"⟩
abbrev cL_leftOf : ByteArray := method_10_code
def yL_leftOf : MethodName := ⟨RL, "leftOf", "(I)I"⟩
abbrev cL_figures : ByteArray := method_11_code
def yL_figures : MethodName := ⟨RL, "figures", "([I[I[I[I[I[II)V"⟩
abbrev cL_grow : ByteArray := method_12_code
def yL_grow : MethodName := ⟨RL, "grow", "([I[I[J[I[IIZ)V"⟩
abbrev cL_visible : ByteArray := method_13_code
def yL_visible : MethodName := ⟨RL, "visible", "([I[I)I"⟩
abbrev cL_widths : ByteArray := method_14_code
def yL_widths : MethodName := ⟨RL, "widths", "([I[I[I[J[I[I[I)V"⟩
abbrev cL_across : ByteArray := method_15_code
def yL_across : MethodName := ⟨RL, "across", "([I[I[II)I"⟩
abbrev cL_lines : ByteArray := method_16_code
def yL_lines : MethodName := ⟨RL, "lines", "([I[I[J[II)I"⟩
abbrev cL_heights : ByteArray := method_17_code
def yL_heights : MethodName := ⟨RL, "heights", "([I[I[I[J[I[I)V"⟩
abbrev cL_stronger : ByteArray := method_18_code
def yL_stronger : MethodName := ⟨RL, "stronger", "(III)I"⟩
abbrev cL_edge : ByteArray := method_19_code
def yL_edge : MethodName := ⟨RL, "edge", "([I[I[I[I[I[IIII)I"⟩
abbrev cL_sums : ByteArray := method_20_code
def yL_sums : MethodName := ⟨RL, "sums", "([I[I)Z"⟩
abbrev cL_noteLines : ByteArray := method_21_code
def yL_noteLines : MethodName := ⟨RL, "noteLines", "([I[I[II)I"⟩
abbrev cL_walk : ByteArray := method_22_code
def yL_walk : MethodName := ⟨RL, "walk", "([I[I[I[I[I[I[I[I[I)V"⟩
abbrev cL_figure : ByteArray := method_23_code
def yL_figure : MethodName := ⟨RL, "figure", "([I[I[I[III)I"⟩
abbrev cL_pages : ByteArray := method_24_code
def yL_pages : MethodName := ⟨RL, "pages", "(LTablePages;)I"⟩
abbrev cL_point : ByteArray := method_25_code
def yL_point : MethodName := ⟨RL, "point", "(LTablePages;II)I"⟩
abbrev cL_areWidths : ByteArray := method_26_code
def yL_areWidths : MethodName := ⟨RL, "areWidths", "(LTablePages;[I[I[I[I[J[I[I[I)Z"⟩
abbrev cL_arePages : ByteArray := method_27_code
def yL_arePages : MethodName := ⟨RL, "arePages", "(LTablePages;[I[I[I[I[J[I[I[II)Z"⟩
abbrev cL_rowed : ByteArray := method_28_code
def yL_rowed : MethodName := ⟨RL, "rowed", "(LTablePages;IIZ)I"⟩
abbrev cL_celled : ByteArray := method_29_code
def yL_celled : MethodName := ⟨RL, "celled", "(LTablePages;IIII)I"⟩
abbrev cL_worded : ByteArray := method_30_code
def yL_worded : MethodName := ⟨RL, "worded", "(LTablePages;III)I"⟩
abbrev cL_figured : ByteArray := method_31_code
def yL_figured : MethodName := ⟨RL, "figured", "(LTablePages;III)I"⟩
abbrev cL_noted : ByteArray := method_32_code
def yL_noted : MethodName := ⟨RL, "noted", "(LTablePages;II)I"⟩
abbrev cL_hid : ByteArray := method_33_code
def yL_hid : MethodName := ⟨RL, "hid", "(LTablePages;I)I"⟩
abbrev cL_sorted : ByteArray := method_34_code
def yL_sorted : MethodName := ⟨RL, "sorted", "(LTablePages;IZ)I"⟩
abbrev cL_isRow : ByteArray := method_35_code
def yL_isRow : MethodName := ⟨RL, "isRow", "(LTablePages;[I[I[II)Z"⟩
abbrev cL_isCell : ByteArray := method_36_code
def yL_isCell : MethodName := ⟨RL, "isCell", "(LTablePages;[I[I[I[II)Z"⟩
abbrev cL_isFilled : ByteArray := method_37_code
def yL_isFilled : MethodName := ⟨RL, "isFilled", "(LTablePages;[I[I[J[I[III)Z"⟩
abbrev cL_key : ByteArray := method_38_code
def yL_key : MethodName := ⟨RL, "key", "([I[I[I[IIIZ)I"⟩
abbrev cL_isSorted : ByteArray := method_39_code
def yL_isSorted : MethodName := ⟨RL, "isSorted", "(LTablePages;[I[I[I[I[I[II)Z"⟩
abbrev cL_ahead : ByteArray := method_40_code
def yL_ahead : MethodName := ⟨RL, "ahead", "([III)I"⟩
abbrev cL_isSet : ByteArray := method_41_code
def yL_isSet : MethodName := ⟨RL, "isSet", "(LTablePages;[I[I[I[III)Z"⟩
abbrev cL_holds : ByteArray := method_42_code
def yL_holds : MethodName := ⟨RL, "holds", "([I)Z"⟩
abbrev cL_isHeld : ByteArray := method_43_code
def yL_isHeld : MethodName := ⟨RL, "isHeld", "([I)Z"⟩
abbrev cL_law : ByteArray := code
def yL_law : MethodName := ⟨RL, "law", "([I)Z"⟩
abbrev vwCl : List vw_C := [(RJx4a65c, TJx4a65c, 3), (RX0, TX0, 13), (RX1, TX1, 4), (RX2, TX2, 14), (RX3, TX3, 8), (RX4, TX4, 3), (RX5, TX5, 7), (RX6, TX6, 12), (RX7, TX7, 6), (RX8, TX8, 8), (RX9, TX9, 11)]
