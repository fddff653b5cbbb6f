abbrev R_O : String := "OutlineCurves"
def F_O : u_T := fun k => match k with
  | 0 => ("OutlineCurves", "picture", "LOutlineCurves$Picture;", true)
  | 1 => ("OutlineCurves", "outlines", "LOutlineCurves$Outlines;", true)
  | 2 => ("OutlineCurves", "shape", "LOutlineCurves$Polygon;", true)
  | _ => ("OutlineCurves", "row", "LOutlineCurves$CurveRow;", true)
def t_O : Nat → FieldType := fun k => match k with
  | 0 => .object "OutlineCurves$Picture"
  | 1 => .object "OutlineCurves$Outlines"
  | 2 => .object "OutlineCurves$Polygon"
  | _ => .object "OutlineCurves$CurveRow"
theorem n_O_ne : ∀ a, a < 4 → ∀ b, b < 4 → a ≠ b → (F_O a).2.1 ≠ (F_O b).2.1 := by decide +kernel
theorem t_O_ok : ∀ k, k < 4 → parseFieldDescriptor (F_O k).2.2.1 = some (t_O k) := by decide +kernel
abbrev R_P : String := "OutlineCurves$Picture"
def F_P : u_T := fun k => match k with
  | 0 => ("OutlineCurves$Picture", "width", "I", true)
  | 1 => ("OutlineCurves$Picture", "height", "I", true)
  | _ => ("OutlineCurves$Picture", "colours", "[B", true)
def t_P : Nat → FieldType := fun k => match k with
  | 0 => .int
  | 1 => .int
  | _ => .array .byte
theorem n_P_ne : ∀ a, a < 3 → ∀ b, b < 3 → a ≠ b → (F_P a).2.1 ≠ (F_P b).2.1 := by decide +kernel
theorem t_P_ok : ∀ k, k < 3 → parseFieldDescriptor (F_P k).2.2.1 = some (t_P k) := by decide +kernel
abbrev R_U : String := "OutlineCurves$Outlines"
def F_U : u_T := fun k => match k with
  | 0 => ("OutlineCurves$Outlines", "picture", "LOutlineCurves$Picture;", true)
  | 1 => ("OutlineCurves$Outlines", "xs", "[B", true)
  | 2 => ("OutlineCurves$Outlines", "ys", "[B", true)
  | 3 => ("OutlineCurves$Outlines", "begins", "[I", true)
  | 4 => ("OutlineCurves$Outlines", "layers", "[B", true)
  | 5 => ("OutlineCurves$Outlines", "areas", "[I", true)
  | 6 => ("OutlineCurves$Outlines", "walked", "[B", true)
  | 7 => ("OutlineCurves$Outlines", "count", "I", false)
  | _ => ("OutlineCurves$Outlines", "traced", "Z", false)
def t_U : Nat → FieldType := fun k => match k with
  | 0 => .object "OutlineCurves$Picture"
  | 1 => .array .byte
  | 2 => .array .byte
  | 3 => .array .int
  | 4 => .array .byte
  | 5 => .array .int
  | 6 => .array .byte
  | 7 => .int
  | _ => .boolean
theorem n_U_ne : ∀ a, a < 9 → ∀ b, b < 9 → a ≠ b → (F_U a).2.1 ≠ (F_U b).2.1 := by decide +kernel
theorem t_U_ok : ∀ k, k < 9 → parseFieldDescriptor (F_U k).2.2.1 = some (t_U k) := by decide +kernel
abbrev R_G : String := "OutlineCurves$Polygon"
def F_G : u_T := fun k => match k with
  | 0 => ("OutlineCurves$Polygon", "outlines", "LOutlineCurves$Outlines;", true)
  | 1 => ("OutlineCurves$Polygon", "costs", "[I", true)
  | 2 => ("OutlineCurves$Polygon", "rest", "[I", true)
  | 3 => ("OutlineCurves$Polygon", "restByTwo", "[I", true)
  | 4 => ("OutlineCurves$Polygon", "points", "[I", true)
  | 5 => ("OutlineCurves$Polygon", "xs", "[I", true)
  | 6 => ("OutlineCurves$Polygon", "ys", "[I", true)
  | 7 => ("OutlineCurves$Polygon", "angles", "[I", true)
  | 8 => ("OutlineCurves$Polygon", "turns", "[I", true)
  | 9 => ("OutlineCurves$Polygon", "count", "I", false)
  | _ => ("OutlineCurves$Polygon", "cost", "I", false)
def t_G : Nat → FieldType := fun k => match k with
  | 0 => .object "OutlineCurves$Outlines"
  | 1 => .array .int
  | 2 => .array .int
  | 3 => .array .int
  | 4 => .array .int
  | 5 => .array .int
  | 6 => .array .int
  | 7 => .array .int
  | 8 => .array .int
  | 9 => .int
  | _ => .int
theorem n_G_ne : ∀ a, a < 11 → ∀ b, b < 11 → a ≠ b → (F_G a).2.1 ≠ (F_G b).2.1 := by decide +kernel
theorem t_G_ok : ∀ k, k < 11 → parseFieldDescriptor (F_G k).2.2.1 = some (t_G k) := by decide +kernel
abbrev R_C : String := "OutlineCurves$CurveRow"
def F_C : u_T := fun k => match k with
  | 0 => ("OutlineCurves$CurveRow", "polygon", "LOutlineCurves$Polygon;", true)
  | 1 => ("OutlineCurves$CurveRow", "fewest", "[I", true)
  | 2 => ("OutlineCurves$CurveRow", "takenLengths", "[I", true)
  | 3 => ("OutlineCurves$CurveRow", "takenPulls", "[I", true)
  | 4 => ("OutlineCurves$CurveRow", "firsts", "[I", true)
  | 5 => ("OutlineCurves$CurveRow", "lengths", "[I", true)
  | 6 => ("OutlineCurves$CurveRow", "pulls", "[I", true)
  | 7 => ("OutlineCurves$CurveRow", "handX", "[I", true)
  | 8 => ("OutlineCurves$CurveRow", "handY", "[I", true)
  | _ => ("OutlineCurves$CurveRow", "count", "I", false)
def t_C : Nat → FieldType := fun k => match k with
  | 0 => .object "OutlineCurves$Polygon"
  | 1 => .array .int
  | 2 => .array .int
  | 3 => .array .int
  | 4 => .array .int
  | 5 => .array .int
  | 6 => .array .int
  | 7 => .array .int
  | 8 => .array .int
  | _ => .int
theorem n_C_ne : ∀ a, a < 10 → ∀ b, b < 10 → a ≠ b → (F_C a).2.1 ≠ (F_C b).2.1 := by decide +kernel
theorem t_C_ok : ∀ k, k < 10 → parseFieldDescriptor (F_C k).2.2.1 = some (t_C k) := by decide +kernel
abbrev R_M : String := "OutlineCurvesModel"
def F_M : u_T := fun k => match k with
  | 0 => ("OutlineCurvesModel", "code", "I", false)
  | 1 => ("OutlineCurvesModel", "width", "I", true)
  | 2 => ("OutlineCurvesModel", "height", "I", true)
  | 3 => ("OutlineCurvesModel", "colours", "[I", true)
  | 4 => ("OutlineCurvesModel", "isTraced", "Z", false)
  | 5 => ("OutlineCurvesModel", "outlines", "I", false)
  | 6 => ("OutlineCurvesModel", "froms", "[I", true)
  | 7 => ("OutlineCurvesModel", "sizes", "[I", true)
  | 8 => ("OutlineCurvesModel", "layersOf", "[I", true)
  | 9 => ("OutlineCurvesModel", "areas", "[I", true)
  | 10 => ("OutlineCurvesModel", "points", "I", false)
  | 11 => ("OutlineCurvesModel", "xs", "[I", true)
  | 12 => ("OutlineCurvesModel", "ys", "[I", true)
  | 13 => ("OutlineCurvesModel", "used", "[Z", true)
  | 14 => ("OutlineCurvesModel", "hasPolygon", "Z", false)
  | 15 => ("OutlineCurvesModel", "of", "I", false)
  | 16 => ("OutlineCurvesModel", "corners", "I", false)
  | 17 => ("OutlineCurvesModel", "costSum", "I", false)
  | 18 => ("OutlineCurvesModel", "cornerAt", "[I", true)
  | 19 => ("OutlineCurvesModel", "counts", "[I", true)
  | 20 => ("OutlineCurvesModel", "costs", "[I", true)
  | 21 => ("OutlineCurvesModel", "hasCurves", "Z", false)
  | 22 => ("OutlineCurvesModel", "curveCount", "I", false)
  | 23 => ("OutlineCurvesModel", "firsts", "[I", true)
  | 24 => ("OutlineCurvesModel", "manys", "[I", true)
  | 25 => ("OutlineCurvesModel", "fs", "[I", true)
  | 26 => ("OutlineCurvesModel", "sharp", "I", false)
  | 27 => ("OutlineCurvesModel", "allowed", "I", false)
  | 28 => ("OutlineCurvesModel", "px", "[I", true)
  | 29 => ("OutlineCurvesModel", "py", "[I", true)
  | 30 => ("OutlineCurvesModel", "groups", "[I", true)
  | _ => ("OutlineCurvesModel", "joinF", "[I", true)
def t_M : Nat → FieldType := fun k => match k with
  | 0 => .int
  | 1 => .int
  | 2 => .int
  | 3 => .array .int
  | 4 => .boolean
  | 5 => .int
  | 6 => .array .int
  | 7 => .array .int
  | 8 => .array .int
  | 9 => .array .int
  | 10 => .int
  | 11 => .array .int
  | 12 => .array .int
  | 13 => .array .boolean
  | 14 => .boolean
  | 15 => .int
  | 16 => .int
  | 17 => .int
  | 18 => .array .int
  | 19 => .array .int
  | 20 => .array .int
  | 21 => .boolean
  | 22 => .int
  | 23 => .array .int
  | 24 => .array .int
  | 25 => .array .int
  | 26 => .int
  | 27 => .int
  | 28 => .array .int
  | 29 => .array .int
  | 30 => .array .int
  | _ => .array .int
theorem n_M_ne : ∀ a, a < 32 → ∀ b, b < 32 → a ≠ b → (F_M a).2.1 ≠ (F_M b).2.1 := by decide +kernel
theorem t_M_ok : ∀ k, k < 32 → parseFieldDescriptor (F_M k).2.2.1 = some (t_M k) := by decide +kernel
abbrev vwCl : List vw_C := [(R_O, F_O, 4), (R_P, F_P, 3), (R_U, F_U, 9), (R_G, F_G, 11), (R_C, F_C, 10), (R_M, F_M, 32)]
abbrev R_L : String := "OutlineCurvesLaw"
abbrev R_Jm : String := "java/lang/Math"
abbrev R_Ji : String := "java/lang/Integer"
abbrev R_Ja : String := "java/util/Arrays"
abbrev b_P_has : ByteArray := prog_4_method_3_code
abbrev y_P_has : MethodName := ⟨"OutlineCurves$Picture", "has", "(II)Z"⟩
abbrev w_P_has : List Cond := .code y_P_has b_P_has 3 (some .boolean) :: allW
abbrev b_O_requireSample : ByteArray := prog_1_method_17_code
abbrev y_O_requireSample : MethodName := ⟨"OutlineCurves", "requireSample", "(II)V"⟩
abbrev w_O_requireSample : List Cond := .code y_O_requireSample b_O_requireSample 3 none :: allW
abbrev b_O_requireRange : ByteArray := prog_1_method_23_code
abbrev y_O_requireRange : MethodName := ⟨"OutlineCurves", "requireRange", "(III)V"⟩
abbrev w_O_requireRange : List Cond := .code y_O_requireRange b_O_requireRange 3 none :: allW
abbrev b_P_paint : ByteArray := prog_4_method_5_code
abbrev y_P_paint : MethodName := ⟨"OutlineCurves$Picture", "paint", "(IIII)I"⟩
abbrev w_P_paint : List Cond := .code y_P_paint b_P_paint 9 (some .int) :: allW
abbrev b_U_forget : ByteArray := prog_3_method_2_code
abbrev y_U_forget : MethodName := ⟨"OutlineCurves$Outlines", "forget", "()V"⟩
abbrev w_U_forget : List Cond := .code y_U_forget b_U_forget 1 none :: allW
abbrev b_G_forget : ByteArray := prog_5_method_2_code
abbrev y_G_forget : MethodName := ⟨"OutlineCurves$Polygon", "forget", "()V"⟩
abbrev w_G_forget : List Cond := .code y_G_forget b_G_forget 1 none :: allW
abbrev b_C_forget : ByteArray := prog_2_method_2_code
abbrev y_C_forget : MethodName := ⟨"OutlineCurves$CurveRow", "forget", "()V"⟩
abbrev w_C_forget : List Cond := .code y_C_forget b_C_forget 1 none :: allW
abbrev b_O_forgetOutlines : ByteArray := prog_1_method_16_code
abbrev y_O_forgetOutlines : MethodName := ⟨"OutlineCurves", "forgetOutlines", "()V"⟩
abbrev w_O_forgetOutlines : List Cond := .code y_O_forgetOutlines b_O_forgetOutlines 1 none :: allW
abbrev b_O_put : ByteArray := prog_1_method_2_code
abbrev y_O_put : MethodName := ⟨"OutlineCurves", "put", "(IIII)I"⟩
abbrev w_O_put : List Cond := .code y_O_put b_O_put 6 (some .int) :: allW
abbrev b_Ja_fill : ByteArray := prog_17_method_109_code
abbrev y_Ja_fill : MethodName := ⟨"java/util/Arrays", "fill", "([BB)V"⟩
abbrev w_Ja_fill : List Cond := .code y_Ja_fill b_Ja_fill 4 none :: allW
abbrev b_P_isInside : ByteArray := prog_4_method_4_code
abbrev y_P_isInside : MethodName := ⟨"OutlineCurves$Picture", "isInside", "(III)Z"⟩
abbrev w_P_isInside : List Cond := .code y_P_isInside b_P_isInside 4 (some .boolean) :: allW
abbrev b_U_beginsOutline : ByteArray := prog_3_method_5_code
abbrev y_U_beginsOutline : MethodName := ⟨"OutlineCurves$Outlines", "beginsOutline", "(III)Z"⟩
abbrev w_U_beginsOutline : List Cond := .code y_U_beginsOutline b_U_beginsOutline 4 (some .boolean) :: allW
abbrev b_U_insideRound : ByteArray := prog_3_method_9_code
abbrev y_U_insideRound : MethodName := ⟨"OutlineCurves$Outlines", "insideRound", "(III)I"⟩
abbrev w_U_insideRound : List Cond := .code y_U_insideRound b_U_insideRound 7 (some .int) :: allW
abbrev b_U_turnsLeft : ByteArray := prog_3_method_8_code
abbrev y_U_turnsLeft : MethodName := ⟨"OutlineCurves$Outlines", "turnsLeft", "(IIII)Z"⟩
abbrev w_U_turnsLeft : List Cond := .code y_U_turnsLeft b_U_turnsLeft 5 (some .boolean) :: allW
abbrev b_U_directionFrom : ByteArray := prog_3_method_7_code
abbrev y_U_directionFrom : MethodName := ⟨"OutlineCurves$Outlines", "directionFrom", "(IIIII)I"⟩
abbrev w_U_directionFrom : List Cond := .code y_U_directionFrom b_U_directionFrom 10 (some .int) :: allW
abbrev b_U_walk : ByteArray := prog_3_method_6_code
abbrev y_U_walk : MethodName := ⟨"OutlineCurves$Outlines", "walk", "(IIII)V"⟩
abbrev w_U_walk : List Cond := .code y_U_walk b_U_walk 11 none :: allW
abbrev b_U_addLayer : ByteArray := prog_3_method_4_code
abbrev y_U_addLayer : MethodName := ⟨"OutlineCurves$Outlines", "addLayer", "(III)V"⟩
abbrev w_U_addLayer : List Cond := .code y_U_addLayer b_U_addLayer 6 none :: allW
abbrev b_O_trace : ByteArray := prog_1_method_3_code
abbrev y_O_trace : MethodName := ⟨"OutlineCurves", "trace", "(II)I"⟩
abbrev w_O_trace : List Cond := .code y_O_trace b_O_trace 4 (some .int) :: allW
abbrev b_O_requireTraced : ByteArray := prog_1_method_18_code
abbrev y_O_requireTraced : MethodName := ⟨"OutlineCurves", "requireTraced", "()V"⟩
abbrev w_O_requireTraced : List Cond := .code y_O_requireTraced b_O_requireTraced 1 none :: allW
abbrev b_O_requireIndex : ByteArray := prog_1_method_22_code
abbrev y_O_requireIndex : MethodName := ⟨"OutlineCurves", "requireIndex", "(II)V"⟩
abbrev w_O_requireIndex : List Cond := .code y_O_requireIndex b_O_requireIndex 2 none :: allW
abbrev b_U_uprightsLeftOf : ByteArray := prog_3_method_12_code
abbrev y_U_uprightsLeftOf : MethodName := ⟨"OutlineCurves$Outlines", "uprightsLeftOf", "(III)I"⟩
abbrev w_U_uprightsLeftOf : List Cond := .code y_U_uprightsLeftOf b_U_uprightsLeftOf 8 (some .int) :: allW
abbrev b_U_outlineRound : ByteArray := prog_3_method_10_code
abbrev y_U_outlineRound : MethodName := ⟨"OutlineCurves$Outlines", "outlineRound", "(I)I"⟩
abbrev w_U_outlineRound : List Cond := .code y_U_outlineRound b_U_outlineRound 9 (some .int) :: allW
abbrev b_U_length : ByteArray := prog_3_method_3_code
abbrev y_U_length : MethodName := ⟨"OutlineCurves$Outlines", "length", "(I)I"⟩
abbrev w_U_length : List Cond := .code y_U_length b_U_length 2 (some .int) :: allW
abbrev b_O_about : ByteArray := prog_1_method_4_code
abbrev y_O_about : MethodName := ⟨"OutlineCurves", "about", "(II)I"⟩
abbrev w_O_about : List Cond := .code y_O_about b_O_about 3 (some .int) :: allW
abbrev b_O_requirePoint : ByteArray := prog_1_method_19_code
abbrev y_O_requirePoint : MethodName := ⟨"OutlineCurves", "requirePoint", "(II)V"⟩
abbrev w_O_requirePoint : List Cond := .code y_O_requirePoint b_O_requirePoint 3 none :: allW
abbrev b_O_point : ByteArray := prog_1_method_5_code
abbrev y_O_point : MethodName := ⟨"OutlineCurves", "point", "(III)I"⟩
abbrev w_O_point : List Cond := .code y_O_point b_O_point 5 (some .int) :: allW
abbrev b_U_greatestLayerAt : ByteArray := prog_3_method_11_code
abbrev y_U_greatestLayerAt : MethodName := ⟨"OutlineCurves$Outlines", "greatestLayerAt", "(II)I"⟩
abbrev w_U_greatestLayerAt : List Cond := .code y_U_greatestLayerAt b_U_greatestLayerAt 6 (some .int) :: allW
abbrev b_O_covered : ByteArray := prog_1_method_6_code
abbrev y_O_covered : MethodName := ⟨"OutlineCurves", "covered", "(II)I"⟩
abbrev w_O_covered : List Cond := .code y_O_covered b_O_covered 3 (some .int) :: allW
abbrev b_U_directionBit : ByteArray := prog_3_method_14_code
abbrev y_U_directionBit : MethodName := ⟨"OutlineCurves$Outlines", "directionBit", "(II)I"⟩
abbrev w_U_directionBit : List Cond := .code y_U_directionBit b_U_directionBit 3 (some .int) :: allW
abbrev b_U_costOf : ByteArray := prog_3_method_13_code
abbrev y_U_costOf : MethodName := ⟨"OutlineCurves$Outlines", "costOf", "(IIII)I"⟩
abbrev w_U_costOf : List Cond := .code y_U_costOf b_U_costOf 17 (some .int) :: allW
abbrev b_O_piece : ByteArray := prog_1_method_7_code
abbrev y_O_piece : MethodName := ⟨"OutlineCurves", "piece", "(IIII)I"⟩
abbrev w_O_piece : List Cond := .code y_O_piece b_O_piece 5 (some .int) :: allW
abbrev b_G_weighPieces : ByteArray := prog_5_method_4_code
abbrev y_G_weighPieces : MethodName := ⟨"OutlineCurves$Polygon", "weighPieces", "(III)V"⟩
abbrev w_G_weighPieces : List Cond := .code y_G_weighPieces b_G_weighPieces 6 none :: allW
abbrev b_G_pieceCost : ByteArray := prog_5_method_5_code
abbrev y_G_pieceCost : MethodName := ⟨"OutlineCurves$Polygon", "pieceCost", "(II)I"⟩
abbrev w_G_pieceCost : List Cond := .code y_G_pieceCost b_G_pieceCost 3 (some .int) :: allW
abbrev b_G_leastThrough : ByteArray := prog_5_method_7_code
abbrev y_G_leastThrough : MethodName := ⟨"OutlineCurves$Polygon", "leastThrough", "([III)I"⟩
abbrev w_G_leastThrough : List Cond := .code y_G_leastThrough b_G_leastThrough 8 (some .int) :: allW
abbrev b_G_weighFrom : ByteArray := prog_5_method_6_code
abbrev y_G_weighFrom : MethodName := ⟨"OutlineCurves$Polygon", "weighFrom", "(II)I"⟩
abbrev w_G_weighFrom : List Cond := .code y_G_weighFrom b_G_weighFrom 6 (some .int) :: allW
abbrev b_G_earliestThrough : ByteArray := prog_5_method_9_code
abbrev y_G_earliestThrough : MethodName := ⟨"OutlineCurves$Polygon", "earliestThrough", "([IIII)I"⟩
abbrev w_G_earliestThrough : List Cond := .code y_G_earliestThrough b_G_earliestThrough 8 (some .int) :: allW
abbrev b_G_follow : ByteArray := prog_5_method_8_code
abbrev y_G_follow : MethodName := ⟨"OutlineCurves$Polygon", "follow", "(III)V"⟩
abbrev w_G_follow : List Cond := .code y_G_follow b_G_follow 7 none :: allW
abbrev b_Jm_floorMod : ByteArray := prog_13_method_50_code
abbrev y_Jm_floorMod : MethodName := ⟨"java/lang/Math", "floorMod", "(II)I"⟩
abbrev w_Jm_floorMod : List Cond := .code y_Jm_floorMod b_Jm_floorMod 3 (some .int) :: allW
abbrev b_G_cornerBeside : ByteArray := prog_5_method_12_code
abbrev y_G_cornerBeside : MethodName := ⟨"OutlineCurves$Polygon", "cornerBeside", "(II)I"⟩
abbrev w_G_cornerBeside : List Cond := .code y_G_cornerBeside b_G_cornerBeside 3 (some .int) :: allW
abbrev b_Ji_compare : ByteArray := prog_12_method_40_code
abbrev y_Ji_compare : MethodName := ⟨"java/lang/Integer", "compare", "(II)I"⟩
abbrev w_Ji_compare : List Cond := .code y_Ji_compare b_Ji_compare 2 (some .int) :: allW
abbrev b_G_measureCorner : ByteArray := prog_5_method_11_code
abbrev y_G_measureCorner : MethodName := ⟨"OutlineCurves$Polygon", "measureCorner", "(I)V"⟩
abbrev w_G_measureCorner : List Cond := .code y_G_measureCorner b_G_measureCorner 10 none :: allW
abbrev b_G_measure : ByteArray := prog_5_method_10_code
abbrev y_G_measure : MethodName := ⟨"OutlineCurves$Polygon", "measure", "(I)V"⟩
abbrev w_G_measure : List Cond := .code y_G_measure b_G_measure 4 none :: allW
abbrev b_G_find : ByteArray := prog_5_method_3_code
abbrev y_G_find : MethodName := ⟨"OutlineCurves$Polygon", "find", "(II)I"⟩
abbrev w_G_find : List Cond := .code y_G_find b_G_find 9 (some .int) :: allW
abbrev b_O_polygon : ByteArray := prog_1_method_8_code
abbrev y_O_polygon : MethodName := ⟨"OutlineCurves", "polygon", "(II)I"⟩
abbrev w_O_polygon : List Cond := .code y_O_polygon b_O_polygon 3 (some .int) :: allW
abbrev b_O_requirePolygon : ByteArray := prog_1_method_20_code
abbrev y_O_requirePolygon : MethodName := ⟨"OutlineCurves", "requirePolygon", "()V"⟩
abbrev w_O_requirePolygon : List Cond := .code y_O_requirePolygon b_O_requirePolygon 1 none :: allW
abbrev b_O_corner : ByteArray := prog_1_method_9_code
abbrev y_O_corner : MethodName := ⟨"OutlineCurves", "corner", "(II)I"⟩
abbrev w_O_corner : List Cond := .code y_O_corner b_O_corner 3 (some .int) :: allW
abbrev b_C_firstSharp : ByteArray := prog_2_method_4_code
abbrev y_C_firstSharp : MethodName := ⟨"OutlineCurves$CurveRow", "firstSharp", "(I)I"⟩
abbrev w_C_firstSharp : List Cond := .code y_C_firstSharp b_C_firstSharp 3 (some .int) :: allW
abbrev b_C_joinable : ByteArray := prog_2_method_6_code
abbrev y_C_joinable : MethodName := ⟨"OutlineCurves$CurveRow", "joinable", "(III)I"⟩
abbrev w_C_joinable : List Cond := .code y_C_joinable b_C_joinable 8 (some .int) :: allW
abbrev b_C_layOn : ByteArray := prog_2_method_10_code
abbrev y_C_layOn : MethodName := ⟨"OutlineCurves$CurveRow", "layOn", "([I[IIIIII)V"⟩
abbrev w_C_layOn : List Cond := .code y_C_layOn b_C_layOn 7 none :: allW
abbrev b_C_layHand : ByteArray := prog_2_method_9_code
abbrev y_C_layHand : MethodName := ⟨"OutlineCurves$CurveRow", "layHand", "(III)V"⟩
abbrev w_C_layHand : List Cond := .code y_C_layHand b_C_layHand 7 none :: allW
abbrev b_C_cubicAt : ByteArray := prog_2_method_11_code
abbrev y_C_cubicAt : MethodName := ⟨"OutlineCurves$CurveRow", "cubicAt", "([II)I"⟩
abbrev w_C_cubicAt : List Cond := .code y_C_cubicAt b_C_cubicAt 3 (some .int) :: allW
abbrev b_C_nearLine : ByteArray := prog_2_method_14_code
abbrev y_C_nearLine : MethodName := ⟨"OutlineCurves$CurveRow", "nearLine", "(IIIIJ)Z"⟩
abbrev w_C_nearLine : List Cond := .code y_C_nearLine b_C_nearLine 21 (some .boolean) :: allW
abbrev b_C_nearLines : ByteArray := prog_2_method_13_code
abbrev y_C_nearLines : MethodName := ⟨"OutlineCurves$CurveRow", "nearLines", "(IIIII)Z"⟩
abbrev w_C_nearLines : List Cond := .code y_C_nearLines b_C_nearLines 11 (some .boolean) :: allW
abbrev b_C_allPlacesNear : ByteArray := prog_2_method_8_code
abbrev y_C_allPlacesNear : MethodName := ⟨"OutlineCurves$CurveRow", "allPlacesNear", "(III)Z"⟩
abbrev w_C_allPlacesNear : List Cond := .code y_C_allPlacesNear b_C_allPlacesNear 5 (some .boolean) :: allW
abbrev b_C_leastPull : ByteArray := prog_2_method_7_code
abbrev y_C_leastPull : MethodName := ⟨"OutlineCurves$CurveRow", "leastPull", "(III)I"⟩
abbrev w_C_leastPull : List Cond := .code y_C_leastPull b_C_leastPull 5 (some .int) :: allW
abbrev b_C_choose : ByteArray := prog_2_method_5_code
abbrev y_C_choose : MethodName := ⟨"OutlineCurves$CurveRow", "choose", "(IIII)V"⟩
abbrev w_C_choose : List Cond := .code y_C_choose b_C_choose 10 none :: allW
abbrev b_C_make : ByteArray := prog_2_method_3_code
abbrev y_C_make : MethodName := ⟨"OutlineCurves$CurveRow", "make", "(II)I"⟩
abbrev w_C_make : List Cond := .code y_C_make b_C_make 5 (some .int) :: allW
abbrev b_O_curves : ByteArray := prog_1_method_10_code
abbrev y_O_curves : MethodName := ⟨"OutlineCurves", "curves", "(II)I"⟩
abbrev w_O_curves : List Cond := .code y_O_curves b_O_curves 3 (some .int) :: allW
abbrev b_O_requireCurve : ByteArray := prog_1_method_21_code
abbrev y_O_requireCurve : MethodName := ⟨"OutlineCurves", "requireCurve", "(I)V"⟩
abbrev w_O_requireCurve : List Cond := .code y_O_requireCurve b_O_requireCurve 2 none :: allW
abbrev b_C_ordinate : ByteArray := prog_2_method_15_code
abbrev y_C_ordinate : MethodName := ⟨"OutlineCurves$CurveRow", "ordinate", "(II)I"⟩
abbrev w_C_ordinate : List Cond := .code y_C_ordinate b_C_ordinate 4 (some .int) :: allW
abbrev b_O_curve : ByteArray := prog_1_method_11_code
abbrev y_O_curve : MethodName := ⟨"OutlineCurves", "curve", "(II)I"⟩
abbrev w_O_curve : List Cond := .code y_O_curve b_O_curve 3 (some .int) :: allW
abbrev b_C_sharpAt : ByteArray := prog_2_method_12_code
abbrev y_C_sharpAt : MethodName := ⟨"OutlineCurves$CurveRow", "sharpAt", "([II)I"⟩
abbrev w_C_sharpAt : List Cond := .code y_C_sharpAt b_C_sharpAt 3 (some .int) :: allW
abbrev b_C_placeAt : ByteArray := prog_2_method_16_code
abbrev y_C_placeAt : MethodName := ⟨"OutlineCurves$CurveRow", "placeAt", "(III)I"⟩
abbrev w_C_placeAt : List Cond := .code y_C_placeAt b_C_placeAt 5 (some .int) :: allW
abbrev b_O_place : ByteArray := prog_1_method_12_code
abbrev y_O_place : MethodName := ⟨"OutlineCurves", "place", "(III)I"⟩
abbrev w_O_place : List Cond := .code y_O_place b_O_place 4 (some .int) :: allW
abbrev b_C_isNear : ByteArray := prog_2_method_17_code
abbrev y_C_isNear : MethodName := ⟨"OutlineCurves$CurveRow", "isNear", "(III)Z"⟩
abbrev w_C_isNear : List Cond := .code y_C_isNear b_C_isNear 4 (some .boolean) :: allW
abbrev b_O_near : ByteArray := prog_1_method_13_code
abbrev y_O_near : MethodName := ⟨"OutlineCurves", "near", "(III)Z"⟩
abbrev w_O_near : List Cond := .code y_O_near b_O_near 4 (some .boolean) :: allW
abbrev b_P_coloured : ByteArray := prog_4_method_7_code
abbrev y_P_coloured : MethodName := ⟨"OutlineCurves$Picture", "coloured", "()I"⟩
abbrev w_P_coloured : List Cond := .code y_P_coloured b_P_coloured 3 (some .int) :: allW
abbrev b_O_told : ByteArray := prog_1_method_14_code
abbrev y_O_told : MethodName := ⟨"OutlineCurves", "told", "(I)I"⟩
abbrev w_O_told : List Cond := .code y_O_told b_O_told 2 (some .int) :: allW
abbrev b_P_wipe : ByteArray := prog_4_method_6_code
abbrev y_P_wipe : MethodName := ⟨"OutlineCurves$Picture", "wipe", "()V"⟩
abbrev w_P_wipe : List Cond := .code y_P_wipe b_P_wipe 1 none :: allW
abbrev b_O_clear : ByteArray := prog_1_method_15_code
abbrev y_O_clear : MethodName := ⟨"OutlineCurves", "clear", "()V"⟩
abbrev w_O_clear : List Cond := .code y_O_clear b_O_clear 1 none :: allW
abbrev b_P_sides : ByteArray := prog_4_method_2_code
abbrev y_P_sides : MethodName := ⟨"OutlineCurves$Picture", "sides", "()I"⟩
abbrev w_P_sides : List Cond := .code y_P_sides b_P_sides 1 (some .int) :: allW
abbrev b_M_thrown : ByteArray := prog_7_method_2_code
abbrev y_M_thrown : MethodName := ⟨"OutlineCurvesModel", "thrown", "()I"⟩
abbrev w_M_thrown : List Cond := .code y_M_thrown b_M_thrown 1 (some .int) :: allW
abbrev b_M_refuses : ByteArray := prog_7_method_3_code
abbrev y_M_refuses : MethodName := ⟨"OutlineCurvesModel", "refuses", "(I)Z"⟩
abbrev w_M_refuses : List Cond := .code y_M_refuses b_M_refuses 2 (some .boolean) :: allW
abbrev b_M_in : ByteArray := prog_7_method_4_code
abbrev y_M_in : MethodName := ⟨"OutlineCurvesModel", "in", "(III)Z"⟩
abbrev w_M_in : List Cond := .code y_M_in b_M_in 3 (some .boolean) :: allW
abbrev b_M_isSample : ByteArray := prog_7_method_5_code
abbrev y_M_isSample : MethodName := ⟨"OutlineCurvesModel", "isSample", "(II)Z"⟩
abbrev w_M_isSample : List Cond := .code y_M_isSample b_M_isSample 3 (some .boolean) :: allW
abbrev b_M_forget : ByteArray := prog_7_method_6_code
abbrev y_M_forget : MethodName := ⟨"OutlineCurvesModel", "forget", "()V"⟩
abbrev w_M_forget : List Cond := .code y_M_forget b_M_forget 1 none :: allW
abbrev b_M_put : ByteArray := prog_7_method_7_code
abbrev y_M_put : MethodName := ⟨"OutlineCurvesModel", "put", "(IIII)I"⟩
abbrev w_M_put : List Cond := .code y_M_put b_M_put 7 (some .int) :: allW
abbrev b_M_isInside : ByteArray := prog_7_method_8_code
abbrev y_M_isInside : MethodName := ⟨"OutlineCurvesModel", "isInside", "(III)Z"⟩
abbrev w_M_isInside : List Cond := .code y_M_isInside b_M_isInside 4 (some .boolean) :: allW
abbrev b_M_stepX : ByteArray := prog_7_method_9_code
abbrev y_M_stepX : MethodName := ⟨"OutlineCurvesModel", "stepX", "(I)I"⟩
abbrev w_M_stepX : List Cond := .code y_M_stepX b_M_stepX 1 (some .int) :: allW
abbrev b_M_stepY : ByteArray := prog_7_method_10_code
abbrev y_M_stepY : MethodName := ⟨"OutlineCurvesModel", "stepY", "(I)I"⟩
abbrev w_M_stepY : List Cond := .code y_M_stepY b_M_stepY 1 (some .int) :: allW
abbrev b_M_ahead : ByteArray := prog_7_method_11_code
abbrev y_M_ahead : MethodName := ⟨"OutlineCurvesModel", "ahead", "(IIIIZ)Z"⟩
abbrev w_M_ahead : List Cond := .code y_M_ahead b_M_ahead 8 (some .boolean) :: allW
abbrev b_M_turnsLeft : ByteArray := prog_7_method_12_code
abbrev y_M_turnsLeft : MethodName := ⟨"OutlineCurvesModel", "turnsLeft", "(IIII)Z"⟩
abbrev w_M_turnsLeft : List Cond := .code y_M_turnsLeft b_M_turnsLeft 8 (some .boolean) :: allW
abbrev b_M_next : ByteArray := prog_7_method_13_code
abbrev y_M_next : MethodName := ⟨"OutlineCurvesModel", "next", "(IIIII)I"⟩
abbrev w_M_next : List Cond := .code y_M_next b_M_next 10 (some .int) :: allW
abbrev b_M_walk : ByteArray := prog_7_method_14_code
abbrev y_M_walk : MethodName := ⟨"OutlineCurvesModel", "walk", "(IIIII)V"⟩
abbrev w_M_walk : List Cond := .code y_M_walk b_M_walk 12 none :: allW
abbrev b_M_trace : ByteArray := prog_7_method_15_code
abbrev y_M_trace : MethodName := ⟨"OutlineCurvesModel", "trace", "(II)I"⟩
abbrev w_M_trace : List Cond := .code y_M_trace b_M_trace 6 (some .int) :: allW
abbrev b_M_xAt : ByteArray := prog_7_method_16_code
abbrev y_M_xAt : MethodName := ⟨"OutlineCurvesModel", "xAt", "(II)I"⟩
abbrev w_M_xAt : List Cond := .code y_M_xAt b_M_xAt 3 (some .int) :: allW
abbrev b_M_yAt : ByteArray := prog_7_method_17_code
abbrev y_M_yAt : MethodName := ⟨"OutlineCurvesModel", "yAt", "(II)I"⟩
abbrev w_M_yAt : List Cond := .code y_M_yAt b_M_yAt 3 (some .int) :: allW
abbrev b_M_upright : ByteArray := prog_7_method_18_code
abbrev y_M_upright : MethodName := ⟨"OutlineCurvesModel", "upright", "(III)I"⟩
abbrev w_M_upright : List Cond := .code y_M_upright b_M_upright 9 (some .int) :: allW
abbrev b_M_size : ByteArray := prog_7_method_19_code
abbrev y_M_size : MethodName := ⟨"OutlineCurvesModel", "size", "(I)I"⟩
abbrev w_M_size : List Cond := .code y_M_size b_M_size 1 (some .int) :: allW
abbrev b_M_liesIn : ByteArray := prog_7_method_20_code
abbrev y_M_liesIn : MethodName := ⟨"OutlineCurvesModel", "liesIn", "(I)I"⟩
abbrev w_M_liesIn : List Cond := .code y_M_liesIn b_M_liesIn 8 (some .int) :: allW
abbrev b_M_about : ByteArray := prog_7_method_21_code
abbrev y_M_about : MethodName := ⟨"OutlineCurvesModel", "about", "(II)I"⟩
abbrev w_M_about : List Cond := .code y_M_about b_M_about 3 (some .int) :: allW
abbrev b_M_point : ByteArray := prog_7_method_22_code
abbrev y_M_point : MethodName := ⟨"OutlineCurvesModel", "point", "(III)I"⟩
abbrev w_M_point : List Cond := .code y_M_point b_M_point 5 (some .int) :: allW
abbrev b_M_covered : ByteArray := prog_7_method_23_code
abbrev y_M_covered : MethodName := ⟨"OutlineCurvesModel", "covered", "(II)I"⟩
abbrev w_M_covered : List Cond := .code y_M_covered b_M_covered 7 (some .int) :: allW
abbrev b_M_apart : ByteArray := prog_7_method_24_code
abbrev y_M_apart : MethodName := ⟨"OutlineCurvesModel", "apart", "(II)I"⟩
abbrev w_M_apart : List Cond := .code y_M_apart b_M_apart 2 (some .int) :: allW
abbrev b_M_costOf : ByteArray := prog_7_method_25_code
abbrev y_M_costOf : MethodName := ⟨"OutlineCurvesModel", "costOf", "(IIII)I"⟩
abbrev w_M_costOf : List Cond := .code y_M_costOf b_M_costOf 21 (some .int) :: allW
abbrev b_M_piece : ByteArray := prog_7_method_26_code
abbrev y_M_piece : MethodName := ⟨"OutlineCurvesModel", "piece", "(IIII)I"⟩
abbrev w_M_piece : List Cond := .code y_M_piece b_M_piece 6 (some .int) :: allW
abbrev b_M_isLess : ByteArray := prog_7_method_27_code
abbrev y_M_isLess : MethodName := ⟨"OutlineCurvesModel", "isLess", "(IIII)Z"⟩
abbrev w_M_isLess : List Cond := .code y_M_isLess b_M_isLess 4 (some .boolean) :: allW
abbrev b_M_fill : ByteArray := prog_7_method_28_code
abbrev y_M_fill : MethodName := ⟨"OutlineCurvesModel", "fill", "(III)V"⟩
abbrev w_M_fill : List Cond := .code y_M_fill b_M_fill 14 none :: allW
abbrev b_M_follows : ByteArray := prog_7_method_30_code
abbrev y_M_follows : MethodName := ⟨"OutlineCurvesModel", "follows", "(IIIIIII)Z"⟩
abbrev w_M_follows : List Cond := .code y_M_follows b_M_follows 12 (some .boolean) :: allW
abbrev b_M_polygon : ByteArray := prog_7_method_29_code
abbrev y_M_polygon : MethodName := ⟨"OutlineCurvesModel", "polygon", "(II)I"⟩
abbrev w_M_polygon : List Cond := .code y_M_polygon b_M_polygon 11 (some .int) :: allW
abbrev b_M_cornerX : ByteArray := prog_7_method_31_code
abbrev y_M_cornerX : MethodName := ⟨"OutlineCurvesModel", "cornerX", "(I)I"⟩
abbrev w_M_cornerX : List Cond := .code y_M_cornerX b_M_cornerX 2 (some .int) :: allW
abbrev b_M_cornerY : ByteArray := prog_7_method_32_code
abbrev y_M_cornerY : MethodName := ⟨"OutlineCurvesModel", "cornerY", "(I)I"⟩
abbrev w_M_cornerY : List Cond := .code y_M_cornerY b_M_cornerY 2 (some .int) :: allW
abbrev b_M_crossAt : ByteArray := prog_7_method_33_code
abbrev y_M_crossAt : MethodName := ⟨"OutlineCurvesModel", "crossAt", "(I)I"⟩
abbrev w_M_crossAt : List Cond := .code y_M_crossAt b_M_crossAt 7 (some .int) :: allW
abbrev b_M_angleAt : ByteArray := prog_7_method_34_code
abbrev y_M_angleAt : MethodName := ⟨"OutlineCurvesModel", "angleAt", "(I)I"⟩
abbrev w_M_angleAt : List Cond := .code y_M_angleAt b_M_angleAt 5 (some .int) :: allW
abbrev b_M_turnAt : ByteArray := prog_7_method_35_code
abbrev y_M_turnAt : MethodName := ⟨"OutlineCurvesModel", "turnAt", "(I)I"⟩
abbrev w_M_turnAt : List Cond := .code y_M_turnAt b_M_turnAt 3 (some .int) :: allW
abbrev b_M_corner : ByteArray := prog_7_method_36_code
abbrev y_M_corner : MethodName := ⟨"OutlineCurvesModel", "corner", "(II)I"⟩
abbrev w_M_corner : List Cond := .code y_M_corner b_M_corner 3 (some .int) :: allW
abbrev b_M_set : ByteArray := prog_7_method_37_code
abbrev y_M_set : MethodName := ⟨"OutlineCurvesModel", "set", "(III)V"⟩
abbrev w_M_set : List Cond := .code y_M_set b_M_set 7 none :: allW
abbrev b_M_along : ByteArray := prog_7_method_38_code
abbrev y_M_along : MethodName := ⟨"OutlineCurvesModel", "along", "([IIZ)I"⟩
abbrev w_M_along : List Cond := .code y_M_along b_M_along 4 (some .int) :: allW
abbrev b_M_isNearLine : ByteArray := prog_7_method_39_code
abbrev y_M_isNearLine : MethodName := ⟨"OutlineCurvesModel", "isNearLine", "(JJII)Z"⟩
abbrev w_M_isNearLine : List Cond := .code y_M_isNearLine b_M_isNearLine 29 (some .boolean) :: allW
abbrev b_M_isNear : ByteArray := prog_7_method_40_code
abbrev y_M_isNear : MethodName := ⟨"OutlineCurvesModel", "isNear", "(IIIZI)Z"⟩
abbrev w_M_isNear : List Cond := .code y_M_isNear b_M_isNear 12 (some .boolean) :: allW
abbrev b_M_fits : ByteArray := prog_7_method_41_code
abbrev y_M_fits : MethodName := ⟨"OutlineCurvesModel", "fits", "(III)Z"⟩
abbrev w_M_fits : List Cond := .code y_M_fits b_M_fits 6 (some .boolean) :: allW
abbrev b_M_isSharp : ByteArray := prog_7_method_42_code
abbrev y_M_isSharp : MethodName := ⟨"OutlineCurvesModel", "isSharp", "(I)Z"⟩
abbrev w_M_isSharp : List Cond := .code y_M_isSharp b_M_isSharp 2 (some .boolean) :: allW
abbrev b_M_joined : ByteArray := prog_7_method_43_code
abbrev y_M_joined : MethodName := ⟨"OutlineCurvesModel", "joined", "(II)I"⟩
abbrev w_M_joined : List Cond := .code y_M_joined b_M_joined 6 (some .int) :: allW
abbrev b_M_curves : ByteArray := prog_7_method_44_code
abbrev y_M_curves : MethodName := ⟨"OutlineCurvesModel", "curves", "(II)I"⟩
abbrev w_M_curves : List Cond := .code y_M_curves b_M_curves 7 (some .int) :: allW
abbrev b_M_setCurve : ByteArray := prog_7_method_45_code
abbrev y_M_setCurve : MethodName := ⟨"OutlineCurvesModel", "setCurve", "(I)V"⟩
abbrev w_M_setCurve : List Cond := .code y_M_setCurve b_M_setCurve 2 none :: allW
abbrev b_M_curve : ByteArray := prog_7_method_46_code
abbrev y_M_curve : MethodName := ⟨"OutlineCurvesModel", "curve", "(II)I"⟩
abbrev w_M_curve : List Cond := .code y_M_curve b_M_curve 3 (some .int) :: allW
abbrev b_M_place : ByteArray := prog_7_method_47_code
abbrev y_M_place : MethodName := ⟨"OutlineCurvesModel", "place", "(III)I"⟩
abbrev w_M_place : List Cond := .code y_M_place b_M_place 4 (some .int) :: allW
abbrev b_M_near : ByteArray := prog_7_method_48_code
abbrev y_M_near : MethodName := ⟨"OutlineCurvesModel", "near", "(III)Z"⟩
abbrev w_M_near : List Cond := .code y_M_near b_M_near 4 (some .boolean) :: allW
abbrev b_M_told : ByteArray := prog_7_method_49_code
abbrev y_M_told : MethodName := ⟨"OutlineCurvesModel", "told", "(I)I"⟩
abbrev w_M_told : List Cond := .code y_M_told b_M_told 4 (some .int) :: allW
abbrev b_M_clear : ByteArray := prog_7_method_50_code
abbrev y_M_clear : MethodName := ⟨"OutlineCurvesModel", "clear", "()V"⟩
abbrev w_M_clear : List Cond := .code y_M_clear b_M_clear 2 none :: allW
abbrev b_P_init : ByteArray := prog_4_method_1_code
abbrev y_P_init : MethodName := ⟨"OutlineCurves$Picture", "<init>", "(II)V"⟩
abbrev w_P_init : List Cond := .code y_P_init b_P_init 3 none :: allW
abbrev b_U_init : ByteArray := prog_3_method_1_code
abbrev y_U_init : MethodName := ⟨"OutlineCurves$Outlines", "<init>", "(LOutlineCurves$Picture;)V"⟩
abbrev w_U_init : List Cond := .code y_U_init b_U_init 4 none :: allW
abbrev b_G_init : ByteArray := prog_5_method_1_code
abbrev y_G_init : MethodName := ⟨"OutlineCurves$Polygon", "<init>", "(LOutlineCurves$Outlines;I)V"⟩
abbrev w_G_init : List Cond := .code y_G_init b_G_init 3 none :: allW
abbrev b_C_init : ByteArray := prog_2_method_1_code
abbrev y_C_init : MethodName := ⟨"OutlineCurves$CurveRow", "<init>", "(LOutlineCurves$Polygon;I)V"⟩
abbrev w_C_init : List Cond := .code y_C_init b_C_init 3 none :: allW
abbrev b_O_init : ByteArray := prog_1_method_1_code
abbrev y_O_init : MethodName := ⟨"OutlineCurves", "<init>", "(II)V"⟩
abbrev w_O_init : List Cond := .code y_O_init b_O_init 3 none :: allW
abbrev b_M_init : ByteArray := prog_7_method_1_code
abbrev y_M_init : MethodName := ⟨"OutlineCurvesModel", "<init>", "(II)V"⟩
abbrev w_M_init : List Cond := .code y_M_init b_M_init 3 none :: allW
theorem q_1 : (Jvm.Cond.initialized "OutlineCurves") ∈ allW := inT 1 (by decide +kernel) (by decide +kernel)
theorem q_2 : (Jvm.Cond.initialized "OutlineCurves$Picture") ∈ allW := inT 2 (by decide +kernel) (by decide +kernel)
theorem q_3 : (Jvm.Cond.initialized "java/lang/Math") ∈ allW := inT 3 (by decide +kernel) (by decide +kernel)
theorem q_4 : (Jvm.Cond.initialized "OutlineCurves$Outlines") ∈ allW := inT 4 (by decide +kernel) (by decide +kernel)
theorem q_5 : (Jvm.Cond.initialized "OutlineCurves$Polygon") ∈ allW := inT 5 (by decide +kernel) (by decide +kernel)
theorem q_6 : (Jvm.Cond.initialized "OutlineCurves$CurveRow") ∈ allW := inT 6 (by decide +kernel) (by decide +kernel)
theorem q_7 : (Jvm.Cond.initialized "OutlineCurvesModel") ∈ allW := inT 7 (by decide +kernel) (by decide +kernel)
theorem q_13 : (Jvm.Cond.initialized "java/util/Arrays") ∈ allW := inT 13 (by decide +kernel) (by decide +kernel)
theorem q_15 : (Jvm.Cond.initialized "java/lang/Integer") ∈ allW := inT 15 (by decide +kernel) (by decide +kernel)
theorem q_21 : (Jvm.Cond.methodLink "OutlineCurves" (1 : Nat) ({ cls := "java/lang/Object", name := "<init>", desc := "()V" } : Jvm.MethodName)) ∈ allW := inT 21 (by decide +kernel) (by decide +kernel)
theorem q_22 : (Jvm.Cond.instanceMethod ({ cls := "java/lang/Object", name := "<init>", desc := "()V" } : Jvm.MethodName)) ∈ allW := inT 22 (by decide +kernel) (by decide +kernel)
theorem q_23 : (Jvm.Cond.code ({ cls := "java/lang/Object", name := "<init>", desc := "()V" } : Jvm.MethodName) object_method_1_code (1 : Nat) (Option.none : Option Jvm.ClassFile.FieldType)) ∈ allW := inT 23 (by decide +kernel) (by decide +kernel)
theorem q_24 : (Jvm.Cond.classLink "OutlineCurves" (7 : Nat) "OutlineCurves$Picture") ∈ allW := inT 24 (by decide +kernel) (by decide +kernel)
theorem q_25 : (Jvm.Cond.instantiable "OutlineCurves$Picture" (3 : Nat)) ∈ allW := inT 25 (by decide +kernel) (by decide +kernel)
theorem q_26 : (Jvm.Cond.methodLink "OutlineCurves" (9 : Nat) ({ cls := "OutlineCurves$Picture", name := "<init>", desc := "(II)V" } : Jvm.MethodName)) ∈ allW := inT 26 (by decide +kernel) (by decide +kernel)
theorem q_27 : (Jvm.Cond.instanceMethod ({ cls := "OutlineCurves$Picture", name := "<init>", desc := "(II)V" } : Jvm.MethodName)) ∈ allW := inT 27 (by decide +kernel) (by decide +kernel)
theorem q_28 : (Jvm.Cond.code ({ cls := "OutlineCurves$Picture", name := "<init>", desc := "(II)V" } : Jvm.MethodName) prog_4_method_1_code (3 : Nat) (Option.none : Option Jvm.ClassFile.FieldType)) ∈ allW := inT 28 (by decide +kernel) (by decide +kernel)
theorem q_29 : (Jvm.Cond.methodLink "OutlineCurves$Picture" (1 : Nat) ({ cls := "java/lang/Object", name := "<init>", desc := "()V" } : Jvm.MethodName)) ∈ allW := inT 29 (by decide +kernel) (by decide +kernel)
theorem q_30 : (Jvm.Cond.methodLink "OutlineCurves$Picture" (9 : Nat) ({ cls := "java/lang/Math", name := "min", desc := "(II)I" } : Jvm.MethodName)) ∈ allW := inT 30 (by decide +kernel) (by decide +kernel)
theorem q_31 : (Jvm.Cond.static ({ cls := "java/lang/Math", name := "min", desc := "(II)I" } : Jvm.MethodName)) ∈ allW := inT 31 (by decide +kernel) (by decide +kernel)
theorem q_32 : (Jvm.Cond.code ({ cls := "java/lang/Math", name := "min", desc := "(II)I" } : Jvm.MethodName) prog_13_method_69_code (2 : Nat) (Option.some Jvm.ClassFile.FieldType.int)) ∈ allW := inT 32 (by decide +kernel) (by decide +kernel)
theorem q_33 : (Jvm.Cond.methodLink "OutlineCurves$Picture" (15 : Nat) ({ cls := "java/lang/Math", name := "max", desc := "(II)I" } : Jvm.MethodName)) ∈ allW := inT 33 (by decide +kernel) (by decide +kernel)
theorem q_34 : (Jvm.Cond.static ({ cls := "java/lang/Math", name := "max", desc := "(II)I" } : Jvm.MethodName)) ∈ allW := inT 34 (by decide +kernel) (by decide +kernel)
theorem q_35 : (Jvm.Cond.code ({ cls := "java/lang/Math", name := "max", desc := "(II)I" } : Jvm.MethodName) prog_13_method_65_code (2 : Nat) (Option.some Jvm.ClassFile.FieldType.int)) ∈ allW := inT 35 (by decide +kernel) (by decide +kernel)
theorem q_36 : (Jvm.Cond.fieldLink "OutlineCurves$Picture" (18 : Nat) "OutlineCurves$Picture" "width" "I") ∈ allW := inT 36 (by decide +kernel) (by decide +kernel)
theorem q_37 : (Jvm.Cond.fieldLink "OutlineCurves$Outlines" (38 : Nat) "OutlineCurves$Picture" "width" "I") ∈ allW := inT 37 (by decide +kernel) (by decide +kernel)
theorem q_38 : (Jvm.Cond.fieldLink "OutlineCurves" (163 : Nat) "OutlineCurves$Picture" "width" "I") ∈ allW := inT 38 (by decide +kernel) (by decide +kernel)
theorem q_39 : (Jvm.Cond.fieldLink "OutlineCurves$Picture" (22 : Nat) "OutlineCurves$Picture" "height" "I") ∈ allW := inT 39 (by decide +kernel) (by decide +kernel)
theorem q_40 : (Jvm.Cond.fieldLink "OutlineCurves$Outlines" (42 : Nat) "OutlineCurves$Picture" "height" "I") ∈ allW := inT 40 (by decide +kernel) (by decide +kernel)
theorem q_41 : (Jvm.Cond.fieldLink "OutlineCurves" (166 : Nat) "OutlineCurves$Picture" "height" "I") ∈ allW := inT 41 (by decide +kernel) (by decide +kernel)
theorem q_42 : (Jvm.Cond.fieldLink "OutlineCurves$Picture" (25 : Nat) "OutlineCurves$Picture" "colours" "[B") ∈ allW := inT 42 (by decide +kernel) (by decide +kernel)
theorem q_43 : (Jvm.Cond.laysFinal "OutlineCurves$Picture" "OutlineCurves$Picture" "width" "I") ∈ allW := inT 43 (by decide +kernel) (by decide +kernel)
theorem q_45 : (Jvm.Cond.laysFinal "OutlineCurves$Picture" "OutlineCurves$Picture" "height" "I") ∈ allW := inT 45 (by decide +kernel) (by decide +kernel)
theorem q_47 : (Jvm.Cond.laysFinal "OutlineCurves$Picture" "OutlineCurves$Picture" "colours" "[B") ∈ allW := inT 47 (by decide +kernel) (by decide +kernel)
theorem q_50 : (Jvm.Cond.arrayClass Jvm.ClassFile.FieldType.byte) ∈ allW := inT 50 (by decide +kernel) (by decide +kernel)
theorem q_51 : (Jvm.Cond.classLink "OutlineCurves" (18 : Nat) "OutlineCurves$Outlines") ∈ allW := inT 51 (by decide +kernel) (by decide +kernel)
theorem q_52 : (Jvm.Cond.instantiable "OutlineCurves$Outlines" (9 : Nat)) ∈ allW := inT 52 (by decide +kernel) (by decide +kernel)
theorem q_53 : (Jvm.Cond.methodLink "OutlineCurves" (20 : Nat) ({ cls := "OutlineCurves$Outlines", name := "<init>", desc := "(LOutlineCurves$Picture;)V" } : Jvm.MethodName)) ∈ allW := inT 53 (by decide +kernel) (by decide +kernel)
theorem q_54 : (Jvm.Cond.instanceMethod ({ cls := "OutlineCurves$Outlines", name := "<init>", desc := "(LOutlineCurves$Picture;)V" } : Jvm.MethodName)) ∈ allW := inT 54 (by decide +kernel) (by decide +kernel)
theorem q_55 : (Jvm.Cond.code ({ cls := "OutlineCurves$Outlines", name := "<init>", desc := "(LOutlineCurves$Picture;)V" } : Jvm.MethodName) prog_3_method_1_code (4 : Nat) (Option.none : Option Jvm.ClassFile.FieldType)) ∈ allW := inT 55 (by decide +kernel) (by decide +kernel)
theorem q_56 : (Jvm.Cond.methodLink "OutlineCurves$Outlines" (3 : Nat) ({ cls := "java/lang/Object", name := "<init>", desc := "()V" } : Jvm.MethodName)) ∈ allW := inT 56 (by decide +kernel) (by decide +kernel)
theorem q_57 : (Jvm.Cond.methodLink "OutlineCurves$Outlines" (15 : Nat) ({ cls := "OutlineCurves$Picture", name := "sides", desc := "()I" } : Jvm.MethodName)) ∈ allW := inT 57 (by decide +kernel) (by decide +kernel)
theorem q_58 : (Jvm.Cond.instanceMethod ({ cls := "OutlineCurves$Picture", name := "sides", desc := "()I" } : Jvm.MethodName)) ∈ allW := inT 58 (by decide +kernel) (by decide +kernel)
theorem q_59 : (Jvm.Cond.selects "OutlineCurves$Picture" ({ cls := "OutlineCurves$Picture", name := "sides", desc := "()I" } : Jvm.MethodName) ({ cls := "OutlineCurves$Picture", name := "sides", desc := "()I" } : Jvm.MethodName)) ∈ allW := inT 59 (by decide +kernel) (by decide +kernel)
theorem q_60 : (Jvm.Cond.code ({ cls := "OutlineCurves$Picture", name := "sides", desc := "()I" } : Jvm.MethodName) prog_4_method_2_code (1 : Nat) (Option.some Jvm.ClassFile.FieldType.int)) ∈ allW := inT 60 (by decide +kernel) (by decide +kernel)
theorem q_61 : (Jvm.Cond.fieldLink "OutlineCurves$Outlines" (9 : Nat) "OutlineCurves$Outlines" "picture" "LOutlineCurves$Picture;") ∈ allW := inT 61 (by decide +kernel) (by decide +kernel)
theorem q_62 : (Jvm.Cond.fieldLink "OutlineCurves$Outlines" (21 : Nat) "OutlineCurves$Outlines" "xs" "[B") ∈ allW := inT 62 (by decide +kernel) (by decide +kernel)
theorem q_63 : (Jvm.Cond.fieldLink "OutlineCurves" (100 : Nat) "OutlineCurves$Outlines" "xs" "[B") ∈ allW := inT 63 (by decide +kernel) (by decide +kernel)
theorem q_64 : (Jvm.Cond.fieldLink "OutlineCurves$Polygon" (94 : Nat) "OutlineCurves$Outlines" "xs" "[B") ∈ allW := inT 64 (by decide +kernel) (by decide +kernel)
theorem q_65 : (Jvm.Cond.fieldLink "OutlineCurves$Outlines" (25 : Nat) "OutlineCurves$Outlines" "ys" "[B") ∈ allW := inT 65 (by decide +kernel) (by decide +kernel)
theorem q_66 : (Jvm.Cond.fieldLink "OutlineCurves" (103 : Nat) "OutlineCurves$Outlines" "ys" "[B") ∈ allW := inT 66 (by decide +kernel) (by decide +kernel)
theorem q_67 : (Jvm.Cond.fieldLink "OutlineCurves$Polygon" (97 : Nat) "OutlineCurves$Outlines" "ys" "[B") ∈ allW := inT 67 (by decide +kernel) (by decide +kernel)
theorem q_68 : (Jvm.Cond.fieldLink "OutlineCurves$Outlines" (28 : Nat) "OutlineCurves$Outlines" "begins" "[I") ∈ allW := inT 68 (by decide +kernel) (by decide +kernel)
theorem q_69 : (Jvm.Cond.fieldLink "OutlineCurves" (97 : Nat) "OutlineCurves$Outlines" "begins" "[I") ∈ allW := inT 69 (by decide +kernel) (by decide +kernel)
theorem q_70 : (Jvm.Cond.fieldLink "OutlineCurves$Polygon" (91 : Nat) "OutlineCurves$Outlines" "begins" "[I") ∈ allW := inT 70 (by decide +kernel) (by decide +kernel)
theorem q_71 : (Jvm.Cond.fieldLink "OutlineCurves$Outlines" (32 : Nat) "OutlineCurves$Outlines" "layers" "[B") ∈ allW := inT 71 (by decide +kernel) (by decide +kernel)
theorem q_72 : (Jvm.Cond.fieldLink "OutlineCurves" (83 : Nat) "OutlineCurves$Outlines" "layers" "[B") ∈ allW := inT 72 (by decide +kernel) (by decide +kernel)
theorem q_73 : (Jvm.Cond.fieldLink "OutlineCurves$Outlines" (35 : Nat) "OutlineCurves$Outlines" "areas" "[I") ∈ allW := inT 73 (by decide +kernel) (by decide +kernel)
theorem q_74 : (Jvm.Cond.fieldLink "OutlineCurves" (87 : Nat) "OutlineCurves$Outlines" "areas" "[I") ∈ allW := inT 74 (by decide +kernel) (by decide +kernel)
theorem q_75 : (Jvm.Cond.fieldLink "OutlineCurves$Outlines" (45 : Nat) "OutlineCurves$Outlines" "walked" "[B") ∈ allW := inT 75 (by decide +kernel) (by decide +kernel)
theorem q_76 : (Jvm.Cond.fieldLink "OutlineCurves$Outlines" (52 : Nat) "OutlineCurves$Outlines" "count" "I") ∈ allW := inT 76 (by decide +kernel) (by decide +kernel)
theorem q_77 : (Jvm.Cond.fieldLink "OutlineCurves" (69 : Nat) "OutlineCurves$Outlines" "count" "I") ∈ allW := inT 77 (by decide +kernel) (by decide +kernel)
theorem q_78 : (Jvm.Cond.fieldLink "OutlineCurves$Outlines" (48 : Nat) "OutlineCurves$Outlines" "traced" "Z") ∈ allW := inT 78 (by decide +kernel) (by decide +kernel)
theorem q_79 : (Jvm.Cond.fieldLink "OutlineCurves" (192 : Nat) "OutlineCurves$Outlines" "traced" "Z") ∈ allW := inT 79 (by decide +kernel) (by decide +kernel)
theorem q_80 : (Jvm.Cond.laysFinal "OutlineCurves$Outlines" "OutlineCurves$Outlines" "picture" "LOutlineCurves$Picture;") ∈ allW := inT 80 (by decide +kernel) (by decide +kernel)
theorem q_82 : (Jvm.Cond.laysFinal "OutlineCurves$Outlines" "OutlineCurves$Outlines" "xs" "[B") ∈ allW := inT 82 (by decide +kernel) (by decide +kernel)
theorem q_84 : (Jvm.Cond.laysFinal "OutlineCurves$Outlines" "OutlineCurves$Outlines" "ys" "[B") ∈ allW := inT 84 (by decide +kernel) (by decide +kernel)
theorem q_86 : (Jvm.Cond.laysFinal "OutlineCurves$Outlines" "OutlineCurves$Outlines" "begins" "[I") ∈ allW := inT 86 (by decide +kernel) (by decide +kernel)
theorem q_88 : (Jvm.Cond.laysFinal "OutlineCurves$Outlines" "OutlineCurves$Outlines" "layers" "[B") ∈ allW := inT 88 (by decide +kernel) (by decide +kernel)
theorem q_90 : (Jvm.Cond.laysFinal "OutlineCurves$Outlines" "OutlineCurves$Outlines" "areas" "[I") ∈ allW := inT 90 (by decide +kernel) (by decide +kernel)
theorem q_92 : (Jvm.Cond.laysFinal "OutlineCurves$Outlines" "OutlineCurves$Outlines" "walked" "[B") ∈ allW := inT 92 (by decide +kernel) (by decide +kernel)
theorem q_94 : (Jvm.Cond.lays "OutlineCurves$Outlines" "OutlineCurves$Outlines" "count" "I") ∈ allW := inT 94 (by decide +kernel) (by decide +kernel)
theorem q_96 : (Jvm.Cond.lays "OutlineCurves$Outlines" "OutlineCurves$Outlines" "traced" "Z") ∈ allW := inT 96 (by decide +kernel) (by decide +kernel)
theorem q_99 : (Jvm.Cond.arrayClass Jvm.ClassFile.FieldType.int) ∈ allW := inT 99 (by decide +kernel) (by decide +kernel)
theorem q_p0 : (Jvm.Cond.selects "OutlineCurves" ({ cls := "OutlineCurves", name := "forgetOutlines", desc := "()V" } : Jvm.MethodName) ({ cls := "OutlineCurves", name := "forgetOutlines", desc := "()V" } : Jvm.MethodName)) ∈ allW := inP 0 (by decide +kernel) (by decide +kernel)
theorem q_p1 : (Jvm.Cond.selects "OutlineCurves" ({ cls := "OutlineCurves", name := "requireSample", desc := "(II)V" } : Jvm.MethodName) ({ cls := "OutlineCurves", name := "requireSample", desc := "(II)V" } : Jvm.MethodName)) ∈ allW := inP 1 (by decide +kernel) (by decide +kernel)
theorem q_p3 : (Jvm.Cond.selects "OutlineCurves$Outlines" ({ cls := "OutlineCurves$Outlines", name := "beginsOutline", desc := "(III)Z" } : Jvm.MethodName) ({ cls := "OutlineCurves$Outlines", name := "beginsOutline", desc := "(III)Z" } : Jvm.MethodName)) ∈ allW := inP 3 (by decide +kernel) (by decide +kernel)
theorem q_p4 : (Jvm.Cond.selects "OutlineCurves$Outlines" ({ cls := "OutlineCurves$Outlines", name := "walk", desc := "(IIII)V" } : Jvm.MethodName) ({ cls := "OutlineCurves$Outlines", name := "walk", desc := "(IIII)V" } : Jvm.MethodName)) ∈ allW := inP 4 (by decide +kernel) (by decide +kernel)
theorem q_p5 : (Jvm.Cond.selects "OutlineCurves$Outlines" ({ cls := "OutlineCurves$Outlines", name := "directionFrom", desc := "(IIIII)I" } : Jvm.MethodName) ({ cls := "OutlineCurves$Outlines", name := "directionFrom", desc := "(IIIII)I" } : Jvm.MethodName)) ∈ allW := inP 5 (by decide +kernel) (by decide +kernel)
theorem q_p6 : (Jvm.Cond.selects "OutlineCurves$Outlines" ({ cls := "OutlineCurves$Outlines", name := "turnsLeft", desc := "(IIII)Z" } : Jvm.MethodName) ({ cls := "OutlineCurves$Outlines", name := "turnsLeft", desc := "(IIII)Z" } : Jvm.MethodName)) ∈ allW := inP 6 (by decide +kernel) (by decide +kernel)
theorem q_p7 : (Jvm.Cond.selects "OutlineCurves$Outlines" ({ cls := "OutlineCurves$Outlines", name := "insideRound", desc := "(III)I" } : Jvm.MethodName) ({ cls := "OutlineCurves$Outlines", name := "insideRound", desc := "(III)I" } : Jvm.MethodName)) ∈ allW := inP 7 (by decide +kernel) (by decide +kernel)
theorem q_p8 : (Jvm.Cond.selects "OutlineCurves" ({ cls := "OutlineCurves", name := "requireTraced", desc := "()V" } : Jvm.MethodName) ({ cls := "OutlineCurves", name := "requireTraced", desc := "()V" } : Jvm.MethodName)) ∈ allW := inP 8 (by decide +kernel) (by decide +kernel)
theorem q_p9 : (Jvm.Cond.selects "OutlineCurves$Outlines" ({ cls := "OutlineCurves$Outlines", name := "uprightsLeftOf", desc := "(III)I" } : Jvm.MethodName) ({ cls := "OutlineCurves$Outlines", name := "uprightsLeftOf", desc := "(III)I" } : Jvm.MethodName)) ∈ allW := inP 9 (by decide +kernel) (by decide +kernel)
theorem q_100 : (Jvm.Cond.classLink "OutlineCurves" (27 : Nat) "OutlineCurves$Polygon") ∈ allW := inT 100 (by decide +kernel) (by decide +kernel)
theorem q_101 : (Jvm.Cond.instantiable "OutlineCurves$Polygon" (11 : Nat)) ∈ allW := inT 101 (by decide +kernel) (by decide +kernel)
theorem q_102 : (Jvm.Cond.methodLink "OutlineCurves" (29 : Nat) ({ cls := "OutlineCurves$Picture", name := "sides", desc := "()I" } : Jvm.MethodName)) ∈ allW := inT 102 (by decide +kernel) (by decide +kernel)
theorem q_103 : (Jvm.Cond.methodLink "OutlineCurves" (33 : Nat) ({ cls := "OutlineCurves$Polygon", name := "<init>", desc := "(LOutlineCurves$Outlines;I)V" } : Jvm.MethodName)) ∈ allW := inT 103 (by decide +kernel) (by decide +kernel)
theorem q_104 : (Jvm.Cond.instanceMethod ({ cls := "OutlineCurves$Polygon", name := "<init>", desc := "(LOutlineCurves$Outlines;I)V" } : Jvm.MethodName)) ∈ allW := inT 104 (by decide +kernel) (by decide +kernel)
theorem q_105 : (Jvm.Cond.code ({ cls := "OutlineCurves$Polygon", name := "<init>", desc := "(LOutlineCurves$Outlines;I)V" } : Jvm.MethodName) prog_5_method_1_code (3 : Nat) (Option.none : Option Jvm.ClassFile.FieldType)) ∈ allW := inT 105 (by decide +kernel) (by decide +kernel)
theorem q_106 : (Jvm.Cond.methodLink "OutlineCurves$Polygon" (3 : Nat) ({ cls := "java/lang/Object", name := "<init>", desc := "()V" } : Jvm.MethodName)) ∈ allW := inT 106 (by decide +kernel) (by decide +kernel)
theorem q_107 : (Jvm.Cond.fieldLink "OutlineCurves$Polygon" (9 : Nat) "OutlineCurves$Polygon" "outlines" "LOutlineCurves$Outlines;") ∈ allW := inT 107 (by decide +kernel) (by decide +kernel)
theorem q_108 : (Jvm.Cond.fieldLink "OutlineCurves$Polygon" (15 : Nat) "OutlineCurves$Polygon" "costs" "[I") ∈ allW := inT 108 (by decide +kernel) (by decide +kernel)
theorem q_109 : (Jvm.Cond.fieldLink "OutlineCurves$Polygon" (19 : Nat) "OutlineCurves$Polygon" "rest" "[I") ∈ allW := inT 109 (by decide +kernel) (by decide +kernel)
theorem q_110 : (Jvm.Cond.fieldLink "OutlineCurves$Polygon" (22 : Nat) "OutlineCurves$Polygon" "restByTwo" "[I") ∈ allW := inT 110 (by decide +kernel) (by decide +kernel)
theorem q_111 : (Jvm.Cond.fieldLink "OutlineCurves$Polygon" (25 : Nat) "OutlineCurves$Polygon" "points" "[I") ∈ allW := inT 111 (by decide +kernel) (by decide +kernel)
theorem q_112 : (Jvm.Cond.fieldLink "OutlineCurves" (123 : Nat) "OutlineCurves$Polygon" "points" "[I") ∈ allW := inT 112 (by decide +kernel) (by decide +kernel)
theorem q_113 : (Jvm.Cond.fieldLink "OutlineCurves$Polygon" (28 : Nat) "OutlineCurves$Polygon" "xs" "[I") ∈ allW := inT 113 (by decide +kernel) (by decide +kernel)
theorem q_114 : (Jvm.Cond.fieldLink "OutlineCurves$CurveRow" (99 : Nat) "OutlineCurves$Polygon" "xs" "[I") ∈ allW := inT 114 (by decide +kernel) (by decide +kernel)
theorem q_115 : (Jvm.Cond.fieldLink "OutlineCurves" (126 : Nat) "OutlineCurves$Polygon" "xs" "[I") ∈ allW := inT 115 (by decide +kernel) (by decide +kernel)
theorem q_116 : (Jvm.Cond.fieldLink "OutlineCurves$Polygon" (31 : Nat) "OutlineCurves$Polygon" "ys" "[I") ∈ allW := inT 116 (by decide +kernel) (by decide +kernel)
theorem q_117 : (Jvm.Cond.fieldLink "OutlineCurves$CurveRow" (106 : Nat) "OutlineCurves$Polygon" "ys" "[I") ∈ allW := inT 117 (by decide +kernel) (by decide +kernel)
theorem q_118 : (Jvm.Cond.fieldLink "OutlineCurves" (128 : Nat) "OutlineCurves$Polygon" "ys" "[I") ∈ allW := inT 118 (by decide +kernel) (by decide +kernel)
theorem q_119 : (Jvm.Cond.fieldLink "OutlineCurves$Polygon" (34 : Nat) "OutlineCurves$Polygon" "angles" "[I") ∈ allW := inT 119 (by decide +kernel) (by decide +kernel)
theorem q_120 : (Jvm.Cond.fieldLink "OutlineCurves$CurveRow" (64 : Nat) "OutlineCurves$Polygon" "angles" "[I") ∈ allW := inT 120 (by decide +kernel) (by decide +kernel)
theorem q_121 : (Jvm.Cond.fieldLink "OutlineCurves" (130 : Nat) "OutlineCurves$Polygon" "angles" "[I") ∈ allW := inT 121 (by decide +kernel) (by decide +kernel)
theorem q_122 : (Jvm.Cond.fieldLink "OutlineCurves$Polygon" (37 : Nat) "OutlineCurves$Polygon" "turns" "[I") ∈ allW := inT 122 (by decide +kernel) (by decide +kernel)
theorem q_123 : (Jvm.Cond.fieldLink "OutlineCurves$CurveRow" (77 : Nat) "OutlineCurves$Polygon" "turns" "[I") ∈ allW := inT 123 (by decide +kernel) (by decide +kernel)
theorem q_124 : (Jvm.Cond.fieldLink "OutlineCurves" (133 : Nat) "OutlineCurves$Polygon" "turns" "[I") ∈ allW := inT 124 (by decide +kernel) (by decide +kernel)
theorem q_125 : (Jvm.Cond.fieldLink "OutlineCurves$Polygon" (40 : Nat) "OutlineCurves$Polygon" "count" "I") ∈ allW := inT 125 (by decide +kernel) (by decide +kernel)
theorem q_126 : (Jvm.Cond.fieldLink "OutlineCurves$CurveRow" (48 : Nat) "OutlineCurves$Polygon" "count" "I") ∈ allW := inT 126 (by decide +kernel) (by decide +kernel)
theorem q_127 : (Jvm.Cond.fieldLink "OutlineCurves" (122 : Nat) "OutlineCurves$Polygon" "count" "I") ∈ allW := inT 127 (by decide +kernel) (by decide +kernel)
theorem q_128 : (Jvm.Cond.fieldLink "OutlineCurves$Polygon" (44 : Nat) "OutlineCurves$Polygon" "cost" "I") ∈ allW := inT 128 (by decide +kernel) (by decide +kernel)
theorem q_129 : (Jvm.Cond.fieldLink "OutlineCurves" (172 : Nat) "OutlineCurves$Polygon" "cost" "I") ∈ allW := inT 129 (by decide +kernel) (by decide +kernel)
theorem q_130 : (Jvm.Cond.laysFinal "OutlineCurves$Polygon" "OutlineCurves$Polygon" "outlines" "LOutlineCurves$Outlines;") ∈ allW := inT 130 (by decide +kernel) (by decide +kernel)
theorem q_132 : (Jvm.Cond.laysFinal "OutlineCurves$Polygon" "OutlineCurves$Polygon" "costs" "[I") ∈ allW := inT 132 (by decide +kernel) (by decide +kernel)
theorem q_134 : (Jvm.Cond.laysFinal "OutlineCurves$Polygon" "OutlineCurves$Polygon" "rest" "[I") ∈ allW := inT 134 (by decide +kernel) (by decide +kernel)
theorem q_136 : (Jvm.Cond.laysFinal "OutlineCurves$Polygon" "OutlineCurves$Polygon" "restByTwo" "[I") ∈ allW := inT 136 (by decide +kernel) (by decide +kernel)
theorem q_138 : (Jvm.Cond.laysFinal "OutlineCurves$Polygon" "OutlineCurves$Polygon" "points" "[I") ∈ allW := inT 138 (by decide +kernel) (by decide +kernel)
theorem q_140 : (Jvm.Cond.laysFinal "OutlineCurves$Polygon" "OutlineCurves$Polygon" "xs" "[I") ∈ allW := inT 140 (by decide +kernel) (by decide +kernel)
theorem q_142 : (Jvm.Cond.laysFinal "OutlineCurves$Polygon" "OutlineCurves$Polygon" "ys" "[I") ∈ allW := inT 142 (by decide +kernel) (by decide +kernel)
theorem q_144 : (Jvm.Cond.laysFinal "OutlineCurves$Polygon" "OutlineCurves$Polygon" "angles" "[I") ∈ allW := inT 144 (by decide +kernel) (by decide +kernel)
theorem q_146 : (Jvm.Cond.laysFinal "OutlineCurves$Polygon" "OutlineCurves$Polygon" "turns" "[I") ∈ allW := inT 146 (by decide +kernel) (by decide +kernel)
theorem q_148 : (Jvm.Cond.lays "OutlineCurves$Polygon" "OutlineCurves$Polygon" "count" "I") ∈ allW := inT 148 (by decide +kernel) (by decide +kernel)
theorem q_150 : (Jvm.Cond.lays "OutlineCurves$Polygon" "OutlineCurves$Polygon" "cost" "I") ∈ allW := inT 150 (by decide +kernel) (by decide +kernel)
theorem q_153 : (Jvm.Cond.classLink "OutlineCurves" (40 : Nat) "OutlineCurves$CurveRow") ∈ allW := inT 153 (by decide +kernel) (by decide +kernel)
theorem q_154 : (Jvm.Cond.instantiable "OutlineCurves$CurveRow" (10 : Nat)) ∈ allW := inT 154 (by decide +kernel) (by decide +kernel)
theorem q_155 : (Jvm.Cond.methodLink "OutlineCurves" (42 : Nat) ({ cls := "OutlineCurves$CurveRow", name := "<init>", desc := "(LOutlineCurves$Polygon;I)V" } : Jvm.MethodName)) ∈ allW := inT 155 (by decide +kernel) (by decide +kernel)
theorem q_156 : (Jvm.Cond.instanceMethod ({ cls := "OutlineCurves$CurveRow", name := "<init>", desc := "(LOutlineCurves$Polygon;I)V" } : Jvm.MethodName)) ∈ allW := inT 156 (by decide +kernel) (by decide +kernel)
theorem q_157 : (Jvm.Cond.code ({ cls := "OutlineCurves$CurveRow", name := "<init>", desc := "(LOutlineCurves$Polygon;I)V" } : Jvm.MethodName) prog_2_method_1_code (3 : Nat) (Option.none : Option Jvm.ClassFile.FieldType)) ∈ allW := inT 157 (by decide +kernel) (by decide +kernel)
theorem q_158 : (Jvm.Cond.methodLink "OutlineCurves$CurveRow" (5 : Nat) ({ cls := "java/lang/Object", name := "<init>", desc := "()V" } : Jvm.MethodName)) ∈ allW := inT 158 (by decide +kernel) (by decide +kernel)
theorem q_159 : (Jvm.Cond.fieldLink "OutlineCurves$CurveRow" (18 : Nat) "OutlineCurves$CurveRow" "polygon" "LOutlineCurves$Polygon;") ∈ allW := inT 159 (by decide +kernel) (by decide +kernel)
theorem q_160 : (Jvm.Cond.fieldLink "OutlineCurves$CurveRow" (22 : Nat) "OutlineCurves$CurveRow" "fewest" "[I") ∈ allW := inT 160 (by decide +kernel) (by decide +kernel)
theorem q_161 : (Jvm.Cond.fieldLink "OutlineCurves$CurveRow" (25 : Nat) "OutlineCurves$CurveRow" "takenLengths" "[I") ∈ allW := inT 161 (by decide +kernel) (by decide +kernel)
theorem q_162 : (Jvm.Cond.fieldLink "OutlineCurves$CurveRow" (28 : Nat) "OutlineCurves$CurveRow" "takenPulls" "[I") ∈ allW := inT 162 (by decide +kernel) (by decide +kernel)
theorem q_163 : (Jvm.Cond.fieldLink "OutlineCurves$CurveRow" (31 : Nat) "OutlineCurves$CurveRow" "firsts" "[I") ∈ allW := inT 163 (by decide +kernel) (by decide +kernel)
theorem q_164 : (Jvm.Cond.fieldLink "OutlineCurves" (143 : Nat) "OutlineCurves$CurveRow" "firsts" "[I") ∈ allW := inT 164 (by decide +kernel) (by decide +kernel)
theorem q_165 : (Jvm.Cond.fieldLink "OutlineCurves$CurveRow" (34 : Nat) "OutlineCurves$CurveRow" "lengths" "[I") ∈ allW := inT 165 (by decide +kernel) (by decide +kernel)
theorem q_166 : (Jvm.Cond.fieldLink "OutlineCurves" (146 : Nat) "OutlineCurves$CurveRow" "lengths" "[I") ∈ allW := inT 166 (by decide +kernel) (by decide +kernel)
theorem q_167 : (Jvm.Cond.fieldLink "OutlineCurves$CurveRow" (37 : Nat) "OutlineCurves$CurveRow" "pulls" "[I") ∈ allW := inT 167 (by decide +kernel) (by decide +kernel)
theorem q_168 : (Jvm.Cond.fieldLink "OutlineCurves" (149 : Nat) "OutlineCurves$CurveRow" "pulls" "[I") ∈ allW := inT 168 (by decide +kernel) (by decide +kernel)
theorem q_169 : (Jvm.Cond.fieldLink "OutlineCurves$CurveRow" (11 : Nat) "OutlineCurves$CurveRow" "handX" "[I") ∈ allW := inT 169 (by decide +kernel) (by decide +kernel)
theorem q_170 : (Jvm.Cond.fieldLink "OutlineCurves$CurveRow" (15 : Nat) "OutlineCurves$CurveRow" "handY" "[I") ∈ allW := inT 170 (by decide +kernel) (by decide +kernel)
theorem q_171 : (Jvm.Cond.fieldLink "OutlineCurves$CurveRow" (40 : Nat) "OutlineCurves$CurveRow" "count" "I") ∈ allW := inT 171 (by decide +kernel) (by decide +kernel)
theorem q_172 : (Jvm.Cond.fieldLink "OutlineCurves" (175 : Nat) "OutlineCurves$CurveRow" "count" "I") ∈ allW := inT 172 (by decide +kernel) (by decide +kernel)
theorem q_173 : (Jvm.Cond.laysFinal "OutlineCurves$CurveRow" "OutlineCurves$CurveRow" "polygon" "LOutlineCurves$Polygon;") ∈ allW := inT 173 (by decide +kernel) (by decide +kernel)
theorem q_175 : (Jvm.Cond.laysFinal "OutlineCurves$CurveRow" "OutlineCurves$CurveRow" "fewest" "[I") ∈ allW := inT 175 (by decide +kernel) (by decide +kernel)
theorem q_177 : (Jvm.Cond.laysFinal "OutlineCurves$CurveRow" "OutlineCurves$CurveRow" "takenLengths" "[I") ∈ allW := inT 177 (by decide +kernel) (by decide +kernel)
theorem q_179 : (Jvm.Cond.laysFinal "OutlineCurves$CurveRow" "OutlineCurves$CurveRow" "takenPulls" "[I") ∈ allW := inT 179 (by decide +kernel) (by decide +kernel)
theorem q_181 : (Jvm.Cond.laysFinal "OutlineCurves$CurveRow" "OutlineCurves$CurveRow" "firsts" "[I") ∈ allW := inT 181 (by decide +kernel) (by decide +kernel)
theorem q_183 : (Jvm.Cond.laysFinal "OutlineCurves$CurveRow" "OutlineCurves$CurveRow" "lengths" "[I") ∈ allW := inT 183 (by decide +kernel) (by decide +kernel)
theorem q_185 : (Jvm.Cond.laysFinal "OutlineCurves$CurveRow" "OutlineCurves$CurveRow" "pulls" "[I") ∈ allW := inT 185 (by decide +kernel) (by decide +kernel)
theorem q_187 : (Jvm.Cond.laysFinal "OutlineCurves$CurveRow" "OutlineCurves$CurveRow" "handX" "[I") ∈ allW := inT 187 (by decide +kernel) (by decide +kernel)
theorem q_189 : (Jvm.Cond.laysFinal "OutlineCurves$CurveRow" "OutlineCurves$CurveRow" "handY" "[I") ∈ allW := inT 189 (by decide +kernel) (by decide +kernel)
theorem q_191 : (Jvm.Cond.lays "OutlineCurves$CurveRow" "OutlineCurves$CurveRow" "count" "I") ∈ allW := inT 191 (by decide +kernel) (by decide +kernel)
theorem q_194 : (Jvm.Cond.fieldLink "OutlineCurves" (12 : Nat) "OutlineCurves" "picture" "LOutlineCurves$Picture;") ∈ allW := inT 194 (by decide +kernel) (by decide +kernel)
theorem q_195 : (Jvm.Cond.fieldLink "OutlineCurves" (23 : Nat) "OutlineCurves" "outlines" "LOutlineCurves$Outlines;") ∈ allW := inT 195 (by decide +kernel) (by decide +kernel)
theorem q_196 : (Jvm.Cond.fieldLink "OutlineCurves" (36 : Nat) "OutlineCurves" "shape" "LOutlineCurves$Polygon;") ∈ allW := inT 196 (by decide +kernel) (by decide +kernel)
theorem q_197 : (Jvm.Cond.fieldLink "OutlineCurves" (45 : Nat) "OutlineCurves" "row" "LOutlineCurves$CurveRow;") ∈ allW := inT 197 (by decide +kernel) (by decide +kernel)
theorem q_198 : (Jvm.Cond.laysFinal "OutlineCurves" "OutlineCurves" "picture" "LOutlineCurves$Picture;") ∈ allW := inT 198 (by decide +kernel) (by decide +kernel)
theorem q_200 : (Jvm.Cond.laysFinal "OutlineCurves" "OutlineCurves" "outlines" "LOutlineCurves$Outlines;") ∈ allW := inT 200 (by decide +kernel) (by decide +kernel)
theorem q_202 : (Jvm.Cond.laysFinal "OutlineCurves" "OutlineCurves" "shape" "LOutlineCurves$Polygon;") ∈ allW := inT 202 (by decide +kernel) (by decide +kernel)
theorem q_204 : (Jvm.Cond.laysFinal "OutlineCurves" "OutlineCurves" "row" "LOutlineCurves$CurveRow;") ∈ allW := inT 204 (by decide +kernel) (by decide +kernel)
theorem q_211 : (Jvm.Cond.methodLink "OutlineCurves" (169 : Nat) ({ cls := "OutlineCurves$Picture", name := "coloured", desc := "()I" } : Jvm.MethodName)) ∈ allW := inT 211 (by decide +kernel) (by decide +kernel)
theorem q_212 : (Jvm.Cond.instanceMethod ({ cls := "OutlineCurves$Picture", name := "coloured", desc := "()I" } : Jvm.MethodName)) ∈ allW := inT 212 (by decide +kernel) (by decide +kernel)
theorem q_213 : (Jvm.Cond.selects "OutlineCurves$Picture" ({ cls := "OutlineCurves$Picture", name := "coloured", desc := "()I" } : Jvm.MethodName) ({ cls := "OutlineCurves$Picture", name := "coloured", desc := "()I" } : Jvm.MethodName)) ∈ allW := inT 213 (by decide +kernel) (by decide +kernel)
theorem q_214 : (Jvm.Cond.code ({ cls := "OutlineCurves$Picture", name := "coloured", desc := "()I" } : Jvm.MethodName) prog_4_method_7_code (3 : Nat) (Option.some Jvm.ClassFile.FieldType.int)) ∈ allW := inT 214 (by decide +kernel) (by decide +kernel)
theorem q_219 : (Jvm.Cond.methodLink "OutlineCurves" (176 : Nat) ({ cls := "OutlineCurves$Picture", name := "wipe", desc := "()V" } : Jvm.MethodName)) ∈ allW := inT 219 (by decide +kernel) (by decide +kernel)
theorem q_220 : (Jvm.Cond.instanceMethod ({ cls := "OutlineCurves$Picture", name := "wipe", desc := "()V" } : Jvm.MethodName)) ∈ allW := inT 220 (by decide +kernel) (by decide +kernel)
theorem q_221 : (Jvm.Cond.selects "OutlineCurves$Picture" ({ cls := "OutlineCurves$Picture", name := "wipe", desc := "()V" } : Jvm.MethodName) ({ cls := "OutlineCurves$Picture", name := "wipe", desc := "()V" } : Jvm.MethodName)) ∈ allW := inT 221 (by decide +kernel) (by decide +kernel)
theorem q_222 : (Jvm.Cond.code ({ cls := "OutlineCurves$Picture", name := "wipe", desc := "()V" } : Jvm.MethodName) prog_4_method_6_code (1 : Nat) (Option.none : Option Jvm.ClassFile.FieldType)) ∈ allW := inT 222 (by decide +kernel) (by decide +kernel)
theorem q_223 : (Jvm.Cond.methodLink "OutlineCurves$Picture" (33 : Nat) ({ cls := "java/util/Arrays", name := "fill", desc := "([BB)V" } : Jvm.MethodName)) ∈ allW := inT 223 (by decide +kernel) (by decide +kernel)
theorem q_224 : (Jvm.Cond.static ({ cls := "java/util/Arrays", name := "fill", desc := "([BB)V" } : Jvm.MethodName)) ∈ allW := inT 224 (by decide +kernel) (by decide +kernel)
theorem q_225 : (Jvm.Cond.code ({ cls := "java/util/Arrays", name := "fill", desc := "([BB)V" } : Jvm.MethodName) prog_17_method_109_code (4 : Nat) (Option.none : Option Jvm.ClassFile.FieldType)) ∈ allW := inT 225 (by decide +kernel) (by decide +kernel)
theorem q_226 : (Jvm.Cond.methodLink "OutlineCurves" (63 : Nat) ({ cls := "OutlineCurves", name := "forgetOutlines", desc := "()V" } : Jvm.MethodName)) ∈ allW := inT 226 (by decide +kernel) (by decide +kernel)
theorem q_228 : (Jvm.Cond.instanceMethod ({ cls := "OutlineCurves", name := "forgetOutlines", desc := "()V" } : Jvm.MethodName)) ∈ allW := inT 228 (by decide +kernel) (by decide +kernel)
theorem q_229 : (Jvm.Cond.code ({ cls := "OutlineCurves", name := "forgetOutlines", desc := "()V" } : Jvm.MethodName) prog_1_method_16_code (1 : Nat) (Option.none : Option Jvm.ClassFile.FieldType)) ∈ allW := inT 229 (by decide +kernel) (by decide +kernel)
theorem q_230 : (Jvm.Cond.methodLink "OutlineCurves" (179 : Nat) ({ cls := "OutlineCurves$Outlines", name := "forget", desc := "()V" } : Jvm.MethodName)) ∈ allW := inT 230 (by decide +kernel) (by decide +kernel)
theorem q_231 : (Jvm.Cond.instanceMethod ({ cls := "OutlineCurves$Outlines", name := "forget", desc := "()V" } : Jvm.MethodName)) ∈ allW := inT 231 (by decide +kernel) (by decide +kernel)
theorem q_232 : (Jvm.Cond.selects "OutlineCurves$Outlines" ({ cls := "OutlineCurves$Outlines", name := "forget", desc := "()V" } : Jvm.MethodName) ({ cls := "OutlineCurves$Outlines", name := "forget", desc := "()V" } : Jvm.MethodName)) ∈ allW := inT 232 (by decide +kernel) (by decide +kernel)
theorem q_233 : (Jvm.Cond.code ({ cls := "OutlineCurves$Outlines", name := "forget", desc := "()V" } : Jvm.MethodName) prog_3_method_2_code (1 : Nat) (Option.none : Option Jvm.ClassFile.FieldType)) ∈ allW := inT 233 (by decide +kernel) (by decide +kernel)
theorem q_234 : (Jvm.Cond.methodLink "OutlineCurves" (180 : Nat) ({ cls := "OutlineCurves$Polygon", name := "forget", desc := "()V" } : Jvm.MethodName)) ∈ allW := inT 234 (by decide +kernel) (by decide +kernel)
theorem q_235 : (Jvm.Cond.instanceMethod ({ cls := "OutlineCurves$Polygon", name := "forget", desc := "()V" } : Jvm.MethodName)) ∈ allW := inT 235 (by decide +kernel) (by decide +kernel)
theorem q_236 : (Jvm.Cond.selects "OutlineCurves$Polygon" ({ cls := "OutlineCurves$Polygon", name := "forget", desc := "()V" } : Jvm.MethodName) ({ cls := "OutlineCurves$Polygon", name := "forget", desc := "()V" } : Jvm.MethodName)) ∈ allW := inT 236 (by decide +kernel) (by decide +kernel)
theorem q_237 : (Jvm.Cond.code ({ cls := "OutlineCurves$Polygon", name := "forget", desc := "()V" } : Jvm.MethodName) prog_5_method_2_code (1 : Nat) (Option.none : Option Jvm.ClassFile.FieldType)) ∈ allW := inT 237 (by decide +kernel) (by decide +kernel)
theorem q_238 : (Jvm.Cond.methodLink "OutlineCurves" (113 : Nat) ({ cls := "OutlineCurves$CurveRow", name := "forget", desc := "()V" } : Jvm.MethodName)) ∈ allW := inT 238 (by decide +kernel) (by decide +kernel)
theorem q_239 : (Jvm.Cond.instanceMethod ({ cls := "OutlineCurves$CurveRow", name := "forget", desc := "()V" } : Jvm.MethodName)) ∈ allW := inT 239 (by decide +kernel) (by decide +kernel)
theorem q_240 : (Jvm.Cond.selects "OutlineCurves$CurveRow" ({ cls := "OutlineCurves$CurveRow", name := "forget", desc := "()V" } : Jvm.MethodName) ({ cls := "OutlineCurves$CurveRow", name := "forget", desc := "()V" } : Jvm.MethodName)) ∈ allW := inT 240 (by decide +kernel) (by decide +kernel)
theorem q_241 : (Jvm.Cond.code ({ cls := "OutlineCurves$CurveRow", name := "forget", desc := "()V" } : Jvm.MethodName) prog_2_method_2_code (1 : Nat) (Option.none : Option Jvm.ClassFile.FieldType)) ∈ allW := inT 241 (by decide +kernel) (by decide +kernel)
theorem q_254 : (Jvm.Cond.methodLink "OutlineCurves" (49 : Nat) ({ cls := "OutlineCurves", name := "requireSample", desc := "(II)V" } : Jvm.MethodName)) ∈ allW := inT 254 (by decide +kernel) (by decide +kernel)
theorem q_256 : (Jvm.Cond.instanceMethod ({ cls := "OutlineCurves", name := "requireSample", desc := "(II)V" } : Jvm.MethodName)) ∈ allW := inT 256 (by decide +kernel) (by decide +kernel)
theorem q_257 : (Jvm.Cond.code ({ cls := "OutlineCurves", name := "requireSample", desc := "(II)V" } : Jvm.MethodName) prog_1_method_17_code (3 : Nat) (Option.none : Option Jvm.ClassFile.FieldType)) ∈ allW := inT 257 (by decide +kernel) (by decide +kernel)
theorem q_258 : (Jvm.Cond.methodLink "OutlineCurves" (181 : Nat) ({ cls := "OutlineCurves$Picture", name := "has", desc := "(II)Z" } : Jvm.MethodName)) ∈ allW := inT 258 (by decide +kernel) (by decide +kernel)
theorem q_259 : (Jvm.Cond.instanceMethod ({ cls := "OutlineCurves$Picture", name := "has", desc := "(II)Z" } : Jvm.MethodName)) ∈ allW := inT 259 (by decide +kernel) (by decide +kernel)
theorem q_260 : (Jvm.Cond.selects "OutlineCurves$Picture" ({ cls := "OutlineCurves$Picture", name := "has", desc := "(II)Z" } : Jvm.MethodName) ({ cls := "OutlineCurves$Picture", name := "has", desc := "(II)Z" } : Jvm.MethodName)) ∈ allW := inT 260 (by decide +kernel) (by decide +kernel)
theorem q_261 : (Jvm.Cond.code ({ cls := "OutlineCurves$Picture", name := "has", desc := "(II)Z" } : Jvm.MethodName) prog_4_method_3_code (3 : Nat) (Option.some Jvm.ClassFile.FieldType.boolean)) ∈ allW := inT 261 (by decide +kernel) (by decide +kernel)
theorem q_329 : (Jvm.Cond.constant "OutlineCurves" (54 : Nat) (2147483647 : Int32)) ∈ allW := inT 329 (by decide +kernel) (by decide +kernel)
theorem q_330 : (Jvm.Cond.methodLink "OutlineCurves" (55 : Nat) ({ cls := "OutlineCurves", name := "requireRange", desc := "(III)V" } : Jvm.MethodName)) ∈ allW := inT 330 (by decide +kernel) (by decide +kernel)
theorem q_331 : (Jvm.Cond.static ({ cls := "OutlineCurves", name := "requireRange", desc := "(III)V" } : Jvm.MethodName)) ∈ allW := inT 331 (by decide +kernel) (by decide +kernel)
theorem q_332 : (Jvm.Cond.code ({ cls := "OutlineCurves", name := "requireRange", desc := "(III)V" } : Jvm.MethodName) prog_1_method_23_code (3 : Nat) (Option.none : Option Jvm.ClassFile.FieldType)) ∈ allW := inT 332 (by decide +kernel) (by decide +kernel)
theorem q_349 : (Jvm.Cond.methodLink "OutlineCurves" (59 : Nat) ({ cls := "OutlineCurves$Picture", name := "paint", desc := "(IIII)I" } : Jvm.MethodName)) ∈ allW := inT 349 (by decide +kernel) (by decide +kernel)
theorem q_350 : (Jvm.Cond.instanceMethod ({ cls := "OutlineCurves$Picture", name := "paint", desc := "(IIII)I" } : Jvm.MethodName)) ∈ allW := inT 350 (by decide +kernel) (by decide +kernel)
theorem q_351 : (Jvm.Cond.selects "OutlineCurves$Picture" ({ cls := "OutlineCurves$Picture", name := "paint", desc := "(IIII)I" } : Jvm.MethodName) ({ cls := "OutlineCurves$Picture", name := "paint", desc := "(IIII)I" } : Jvm.MethodName)) ∈ allW := inT 351 (by decide +kernel) (by decide +kernel)
theorem q_352 : (Jvm.Cond.code ({ cls := "OutlineCurves$Picture", name := "paint", desc := "(IIII)I" } : Jvm.MethodName) prog_4_method_5_code (9 : Nat) (Option.some Jvm.ClassFile.FieldType.int)) ∈ allW := inT 352 (by decide +kernel) (by decide +kernel)
theorem q_360 : (Jvm.Cond.methodLink "OutlineCurves" (66 : Nat) ({ cls := "OutlineCurves$Outlines", name := "addLayer", desc := "(III)V" } : Jvm.MethodName)) ∈ allW := inT 360 (by decide +kernel) (by decide +kernel)
theorem q_361 : (Jvm.Cond.instanceMethod ({ cls := "OutlineCurves$Outlines", name := "addLayer", desc := "(III)V" } : Jvm.MethodName)) ∈ allW := inT 361 (by decide +kernel) (by decide +kernel)
theorem q_362 : (Jvm.Cond.selects "OutlineCurves$Outlines" ({ cls := "OutlineCurves$Outlines", name := "addLayer", desc := "(III)V" } : Jvm.MethodName) ({ cls := "OutlineCurves$Outlines", name := "addLayer", desc := "(III)V" } : Jvm.MethodName)) ∈ allW := inT 362 (by decide +kernel) (by decide +kernel)
theorem q_363 : (Jvm.Cond.code ({ cls := "OutlineCurves$Outlines", name := "addLayer", desc := "(III)V" } : Jvm.MethodName) prog_3_method_4_code (6 : Nat) (Option.none : Option Jvm.ClassFile.FieldType)) ∈ allW := inT 363 (by decide +kernel) (by decide +kernel)
theorem q_364 : (Jvm.Cond.methodLink "OutlineCurves$Outlines" (55 : Nat) ({ cls := "java/util/Arrays", name := "fill", desc := "([BB)V" } : Jvm.MethodName)) ∈ allW := inT 364 (by decide +kernel) (by decide +kernel)
theorem q_365 : (Jvm.Cond.methodLink "OutlineCurves$Outlines" (61 : Nat) ({ cls := "OutlineCurves$Outlines", name := "beginsOutline", desc := "(III)Z" } : Jvm.MethodName)) ∈ allW := inT 365 (by decide +kernel) (by decide +kernel)
theorem q_367 : (Jvm.Cond.instanceMethod ({ cls := "OutlineCurves$Outlines", name := "beginsOutline", desc := "(III)Z" } : Jvm.MethodName)) ∈ allW := inT 367 (by decide +kernel) (by decide +kernel)
theorem q_368 : (Jvm.Cond.code ({ cls := "OutlineCurves$Outlines", name := "beginsOutline", desc := "(III)Z" } : Jvm.MethodName) prog_3_method_5_code (4 : Nat) (Option.some Jvm.ClassFile.FieldType.boolean)) ∈ allW := inT 368 (by decide +kernel) (by decide +kernel)
theorem q_369 : (Jvm.Cond.methodLink "OutlineCurves$Outlines" (75 : Nat) ({ cls := "OutlineCurves$Picture", name := "isInside", desc := "(III)Z" } : Jvm.MethodName)) ∈ allW := inT 369 (by decide +kernel) (by decide +kernel)
theorem q_370 : (Jvm.Cond.instanceMethod ({ cls := "OutlineCurves$Picture", name := "isInside", desc := "(III)Z" } : Jvm.MethodName)) ∈ allW := inT 370 (by decide +kernel) (by decide +kernel)
theorem q_371 : (Jvm.Cond.selects "OutlineCurves$Picture" ({ cls := "OutlineCurves$Picture", name := "isInside", desc := "(III)Z" } : Jvm.MethodName) ({ cls := "OutlineCurves$Picture", name := "isInside", desc := "(III)Z" } : Jvm.MethodName)) ∈ allW := inT 371 (by decide +kernel) (by decide +kernel)
theorem q_372 : (Jvm.Cond.code ({ cls := "OutlineCurves$Picture", name := "isInside", desc := "(III)Z" } : Jvm.MethodName) prog_4_method_4_code (4 : Nat) (Option.some Jvm.ClassFile.FieldType.boolean)) ∈ allW := inT 372 (by decide +kernel) (by decide +kernel)
theorem q_373 : (Jvm.Cond.methodLink "OutlineCurves$Picture" (29 : Nat) ({ cls := "OutlineCurves$Picture", name := "has", desc := "(II)Z" } : Jvm.MethodName)) ∈ allW := inT 373 (by decide +kernel) (by decide +kernel)
theorem q_374 : (Jvm.Cond.methodLink "OutlineCurves$Outlines" (65 : Nat) ({ cls := "OutlineCurves$Outlines", name := "walk", desc := "(IIII)V" } : Jvm.MethodName)) ∈ allW := inT 374 (by decide +kernel) (by decide +kernel)
theorem q_376 : (Jvm.Cond.instanceMethod ({ cls := "OutlineCurves$Outlines", name := "walk", desc := "(IIII)V" } : Jvm.MethodName)) ∈ allW := inT 376 (by decide +kernel) (by decide +kernel)
theorem q_377 : (Jvm.Cond.code ({ cls := "OutlineCurves$Outlines", name := "walk", desc := "(IIII)V" } : Jvm.MethodName) prog_3_method_6_code (11 : Nat) (Option.none : Option Jvm.ClassFile.FieldType)) ∈ allW := inT 377 (by decide +kernel) (by decide +kernel)
theorem q_378 : (Jvm.Cond.methodLink "OutlineCurves$Outlines" (78 : Nat) ({ cls := "OutlineCurves$Picture", name := "has", desc := "(II)Z" } : Jvm.MethodName)) ∈ allW := inT 378 (by decide +kernel) (by decide +kernel)
theorem q_379 : (Jvm.Cond.fieldLink "OutlineCurves$Outlines" (82 : Nat) "OutlineCurves$Outlines" "STEP_X" "[I") ∈ allW := inT 379 (by decide +kernel) (by decide +kernel)
theorem q_381 : (Jvm.Cond.fieldLink "OutlineCurves$Outlines" (85 : Nat) "OutlineCurves$Outlines" "STEP_Y" "[I") ∈ allW := inT 381 (by decide +kernel) (by decide +kernel)
theorem q_383 : (Jvm.Cond.methodLink "OutlineCurves$Outlines" (88 : Nat) ({ cls := "OutlineCurves$Outlines", name := "directionFrom", desc := "(IIIII)I" } : Jvm.MethodName)) ∈ allW := inT 383 (by decide +kernel) (by decide +kernel)
theorem q_385 : (Jvm.Cond.instanceMethod ({ cls := "OutlineCurves$Outlines", name := "directionFrom", desc := "(IIIII)I" } : Jvm.MethodName)) ∈ allW := inT 385 (by decide +kernel) (by decide +kernel)
theorem q_386 : (Jvm.Cond.code ({ cls := "OutlineCurves$Outlines", name := "directionFrom", desc := "(IIIII)I" } : Jvm.MethodName) prog_3_method_7_code (10 : Nat) (Option.some Jvm.ClassFile.FieldType.int)) ∈ allW := inT 386 (by decide +kernel) (by decide +kernel)
theorem q_387 : (Jvm.Cond.fieldLink "OutlineCurves$Outlines" (92 : Nat) "OutlineCurves$Outlines" "AHEAD_X" "[I") ∈ allW := inT 387 (by decide +kernel) (by decide +kernel)
theorem q_389 : (Jvm.Cond.fieldLink "OutlineCurves$Outlines" (95 : Nat) "OutlineCurves$Outlines" "AHEAD_Y" "[I") ∈ allW := inT 389 (by decide +kernel) (by decide +kernel)
theorem q_391 : (Jvm.Cond.methodLink "OutlineCurves$Outlines" (98 : Nat) ({ cls := "OutlineCurves$Outlines", name := "turnsLeft", desc := "(IIII)Z" } : Jvm.MethodName)) ∈ allW := inT 391 (by decide +kernel) (by decide +kernel)
theorem q_393 : (Jvm.Cond.instanceMethod ({ cls := "OutlineCurves$Outlines", name := "turnsLeft", desc := "(IIII)Z" } : Jvm.MethodName)) ∈ allW := inT 393 (by decide +kernel) (by decide +kernel)
theorem q_394 : (Jvm.Cond.code ({ cls := "OutlineCurves$Outlines", name := "turnsLeft", desc := "(IIII)Z" } : Jvm.MethodName) prog_3_method_8_code (5 : Nat) (Option.some Jvm.ClassFile.FieldType.boolean)) ∈ allW := inT 394 (by decide +kernel) (by decide +kernel)
theorem q_395 : (Jvm.Cond.methodLink "OutlineCurves$Outlines" (102 : Nat) ({ cls := "OutlineCurves$Outlines", name := "insideRound", desc := "(III)I" } : Jvm.MethodName)) ∈ allW := inT 395 (by decide +kernel) (by decide +kernel)
theorem q_397 : (Jvm.Cond.instanceMethod ({ cls := "OutlineCurves$Outlines", name := "insideRound", desc := "(III)I" } : Jvm.MethodName)) ∈ allW := inT 397 (by decide +kernel) (by decide +kernel)
theorem q_398 : (Jvm.Cond.code ({ cls := "OutlineCurves$Outlines", name := "insideRound", desc := "(III)I" } : Jvm.MethodName) prog_3_method_9_code (7 : Nat) (Option.some Jvm.ClassFile.FieldType.int)) ∈ allW := inT 398 (by decide +kernel) (by decide +kernel)
theorem q_399 : (Jvm.Cond.methodLink "OutlineCurves$Outlines" (69 : Nat) ({ cls := "java/lang/Math", name := "abs", desc := "(I)I" } : Jvm.MethodName)) ∈ allW := inT 399 (by decide +kernel) (by decide +kernel)
theorem q_400 : (Jvm.Cond.static ({ cls := "java/lang/Math", name := "abs", desc := "(I)I" } : Jvm.MethodName)) ∈ allW := inT 400 (by decide +kernel) (by decide +kernel)
theorem q_401 : (Jvm.Cond.code ({ cls := "java/lang/Math", name := "abs", desc := "(I)I" } : Jvm.MethodName) prog_13_method_59_code (1 : Nat) (Option.some Jvm.ClassFile.FieldType.int)) ∈ allW := inT 401 (by decide +kernel) (by decide +kernel)
theorem q_410 : (Jvm.Cond.methodLink "OutlineCurves" (73 : Nat) ({ cls := "OutlineCurves", name := "requireTraced", desc := "()V" } : Jvm.MethodName)) ∈ allW := inT 410 (by decide +kernel) (by decide +kernel)
theorem q_412 : (Jvm.Cond.instanceMethod ({ cls := "OutlineCurves", name := "requireTraced", desc := "()V" } : Jvm.MethodName)) ∈ allW := inT 412 (by decide +kernel) (by decide +kernel)
theorem q_413 : (Jvm.Cond.code ({ cls := "OutlineCurves", name := "requireTraced", desc := "()V" } : Jvm.MethodName) prog_1_method_18_code (1 : Nat) (Option.none : Option Jvm.ClassFile.FieldType)) ∈ allW := inT 413 (by decide +kernel) (by decide +kernel)
theorem q_430 : (Jvm.Cond.methodLink "OutlineCurves" (76 : Nat) ({ cls := "OutlineCurves", name := "requireIndex", desc := "(II)V" } : Jvm.MethodName)) ∈ allW := inT 430 (by decide +kernel) (by decide +kernel)
theorem q_431 : (Jvm.Cond.static ({ cls := "OutlineCurves", name := "requireIndex", desc := "(II)V" } : Jvm.MethodName)) ∈ allW := inT 431 (by decide +kernel) (by decide +kernel)
theorem q_432 : (Jvm.Cond.code ({ cls := "OutlineCurves", name := "requireIndex", desc := "(II)V" } : Jvm.MethodName) prog_1_method_22_code (2 : Nat) (Option.none : Option Jvm.ClassFile.FieldType)) ∈ allW := inT 432 (by decide +kernel) (by decide +kernel)
theorem q_434 : (Jvm.Cond.methodLink "OutlineCurves" (79 : Nat) ({ cls := "OutlineCurves$Outlines", name := "length", desc := "(I)I" } : Jvm.MethodName)) ∈ allW := inT 434 (by decide +kernel) (by decide +kernel)
theorem q_435 : (Jvm.Cond.instanceMethod ({ cls := "OutlineCurves$Outlines", name := "length", desc := "(I)I" } : Jvm.MethodName)) ∈ allW := inT 435 (by decide +kernel) (by decide +kernel)
theorem q_436 : (Jvm.Cond.selects "OutlineCurves$Outlines" ({ cls := "OutlineCurves$Outlines", name := "length", desc := "(I)I" } : Jvm.MethodName) ({ cls := "OutlineCurves$Outlines", name := "length", desc := "(I)I" } : Jvm.MethodName)) ∈ allW := inT 436 (by decide +kernel) (by decide +kernel)
theorem q_437 : (Jvm.Cond.code ({ cls := "OutlineCurves$Outlines", name := "length", desc := "(I)I" } : Jvm.MethodName) prog_3_method_3_code (2 : Nat) (Option.some Jvm.ClassFile.FieldType.int)) ∈ allW := inT 437 (by decide +kernel) (by decide +kernel)
theorem q_438 : (Jvm.Cond.methodLink "OutlineCurves" (91 : Nat) ({ cls := "OutlineCurves$Outlines", name := "outlineRound", desc := "(I)I" } : Jvm.MethodName)) ∈ allW := inT 438 (by decide +kernel) (by decide +kernel)
theorem q_439 : (Jvm.Cond.instanceMethod ({ cls := "OutlineCurves$Outlines", name := "outlineRound", desc := "(I)I" } : Jvm.MethodName)) ∈ allW := inT 439 (by decide +kernel) (by decide +kernel)
theorem q_440 : (Jvm.Cond.selects "OutlineCurves$Outlines" ({ cls := "OutlineCurves$Outlines", name := "outlineRound", desc := "(I)I" } : Jvm.MethodName) ({ cls := "OutlineCurves$Outlines", name := "outlineRound", desc := "(I)I" } : Jvm.MethodName)) ∈ allW := inT 440 (by decide +kernel) (by decide +kernel)
theorem q_441 : (Jvm.Cond.code ({ cls := "OutlineCurves$Outlines", name := "outlineRound", desc := "(I)I" } : Jvm.MethodName) prog_3_method_10_code (9 : Nat) (Option.some Jvm.ClassFile.FieldType.int)) ∈ allW := inT 441 (by decide +kernel) (by decide +kernel)
theorem q_442 : (Jvm.Cond.constant "OutlineCurves$Outlines" (108 : Nat) (2147483647 : Int32)) ∈ allW := inT 442 (by decide +kernel) (by decide +kernel)
theorem q_443 : (Jvm.Cond.methodLink "OutlineCurves$Outlines" (109 : Nat) ({ cls := "OutlineCurves$Outlines", name := "uprightsLeftOf", desc := "(III)I" } : Jvm.MethodName)) ∈ allW := inT 443 (by decide +kernel) (by decide +kernel)
theorem q_445 : (Jvm.Cond.instanceMethod ({ cls := "OutlineCurves$Outlines", name := "uprightsLeftOf", desc := "(III)I" } : Jvm.MethodName)) ∈ allW := inT 445 (by decide +kernel) (by decide +kernel)
theorem q_446 : (Jvm.Cond.code ({ cls := "OutlineCurves$Outlines", name := "uprightsLeftOf", desc := "(III)I" } : Jvm.MethodName) prog_3_method_12_code (8 : Nat) (Option.some Jvm.ClassFile.FieldType.int)) ∈ allW := inT 446 (by decide +kernel) (by decide +kernel)
theorem q_447 : (Jvm.Cond.methodLink "OutlineCurves$Outlines" (112 : Nat) ({ cls := "java/lang/Math", name := "min", desc := "(II)I" } : Jvm.MethodName)) ∈ allW := inT 447 (by decide +kernel) (by decide +kernel)
theorem q_455 : (Jvm.Cond.methodLink "OutlineCurves" (94 : Nat) ({ cls := "OutlineCurves", name := "requirePoint", desc := "(II)V" } : Jvm.MethodName)) ∈ allW := inT 455 (by decide +kernel) (by decide +kernel)
theorem q_457 : (Jvm.Cond.instanceMethod ({ cls := "OutlineCurves", name := "requirePoint", desc := "(II)V" } : Jvm.MethodName)) ∈ allW := inT 457 (by decide +kernel) (by decide +kernel)
theorem q_458 : (Jvm.Cond.code ({ cls := "OutlineCurves", name := "requirePoint", desc := "(II)V" } : Jvm.MethodName) prog_1_method_19_code (3 : Nat) (Option.none : Option Jvm.ClassFile.FieldType)) ∈ allW := inT 458 (by decide +kernel) (by decide +kernel)
theorem q_466 : (Jvm.Cond.methodLink "OutlineCurves" (106 : Nat) ({ cls := "OutlineCurves$Outlines", name := "greatestLayerAt", desc := "(II)I" } : Jvm.MethodName)) ∈ allW := inT 466 (by decide +kernel) (by decide +kernel)
theorem q_467 : (Jvm.Cond.instanceMethod ({ cls := "OutlineCurves$Outlines", name := "greatestLayerAt", desc := "(II)I" } : Jvm.MethodName)) ∈ allW := inT 467 (by decide +kernel) (by decide +kernel)
theorem q_468 : (Jvm.Cond.selects "OutlineCurves$Outlines" ({ cls := "OutlineCurves$Outlines", name := "greatestLayerAt", desc := "(II)I" } : Jvm.MethodName) ({ cls := "OutlineCurves$Outlines", name := "greatestLayerAt", desc := "(II)I" } : Jvm.MethodName)) ∈ allW := inT 468 (by decide +kernel) (by decide +kernel)
theorem q_469 : (Jvm.Cond.code ({ cls := "OutlineCurves$Outlines", name := "greatestLayerAt", desc := "(II)I" } : Jvm.MethodName) prog_3_method_11_code (6 : Nat) (Option.some Jvm.ClassFile.FieldType.int)) ∈ allW := inT 469 (by decide +kernel) (by decide +kernel)
theorem q_477 : (Jvm.Cond.methodLink "OutlineCurves" (110 : Nat) ({ cls := "OutlineCurves$Outlines", name := "costOf", desc := "(IIII)I" } : Jvm.MethodName)) ∈ allW := inT 477 (by decide +kernel) (by decide +kernel)
theorem q_478 : (Jvm.Cond.instanceMethod ({ cls := "OutlineCurves$Outlines", name := "costOf", desc := "(IIII)I" } : Jvm.MethodName)) ∈ allW := inT 478 (by decide +kernel) (by decide +kernel)
theorem q_479 : (Jvm.Cond.selects "OutlineCurves$Outlines" ({ cls := "OutlineCurves$Outlines", name := "costOf", desc := "(IIII)I" } : Jvm.MethodName) ({ cls := "OutlineCurves$Outlines", name := "costOf", desc := "(IIII)I" } : Jvm.MethodName)) ∈ allW := inT 479 (by decide +kernel) (by decide +kernel)
theorem q_480 : (Jvm.Cond.code ({ cls := "OutlineCurves$Outlines", name := "costOf", desc := "(IIII)I" } : Jvm.MethodName) prog_3_method_13_code (17 : Nat) (Option.some Jvm.ClassFile.FieldType.int)) ∈ allW := inT 480 (by decide +kernel) (by decide +kernel)
theorem q_481 : (Jvm.Cond.methodLink "OutlineCurves$Outlines" (116 : Nat) ({ cls := "OutlineCurves$Outlines", name := "directionBit", desc := "(II)I" } : Jvm.MethodName)) ∈ allW := inT 481 (by decide +kernel) (by decide +kernel)
theorem q_483 : (Jvm.Cond.instanceMethod ({ cls := "OutlineCurves$Outlines", name := "directionBit", desc := "(II)I" } : Jvm.MethodName)) ∈ allW := inT 483 (by decide +kernel) (by decide +kernel)
theorem q_484 : (Jvm.Cond.code ({ cls := "OutlineCurves$Outlines", name := "directionBit", desc := "(II)I" } : Jvm.MethodName) prog_3_method_14_code (3 : Nat) (Option.some Jvm.ClassFile.FieldType.int)) ∈ allW := inT 484 (by decide +kernel) (by decide +kernel)
theorem q_485 : (Jvm.Cond.methodLink "OutlineCurves$Outlines" (119 : Nat) ({ cls := "java/lang/Math", name := "max", desc := "(II)I" } : Jvm.MethodName)) ∈ allW := inT 485 (by decide +kernel) (by decide +kernel)
theorem q_493 : (Jvm.Cond.methodLink "OutlineCurves" (116 : Nat) ({ cls := "OutlineCurves$Polygon", name := "find", desc := "(II)I" } : Jvm.MethodName)) ∈ allW := inT 493 (by decide +kernel) (by decide +kernel)
theorem q_494 : (Jvm.Cond.instanceMethod ({ cls := "OutlineCurves$Polygon", name := "find", desc := "(II)I" } : Jvm.MethodName)) ∈ allW := inT 494 (by decide +kernel) (by decide +kernel)
theorem q_495 : (Jvm.Cond.selects "OutlineCurves$Polygon" ({ cls := "OutlineCurves$Polygon", name := "find", desc := "(II)I" } : Jvm.MethodName) ({ cls := "OutlineCurves$Polygon", name := "find", desc := "(II)I" } : Jvm.MethodName)) ∈ allW := inT 495 (by decide +kernel) (by decide +kernel)
theorem q_496 : (Jvm.Cond.code ({ cls := "OutlineCurves$Polygon", name := "find", desc := "(II)I" } : Jvm.MethodName) prog_5_method_3_code (9 : Nat) (Option.some Jvm.ClassFile.FieldType.int)) ∈ allW := inT 496 (by decide +kernel) (by decide +kernel)
theorem q_497 : (Jvm.Cond.methodLink "OutlineCurves$Polygon" (47 : Nat) ({ cls := "OutlineCurves$Outlines", name := "length", desc := "(I)I" } : Jvm.MethodName)) ∈ allW := inT 497 (by decide +kernel) (by decide +kernel)
theorem q_498 : (Jvm.Cond.methodLink "OutlineCurves$Polygon" (53 : Nat) ({ cls := "java/lang/Math", name := "min", desc := "(II)I" } : Jvm.MethodName)) ∈ allW := inT 498 (by decide +kernel) (by decide +kernel)
theorem q_499 : (Jvm.Cond.methodLink "OutlineCurves$Polygon" (59 : Nat) ({ cls := "OutlineCurves$Polygon", name := "weighPieces", desc := "(III)V" } : Jvm.MethodName)) ∈ allW := inT 499 (by decide +kernel) (by decide +kernel)
theorem q_501 : (Jvm.Cond.instanceMethod ({ cls := "OutlineCurves$Polygon", name := "weighPieces", desc := "(III)V" } : Jvm.MethodName)) ∈ allW := inT 501 (by decide +kernel) (by decide +kernel)
theorem q_502 : (Jvm.Cond.code ({ cls := "OutlineCurves$Polygon", name := "weighPieces", desc := "(III)V" } : Jvm.MethodName) prog_5_method_4_code (6 : Nat) (Option.none : Option Jvm.ClassFile.FieldType)) ∈ allW := inT 502 (by decide +kernel) (by decide +kernel)
theorem q_503 : (Jvm.Cond.methodLink "OutlineCurves$Polygon" (75 : Nat) ({ cls := "OutlineCurves$Outlines", name := "costOf", desc := "(IIII)I" } : Jvm.MethodName)) ∈ allW := inT 503 (by decide +kernel) (by decide +kernel)
theorem q_504 : (Jvm.Cond.constant "OutlineCurves$Polygon" (63 : Nat) (1073741824 : Int32)) ∈ allW := inT 504 (by decide +kernel) (by decide +kernel)
theorem q_505 : (Jvm.Cond.methodLink "OutlineCurves$Polygon" (64 : Nat) ({ cls := "OutlineCurves$Polygon", name := "weighFrom", desc := "(II)I" } : Jvm.MethodName)) ∈ allW := inT 505 (by decide +kernel) (by decide +kernel)
theorem q_507 : (Jvm.Cond.instanceMethod ({ cls := "OutlineCurves$Polygon", name := "weighFrom", desc := "(II)I" } : Jvm.MethodName)) ∈ allW := inT 507 (by decide +kernel) (by decide +kernel)
theorem q_508 : (Jvm.Cond.code ({ cls := "OutlineCurves$Polygon", name := "weighFrom", desc := "(II)I" } : Jvm.MethodName) prog_5_method_6_code (6 : Nat) (Option.some Jvm.ClassFile.FieldType.int)) ∈ allW := inT 508 (by decide +kernel) (by decide +kernel)
theorem q_509 : (Jvm.Cond.methodLink "OutlineCurves$Polygon" (79 : Nat) ({ cls := "OutlineCurves$Polygon", name := "pieceCost", desc := "(II)I" } : Jvm.MethodName)) ∈ allW := inT 509 (by decide +kernel) (by decide +kernel)
theorem q_511 : (Jvm.Cond.instanceMethod ({ cls := "OutlineCurves$Polygon", name := "pieceCost", desc := "(II)I" } : Jvm.MethodName)) ∈ allW := inT 511 (by decide +kernel) (by decide +kernel)
theorem q_512 : (Jvm.Cond.code ({ cls := "OutlineCurves$Polygon", name := "pieceCost", desc := "(II)I" } : Jvm.MethodName) prog_5_method_5_code (3 : Nat) (Option.some Jvm.ClassFile.FieldType.int)) ∈ allW := inT 512 (by decide +kernel) (by decide +kernel)
theorem q_513 : (Jvm.Cond.methodLink "OutlineCurves$Polygon" (82 : Nat) ({ cls := "OutlineCurves$Polygon", name := "leastThrough", desc := "([III)I" } : Jvm.MethodName)) ∈ allW := inT 513 (by decide +kernel) (by decide +kernel)
theorem q_515 : (Jvm.Cond.instanceMethod ({ cls := "OutlineCurves$Polygon", name := "leastThrough", desc := "([III)I" } : Jvm.MethodName)) ∈ allW := inT 515 (by decide +kernel) (by decide +kernel)
theorem q_516 : (Jvm.Cond.code ({ cls := "OutlineCurves$Polygon", name := "leastThrough", desc := "([III)I" } : Jvm.MethodName) prog_5_method_7_code (8 : Nat) (Option.some Jvm.ClassFile.FieldType.int)) ∈ allW := inT 516 (by decide +kernel) (by decide +kernel)
theorem q_517 : (Jvm.Cond.constant "OutlineCurves$Polygon" (86 : Nat) (262144 : Int32)) ∈ allW := inT 517 (by decide +kernel) (by decide +kernel)
theorem q_518 : (Jvm.Cond.methodLink "OutlineCurves$Polygon" (67 : Nat) ({ cls := "OutlineCurves$Polygon", name := "follow", desc := "(III)V" } : Jvm.MethodName)) ∈ allW := inT 518 (by decide +kernel) (by decide +kernel)
theorem q_520 : (Jvm.Cond.instanceMethod ({ cls := "OutlineCurves$Polygon", name := "follow", desc := "(III)V" } : Jvm.MethodName)) ∈ allW := inT 520 (by decide +kernel) (by decide +kernel)
theorem q_521 : (Jvm.Cond.code ({ cls := "OutlineCurves$Polygon", name := "follow", desc := "(III)V" } : Jvm.MethodName) prog_5_method_8_code (7 : Nat) (Option.none : Option Jvm.ClassFile.FieldType)) ∈ allW := inT 521 (by decide +kernel) (by decide +kernel)
theorem q_522 : (Jvm.Cond.methodLink "OutlineCurves$Polygon" (87 : Nat) ({ cls := "OutlineCurves$Polygon", name := "earliestThrough", desc := "([IIII)I" } : Jvm.MethodName)) ∈ allW := inT 522 (by decide +kernel) (by decide +kernel)
theorem q_524 : (Jvm.Cond.instanceMethod ({ cls := "OutlineCurves$Polygon", name := "earliestThrough", desc := "([IIII)I" } : Jvm.MethodName)) ∈ allW := inT 524 (by decide +kernel) (by decide +kernel)
theorem q_525 : (Jvm.Cond.code ({ cls := "OutlineCurves$Polygon", name := "earliestThrough", desc := "([IIII)I" } : Jvm.MethodName) prog_5_method_9_code (8 : Nat) (Option.some Jvm.ClassFile.FieldType.int)) ∈ allW := inT 525 (by decide +kernel) (by decide +kernel)
theorem q_526 : (Jvm.Cond.methodLink "OutlineCurves$Polygon" (70 : Nat) ({ cls := "OutlineCurves$Polygon", name := "measure", desc := "(I)V" } : Jvm.MethodName)) ∈ allW := inT 526 (by decide +kernel) (by decide +kernel)
theorem q_528 : (Jvm.Cond.instanceMethod ({ cls := "OutlineCurves$Polygon", name := "measure", desc := "(I)V" } : Jvm.MethodName)) ∈ allW := inT 528 (by decide +kernel) (by decide +kernel)
theorem q_529 : (Jvm.Cond.code ({ cls := "OutlineCurves$Polygon", name := "measure", desc := "(I)V" } : Jvm.MethodName) prog_5_method_10_code (4 : Nat) (Option.none : Option Jvm.ClassFile.FieldType)) ∈ allW := inT 529 (by decide +kernel) (by decide +kernel)
theorem q_530 : (Jvm.Cond.methodLink "OutlineCurves$Polygon" (99 : Nat) ({ cls := "OutlineCurves$Polygon", name := "measureCorner", desc := "(I)V" } : Jvm.MethodName)) ∈ allW := inT 530 (by decide +kernel) (by decide +kernel)
theorem q_532 : (Jvm.Cond.instanceMethod ({ cls := "OutlineCurves$Polygon", name := "measureCorner", desc := "(I)V" } : Jvm.MethodName)) ∈ allW := inT 532 (by decide +kernel) (by decide +kernel)
theorem q_533 : (Jvm.Cond.code ({ cls := "OutlineCurves$Polygon", name := "measureCorner", desc := "(I)V" } : Jvm.MethodName) prog_5_method_11_code (10 : Nat) (Option.none : Option Jvm.ClassFile.FieldType)) ∈ allW := inT 533 (by decide +kernel) (by decide +kernel)
theorem q_534 : (Jvm.Cond.methodLink "OutlineCurves$Polygon" (102 : Nat) ({ cls := "OutlineCurves$Polygon", name := "cornerBeside", desc := "(II)I" } : Jvm.MethodName)) ∈ allW := inT 534 (by decide +kernel) (by decide +kernel)
theorem q_535 : (Jvm.Cond.instanceMethod ({ cls := "OutlineCurves$Polygon", name := "cornerBeside", desc := "(II)I" } : Jvm.MethodName)) ∈ allW := inT 535 (by decide +kernel) (by decide +kernel)
theorem q_536 : (Jvm.Cond.selects "OutlineCurves$Polygon" ({ cls := "OutlineCurves$Polygon", name := "cornerBeside", desc := "(II)I" } : Jvm.MethodName) ({ cls := "OutlineCurves$Polygon", name := "cornerBeside", desc := "(II)I" } : Jvm.MethodName)) ∈ allW := inT 536 (by decide +kernel) (by decide +kernel)
theorem q_537 : (Jvm.Cond.code ({ cls := "OutlineCurves$Polygon", name := "cornerBeside", desc := "(II)I" } : Jvm.MethodName) prog_5_method_12_code (3 : Nat) (Option.some Jvm.ClassFile.FieldType.int)) ∈ allW := inT 537 (by decide +kernel) (by decide +kernel)
theorem q_538 : (Jvm.Cond.methodLink "OutlineCurves$Polygon" (113 : Nat) ({ cls := "java/lang/Math", name := "floorMod", desc := "(II)I" } : Jvm.MethodName)) ∈ allW := inT 538 (by decide +kernel) (by decide +kernel)
theorem q_539 : (Jvm.Cond.static ({ cls := "java/lang/Math", name := "floorMod", desc := "(II)I" } : Jvm.MethodName)) ∈ allW := inT 539 (by decide +kernel) (by decide +kernel)
theorem q_540 : (Jvm.Cond.code ({ cls := "java/lang/Math", name := "floorMod", desc := "(II)I" } : Jvm.MethodName) prog_13_method_50_code (3 : Nat) (Option.some Jvm.ClassFile.FieldType.int)) ∈ allW := inT 540 (by decide +kernel) (by decide +kernel)
theorem q_541 : (Jvm.Cond.methodLink "OutlineCurves$Polygon" (105 : Nat) ({ cls := "java/lang/Math", name := "abs", desc := "(I)I" } : Jvm.MethodName)) ∈ allW := inT 541 (by decide +kernel) (by decide +kernel)
theorem q_542 : (Jvm.Cond.methodLink "OutlineCurves$Polygon" (108 : Nat) ({ cls := "java/lang/Integer", name := "compare", desc := "(II)I" } : Jvm.MethodName)) ∈ allW := inT 542 (by decide +kernel) (by decide +kernel)
theorem q_543 : (Jvm.Cond.static ({ cls := "java/lang/Integer", name := "compare", desc := "(II)I" } : Jvm.MethodName)) ∈ allW := inT 543 (by decide +kernel) (by decide +kernel)
theorem q_544 : (Jvm.Cond.code ({ cls := "java/lang/Integer", name := "compare", desc := "(II)I" } : Jvm.MethodName) prog_12_method_40_code (2 : Nat) (Option.some Jvm.ClassFile.FieldType.int)) ∈ allW := inT 544 (by decide +kernel) (by decide +kernel)
theorem q_545 : (Jvm.Cond.constant "OutlineCurves$Polygon" (74 : Nat) (262143 : Int32)) ∈ allW := inT 545 (by decide +kernel) (by decide +kernel)
theorem q_553 : (Jvm.Cond.methodLink "OutlineCurves" (119 : Nat) ({ cls := "OutlineCurves", name := "requirePolygon", desc := "()V" } : Jvm.MethodName)) ∈ allW := inT 553 (by decide +kernel) (by decide +kernel)
theorem q_555 : (Jvm.Cond.instanceMethod ({ cls := "OutlineCurves", name := "requirePolygon", desc := "()V" } : Jvm.MethodName)) ∈ allW := inT 555 (by decide +kernel) (by decide +kernel)
theorem q_556 : (Jvm.Cond.code ({ cls := "OutlineCurves", name := "requirePolygon", desc := "()V" } : Jvm.MethodName) prog_1_method_20_code (1 : Nat) (Option.none : Option Jvm.ClassFile.FieldType)) ∈ allW := inT 556 (by decide +kernel) (by decide +kernel)
theorem q_565 : (Jvm.Cond.methodLink "OutlineCurves" (136 : Nat) ({ cls := "OutlineCurves$CurveRow", name := "make", desc := "(II)I" } : Jvm.MethodName)) ∈ allW := inT 565 (by decide +kernel) (by decide +kernel)
theorem q_566 : (Jvm.Cond.instanceMethod ({ cls := "OutlineCurves$CurveRow", name := "make", desc := "(II)I" } : Jvm.MethodName)) ∈ allW := inT 566 (by decide +kernel) (by decide +kernel)
theorem q_567 : (Jvm.Cond.selects "OutlineCurves$CurveRow" ({ cls := "OutlineCurves$CurveRow", name := "make", desc := "(II)I" } : Jvm.MethodName) ({ cls := "OutlineCurves$CurveRow", name := "make", desc := "(II)I" } : Jvm.MethodName)) ∈ allW := inT 567 (by decide +kernel) (by decide +kernel)
theorem q_568 : (Jvm.Cond.code ({ cls := "OutlineCurves$CurveRow", name := "make", desc := "(II)I" } : Jvm.MethodName) prog_2_method_3_code (5 : Nat) (Option.some Jvm.ClassFile.FieldType.int)) ∈ allW := inT 568 (by decide +kernel) (by decide +kernel)
theorem q_569 : (Jvm.Cond.methodLink "OutlineCurves$CurveRow" (44 : Nat) ({ cls := "OutlineCurves$CurveRow", name := "firstSharp", desc := "(I)I" } : Jvm.MethodName)) ∈ allW := inT 569 (by decide +kernel) (by decide +kernel)
theorem q_571 : (Jvm.Cond.instanceMethod ({ cls := "OutlineCurves$CurveRow", name := "firstSharp", desc := "(I)I" } : Jvm.MethodName)) ∈ allW := inT 571 (by decide +kernel) (by decide +kernel)
theorem q_572 : (Jvm.Cond.code ({ cls := "OutlineCurves$CurveRow", name := "firstSharp", desc := "(I)I" } : Jvm.MethodName) prog_2_method_4_code (3 : Nat) (Option.some Jvm.ClassFile.FieldType.int)) ∈ allW := inT 572 (by decide +kernel) (by decide +kernel)
theorem q_573 : (Jvm.Cond.methodLink "OutlineCurves$CurveRow" (51 : Nat) ({ cls := "OutlineCurves$Polygon", name := "cornerBeside", desc := "(II)I" } : Jvm.MethodName)) ∈ allW := inT 573 (by decide +kernel) (by decide +kernel)
theorem q_574 : (Jvm.Cond.methodLink "OutlineCurves$CurveRow" (55 : Nat) ({ cls := "OutlineCurves$CurveRow", name := "choose", desc := "(IIII)V" } : Jvm.MethodName)) ∈ allW := inT 574 (by decide +kernel) (by decide +kernel)
theorem q_576 : (Jvm.Cond.instanceMethod ({ cls := "OutlineCurves$CurveRow", name := "choose", desc := "(IIII)V" } : Jvm.MethodName)) ∈ allW := inT 576 (by decide +kernel) (by decide +kernel)
theorem q_577 : (Jvm.Cond.code ({ cls := "OutlineCurves$CurveRow", name := "choose", desc := "(IIII)V" } : Jvm.MethodName) prog_2_method_5_code (10 : Nat) (Option.none : Option Jvm.ClassFile.FieldType)) ∈ allW := inT 577 (by decide +kernel) (by decide +kernel)
theorem q_578 : (Jvm.Cond.constant "OutlineCurves$CurveRow" (69 : Nat) (2147483647 : Int32)) ∈ allW := inT 578 (by decide +kernel) (by decide +kernel)
theorem q_579 : (Jvm.Cond.methodLink "OutlineCurves$CurveRow" (70 : Nat) ({ cls := "OutlineCurves$CurveRow", name := "joinable", desc := "(III)I" } : Jvm.MethodName)) ∈ allW := inT 579 (by decide +kernel) (by decide +kernel)
theorem q_581 : (Jvm.Cond.instanceMethod ({ cls := "OutlineCurves$CurveRow", name := "joinable", desc := "(III)I" } : Jvm.MethodName)) ∈ allW := inT 581 (by decide +kernel) (by decide +kernel)
theorem q_582 : (Jvm.Cond.code ({ cls := "OutlineCurves$CurveRow", name := "joinable", desc := "(III)I" } : Jvm.MethodName) prog_2_method_6_code (8 : Nat) (Option.some Jvm.ClassFile.FieldType.int)) ∈ allW := inT 582 (by decide +kernel) (by decide +kernel)
theorem q_583 : (Jvm.Cond.methodLink "OutlineCurves$CurveRow" (80 : Nat) ({ cls := "java/lang/Math", name := "min", desc := "(II)I" } : Jvm.MethodName)) ∈ allW := inT 583 (by decide +kernel) (by decide +kernel)
theorem q_584 : (Jvm.Cond.methodLink "OutlineCurves$CurveRow" (74 : Nat) ({ cls := "OutlineCurves$CurveRow", name := "leastPull", desc := "(III)I" } : Jvm.MethodName)) ∈ allW := inT 584 (by decide +kernel) (by decide +kernel)
theorem q_586 : (Jvm.Cond.instanceMethod ({ cls := "OutlineCurves$CurveRow", name := "leastPull", desc := "(III)I" } : Jvm.MethodName)) ∈ allW := inT 586 (by decide +kernel) (by decide +kernel)
theorem q_587 : (Jvm.Cond.code ({ cls := "OutlineCurves$CurveRow", name := "leastPull", desc := "(III)I" } : Jvm.MethodName) prog_2_method_7_code (5 : Nat) (Option.some Jvm.ClassFile.FieldType.int)) ∈ allW := inT 587 (by decide +kernel) (by decide +kernel)
theorem q_588 : (Jvm.Cond.methodLink "OutlineCurves$CurveRow" (83 : Nat) ({ cls := "OutlineCurves$CurveRow", name := "layHand", desc := "(III)V" } : Jvm.MethodName)) ∈ allW := inT 588 (by decide +kernel) (by decide +kernel)
theorem q_590 : (Jvm.Cond.instanceMethod ({ cls := "OutlineCurves$CurveRow", name := "layHand", desc := "(III)V" } : Jvm.MethodName)) ∈ allW := inT 590 (by decide +kernel) (by decide +kernel)
theorem q_591 : (Jvm.Cond.code ({ cls := "OutlineCurves$CurveRow", name := "layHand", desc := "(III)V" } : Jvm.MethodName) prog_2_method_9_code (7 : Nat) (Option.none : Option Jvm.ClassFile.FieldType)) ∈ allW := inT 591 (by decide +kernel) (by decide +kernel)
theorem q_592 : (Jvm.Cond.methodLink "OutlineCurves$CurveRow" (102 : Nat) ({ cls := "OutlineCurves$CurveRow", name := "layOn", desc := "([I[IIIIII)V" } : Jvm.MethodName)) ∈ allW := inT 592 (by decide +kernel) (by decide +kernel)
theorem q_593 : (Jvm.Cond.static ({ cls := "OutlineCurves$CurveRow", name := "layOn", desc := "([I[IIIIII)V" } : Jvm.MethodName)) ∈ allW := inT 593 (by decide +kernel) (by decide +kernel)
theorem q_594 : (Jvm.Cond.code ({ cls := "OutlineCurves$CurveRow", name := "layOn", desc := "([I[IIIIII)V" } : Jvm.MethodName) prog_2_method_10_code (7 : Nat) (Option.none : Option Jvm.ClassFile.FieldType)) ∈ allW := inT 594 (by decide +kernel) (by decide +kernel)
theorem q_595 : (Jvm.Cond.methodLink "OutlineCurves$CurveRow" (87 : Nat) ({ cls := "OutlineCurves$CurveRow", name := "allPlacesNear", desc := "(III)Z" } : Jvm.MethodName)) ∈ allW := inT 595 (by decide +kernel) (by decide +kernel)
theorem q_597 : (Jvm.Cond.instanceMethod ({ cls := "OutlineCurves$CurveRow", name := "allPlacesNear", desc := "(III)Z" } : Jvm.MethodName)) ∈ allW := inT 597 (by decide +kernel) (by decide +kernel)
theorem q_598 : (Jvm.Cond.code ({ cls := "OutlineCurves$CurveRow", name := "allPlacesNear", desc := "(III)Z" } : Jvm.MethodName) prog_2_method_8_code (5 : Nat) (Option.some Jvm.ClassFile.FieldType.boolean)) ∈ allW := inT 598 (by decide +kernel) (by decide +kernel)
theorem q_599 : (Jvm.Cond.methodLink "OutlineCurves$CurveRow" (91 : Nat) ({ cls := "OutlineCurves$CurveRow", name := "cubicAt", desc := "([II)I" } : Jvm.MethodName)) ∈ allW := inT 599 (by decide +kernel) (by decide +kernel)
theorem q_600 : (Jvm.Cond.static ({ cls := "OutlineCurves$CurveRow", name := "cubicAt", desc := "([II)I" } : Jvm.MethodName)) ∈ allW := inT 600 (by decide +kernel) (by decide +kernel)
theorem q_601 : (Jvm.Cond.code ({ cls := "OutlineCurves$CurveRow", name := "cubicAt", desc := "([II)I" } : Jvm.MethodName) prog_2_method_11_code (3 : Nat) (Option.some Jvm.ClassFile.FieldType.int)) ∈ allW := inT 601 (by decide +kernel) (by decide +kernel)
theorem q_602 : (Jvm.Cond.methodLink "OutlineCurves$CurveRow" (95 : Nat) ({ cls := "OutlineCurves$CurveRow", name := "nearLines", desc := "(IIIII)Z" } : Jvm.MethodName)) ∈ allW := inT 602 (by decide +kernel) (by decide +kernel)
theorem q_604 : (Jvm.Cond.instanceMethod ({ cls := "OutlineCurves$CurveRow", name := "nearLines", desc := "(IIIII)Z" } : Jvm.MethodName)) ∈ allW := inT 604 (by decide +kernel) (by decide +kernel)
theorem q_605 : (Jvm.Cond.code ({ cls := "OutlineCurves$CurveRow", name := "nearLines", desc := "(IIIII)Z" } : Jvm.MethodName) prog_2_method_13_code (11 : Nat) (Option.some Jvm.ClassFile.FieldType.boolean)) ∈ allW := inT 605 (by decide +kernel) (by decide +kernel)
theorem q_606 : (Jvm.Cond.constantLong "OutlineCurves$CurveRow" (109 : Nat) (512 : Int64)) ∈ allW := inT 606 (by decide +kernel) (by decide +kernel)
theorem q_607 : (Jvm.Cond.methodLink "OutlineCurves$CurveRow" (111 : Nat) ({ cls := "OutlineCurves$CurveRow", name := "nearLine", desc := "(IIIIJ)Z" } : Jvm.MethodName)) ∈ allW := inT 607 (by decide +kernel) (by decide +kernel)
theorem q_609 : (Jvm.Cond.instanceMethod ({ cls := "OutlineCurves$CurveRow", name := "nearLine", desc := "(IIIIJ)Z" } : Jvm.MethodName)) ∈ allW := inT 609 (by decide +kernel) (by decide +kernel)
theorem q_610 : (Jvm.Cond.code ({ cls := "OutlineCurves$CurveRow", name := "nearLine", desc := "(IIIIJ)Z" } : Jvm.MethodName) prog_2_method_14_code (21 : Nat) (Option.some Jvm.ClassFile.FieldType.boolean)) ∈ allW := inT 610 (by decide +kernel) (by decide +kernel)
theorem q_611 : (Jvm.Cond.constantLong "OutlineCurves$CurveRow" (115 : Nat) (16384 : Int64)) ∈ allW := inT 611 (by decide +kernel) (by decide +kernel)
theorem q_612 : (Jvm.Cond.methodLink "OutlineCurves$CurveRow" (59 : Nat) ({ cls := "java/lang/Math", name := "max", desc := "(II)I" } : Jvm.MethodName)) ∈ allW := inT 612 (by decide +kernel) (by decide +kernel)
theorem q_620 : (Jvm.Cond.methodLink "OutlineCurves" (139 : Nat) ({ cls := "OutlineCurves", name := "requireCurve", desc := "(I)V" } : Jvm.MethodName)) ∈ allW := inT 620 (by decide +kernel) (by decide +kernel)
theorem q_622 : (Jvm.Cond.instanceMethod ({ cls := "OutlineCurves", name := "requireCurve", desc := "(I)V" } : Jvm.MethodName)) ∈ allW := inT 622 (by decide +kernel) (by decide +kernel)
theorem q_623 : (Jvm.Cond.code ({ cls := "OutlineCurves", name := "requireCurve", desc := "(I)V" } : Jvm.MethodName) prog_1_method_21_code (2 : Nat) (Option.none : Option Jvm.ClassFile.FieldType)) ∈ allW := inT 623 (by decide +kernel) (by decide +kernel)
theorem q_625 : (Jvm.Cond.methodLink "OutlineCurves" (152 : Nat) ({ cls := "OutlineCurves$CurveRow", name := "ordinate", desc := "(II)I" } : Jvm.MethodName)) ∈ allW := inT 625 (by decide +kernel) (by decide +kernel)
theorem q_626 : (Jvm.Cond.instanceMethod ({ cls := "OutlineCurves$CurveRow", name := "ordinate", desc := "(II)I" } : Jvm.MethodName)) ∈ allW := inT 626 (by decide +kernel) (by decide +kernel)
theorem q_627 : (Jvm.Cond.selects "OutlineCurves$CurveRow" ({ cls := "OutlineCurves$CurveRow", name := "ordinate", desc := "(II)I" } : Jvm.MethodName) ({ cls := "OutlineCurves$CurveRow", name := "ordinate", desc := "(II)I" } : Jvm.MethodName)) ∈ allW := inT 627 (by decide +kernel) (by decide +kernel)
theorem q_628 : (Jvm.Cond.code ({ cls := "OutlineCurves$CurveRow", name := "ordinate", desc := "(II)I" } : Jvm.MethodName) prog_2_method_15_code (4 : Nat) (Option.some Jvm.ClassFile.FieldType.int)) ∈ allW := inT 628 (by decide +kernel) (by decide +kernel)
theorem q_636 : (Jvm.Cond.methodLink "OutlineCurves" (155 : Nat) ({ cls := "OutlineCurves$CurveRow", name := "placeAt", desc := "(III)I" } : Jvm.MethodName)) ∈ allW := inT 636 (by decide +kernel) (by decide +kernel)
theorem q_637 : (Jvm.Cond.instanceMethod ({ cls := "OutlineCurves$CurveRow", name := "placeAt", desc := "(III)I" } : Jvm.MethodName)) ∈ allW := inT 637 (by decide +kernel) (by decide +kernel)
theorem q_638 : (Jvm.Cond.selects "OutlineCurves$CurveRow" ({ cls := "OutlineCurves$CurveRow", name := "placeAt", desc := "(III)I" } : Jvm.MethodName) ({ cls := "OutlineCurves$CurveRow", name := "placeAt", desc := "(III)I" } : Jvm.MethodName)) ∈ allW := inT 638 (by decide +kernel) (by decide +kernel)
theorem q_639 : (Jvm.Cond.code ({ cls := "OutlineCurves$CurveRow", name := "placeAt", desc := "(III)I" } : Jvm.MethodName) prog_2_method_16_code (5 : Nat) (Option.some Jvm.ClassFile.FieldType.int)) ∈ allW := inT 639 (by decide +kernel) (by decide +kernel)
theorem q_640 : (Jvm.Cond.methodLink "OutlineCurves$CurveRow" (117 : Nat) ({ cls := "OutlineCurves$CurveRow", name := "sharpAt", desc := "([II)I" } : Jvm.MethodName)) ∈ allW := inT 640 (by decide +kernel) (by decide +kernel)
theorem q_641 : (Jvm.Cond.static ({ cls := "OutlineCurves$CurveRow", name := "sharpAt", desc := "([II)I" } : Jvm.MethodName)) ∈ allW := inT 641 (by decide +kernel) (by decide +kernel)
theorem q_642 : (Jvm.Cond.code ({ cls := "OutlineCurves$CurveRow", name := "sharpAt", desc := "([II)I" } : Jvm.MethodName) prog_2_method_12_code (3 : Nat) (Option.some Jvm.ClassFile.FieldType.int)) ∈ allW := inT 642 (by decide +kernel) (by decide +kernel)
theorem q_650 : (Jvm.Cond.methodLink "OutlineCurves" (159 : Nat) ({ cls := "OutlineCurves$CurveRow", name := "isNear", desc := "(III)Z" } : Jvm.MethodName)) ∈ allW := inT 650 (by decide +kernel) (by decide +kernel)
theorem q_651 : (Jvm.Cond.instanceMethod ({ cls := "OutlineCurves$CurveRow", name := "isNear", desc := "(III)Z" } : Jvm.MethodName)) ∈ allW := inT 651 (by decide +kernel) (by decide +kernel)
theorem q_652 : (Jvm.Cond.selects "OutlineCurves$CurveRow" ({ cls := "OutlineCurves$CurveRow", name := "isNear", desc := "(III)Z" } : Jvm.MethodName) ({ cls := "OutlineCurves$CurveRow", name := "isNear", desc := "(III)Z" } : Jvm.MethodName)) ∈ allW := inT 652 (by decide +kernel) (by decide +kernel)
theorem q_653 : (Jvm.Cond.code ({ cls := "OutlineCurves$CurveRow", name := "isNear", desc := "(III)Z" } : Jvm.MethodName) prog_2_method_17_code (4 : Nat) (Option.some Jvm.ClassFile.FieldType.boolean)) ∈ allW := inT 653 (by decide +kernel) (by decide +kernel)
theorem q_654 : (Jvm.Cond.methodLink "OutlineCurves$CurveRow" (120 : Nat) ({ cls := "OutlineCurves$CurveRow", name := "placeAt", desc := "(III)I" } : Jvm.MethodName)) ∈ allW := inT 654 (by decide +kernel) (by decide +kernel)
theorem q_660 : (Jvm.Cond.methodLink "OutlineCurvesModel" (1 : Nat) ({ cls := "java/lang/Object", name := "<init>", desc := "()V" } : Jvm.MethodName)) ∈ allW := inT 660 (by decide +kernel) (by decide +kernel)
theorem q_661 : (Jvm.Cond.fieldLink "OutlineCurvesModel" (72 : Nat) "OutlineCurvesModel" "code" "I") ∈ allW := inT 661 (by decide +kernel) (by decide +kernel)
theorem q_662 : (Jvm.Cond.fieldLink "OutlineCurvesModel" (65 : Nat) "OutlineCurvesModel" "width" "I") ∈ allW := inT 662 (by decide +kernel) (by decide +kernel)
theorem q_663 : (Jvm.Cond.fieldLink "OutlineCurvesModel" (69 : Nat) "OutlineCurvesModel" "height" "I") ∈ allW := inT 663 (by decide +kernel) (by decide +kernel)
theorem q_664 : (Jvm.Cond.fieldLink "OutlineCurvesModel" (7 : Nat) "OutlineCurvesModel" "colours" "[I") ∈ allW := inT 664 (by decide +kernel) (by decide +kernel)
theorem q_665 : (Jvm.Cond.fieldLink "OutlineCurvesModel" (79 : Nat) "OutlineCurvesModel" "isTraced" "Z") ∈ allW := inT 665 (by decide +kernel) (by decide +kernel)
theorem q_666 : (Jvm.Cond.fieldLink "OutlineCurvesModel" (83 : Nat) "OutlineCurvesModel" "outlines" "I") ∈ allW := inT 666 (by decide +kernel) (by decide +kernel)
theorem q_667 : (Jvm.Cond.fieldLink "OutlineCurvesModel" (13 : Nat) "OutlineCurvesModel" "froms" "[I") ∈ allW := inT 667 (by decide +kernel) (by decide +kernel)
theorem q_668 : (Jvm.Cond.fieldLink "OutlineCurvesModel" (16 : Nat) "OutlineCurvesModel" "sizes" "[I") ∈ allW := inT 668 (by decide +kernel) (by decide +kernel)
theorem q_669 : (Jvm.Cond.fieldLink "OutlineCurvesModel" (19 : Nat) "OutlineCurvesModel" "layersOf" "[I") ∈ allW := inT 669 (by decide +kernel) (by decide +kernel)
theorem q_670 : (Jvm.Cond.fieldLink "OutlineCurvesModel" (22 : Nat) "OutlineCurvesModel" "areas" "[I") ∈ allW := inT 670 (by decide +kernel) (by decide +kernel)
theorem q_671 : (Jvm.Cond.fieldLink "OutlineCurvesModel" (114 : Nat) "OutlineCurvesModel" "points" "I") ∈ allW := inT 671 (by decide +kernel) (by decide +kernel)
theorem q_672 : (Jvm.Cond.fieldLink "OutlineCurvesModel" (25 : Nat) "OutlineCurvesModel" "xs" "[I") ∈ allW := inT 672 (by decide +kernel) (by decide +kernel)
theorem q_673 : (Jvm.Cond.fieldLink "OutlineCurvesModel" (28 : Nat) "OutlineCurvesModel" "ys" "[I") ∈ allW := inT 673 (by decide +kernel) (by decide +kernel)
theorem q_674 : (Jvm.Cond.fieldLink "OutlineCurvesModel" (31 : Nat) "OutlineCurvesModel" "used" "[Z") ∈ allW := inT 674 (by decide +kernel) (by decide +kernel)
theorem q_675 : (Jvm.Cond.fieldLink "OutlineCurvesModel" (86 : Nat) "OutlineCurvesModel" "hasPolygon" "Z") ∈ allW := inT 675 (by decide +kernel) (by decide +kernel)
theorem q_676 : (Jvm.Cond.fieldLink "OutlineCurvesModel" (171 : Nat) "OutlineCurvesModel" "of" "I") ∈ allW := inT 676 (by decide +kernel) (by decide +kernel)
theorem q_677 : (Jvm.Cond.fieldLink "OutlineCurvesModel" (164 : Nat) "OutlineCurvesModel" "corners" "I") ∈ allW := inT 677 (by decide +kernel) (by decide +kernel)
theorem q_678 : (Jvm.Cond.fieldLink "OutlineCurvesModel" (174 : Nat) "OutlineCurvesModel" "costSum" "I") ∈ allW := inT 678 (by decide +kernel) (by decide +kernel)
theorem q_679 : (Jvm.Cond.fieldLink "OutlineCurvesModel" (35 : Nat) "OutlineCurvesModel" "cornerAt" "[I") ∈ allW := inT 679 (by decide +kernel) (by decide +kernel)
theorem q_680 : (Jvm.Cond.fieldLink "OutlineCurvesModel" (38 : Nat) "OutlineCurvesModel" "counts" "[I") ∈ allW := inT 680 (by decide +kernel) (by decide +kernel)
theorem q_681 : (Jvm.Cond.fieldLink "OutlineCurvesModel" (41 : Nat) "OutlineCurvesModel" "costs" "[I") ∈ allW := inT 681 (by decide +kernel) (by decide +kernel)
theorem q_682 : (Jvm.Cond.fieldLink "OutlineCurvesModel" (89 : Nat) "OutlineCurvesModel" "hasCurves" "Z") ∈ allW := inT 682 (by decide +kernel) (by decide +kernel)
theorem q_683 : (Jvm.Cond.fieldLink "OutlineCurvesModel" (226 : Nat) "OutlineCurvesModel" "curveCount" "I") ∈ allW := inT 683 (by decide +kernel) (by decide +kernel)
theorem q_684 : (Jvm.Cond.fieldLink "OutlineCurvesModel" (44 : Nat) "OutlineCurvesModel" "firsts" "[I") ∈ allW := inT 684 (by decide +kernel) (by decide +kernel)
theorem q_685 : (Jvm.Cond.fieldLink "OutlineCurvesModel" (47 : Nat) "OutlineCurvesModel" "manys" "[I") ∈ allW := inT 685 (by decide +kernel) (by decide +kernel)
theorem q_686 : (Jvm.Cond.fieldLink "OutlineCurvesModel" (50 : Nat) "OutlineCurvesModel" "fs" "[I") ∈ allW := inT 686 (by decide +kernel) (by decide +kernel)
theorem q_687 : (Jvm.Cond.fieldLink "OutlineCurvesModel" (214 : Nat) "OutlineCurvesModel" "sharp" "I") ∈ allW := inT 687 (by decide +kernel) (by decide +kernel)
theorem q_688 : (Jvm.Cond.fieldLink "OutlineCurvesModel" (207 : Nat) "OutlineCurvesModel" "allowed" "I") ∈ allW := inT 688 (by decide +kernel) (by decide +kernel)
theorem q_689 : (Jvm.Cond.fieldLink "OutlineCurvesModel" (53 : Nat) "OutlineCurvesModel" "px" "[I") ∈ allW := inT 689 (by decide +kernel) (by decide +kernel)
theorem q_690 : (Jvm.Cond.fieldLink "OutlineCurvesModel" (56 : Nat) "OutlineCurvesModel" "py" "[I") ∈ allW := inT 690 (by decide +kernel) (by decide +kernel)
theorem q_691 : (Jvm.Cond.fieldLink "OutlineCurvesModel" (59 : Nat) "OutlineCurvesModel" "groups" "[I") ∈ allW := inT 691 (by decide +kernel) (by decide +kernel)
theorem q_692 : (Jvm.Cond.fieldLink "OutlineCurvesModel" (62 : Nat) "OutlineCurvesModel" "joinF" "[I") ∈ allW := inT 692 (by decide +kernel) (by decide +kernel)
theorem q_693 : (Jvm.Cond.lays "OutlineCurvesModel" "OutlineCurvesModel" "code" "I") ∈ allW := inT 693 (by decide +kernel) (by decide +kernel)
theorem q_695 : (Jvm.Cond.laysFinal "OutlineCurvesModel" "OutlineCurvesModel" "width" "I") ∈ allW := inT 695 (by decide +kernel) (by decide +kernel)
theorem q_697 : (Jvm.Cond.laysFinal "OutlineCurvesModel" "OutlineCurvesModel" "height" "I") ∈ allW := inT 697 (by decide +kernel) (by decide +kernel)
theorem q_699 : (Jvm.Cond.laysFinal "OutlineCurvesModel" "OutlineCurvesModel" "colours" "[I") ∈ allW := inT 699 (by decide +kernel) (by decide +kernel)
theorem q_701 : (Jvm.Cond.lays "OutlineCurvesModel" "OutlineCurvesModel" "isTraced" "Z") ∈ allW := inT 701 (by decide +kernel) (by decide +kernel)
theorem q_703 : (Jvm.Cond.lays "OutlineCurvesModel" "OutlineCurvesModel" "outlines" "I") ∈ allW := inT 703 (by decide +kernel) (by decide +kernel)
theorem q_705 : (Jvm.Cond.laysFinal "OutlineCurvesModel" "OutlineCurvesModel" "froms" "[I") ∈ allW := inT 705 (by decide +kernel) (by decide +kernel)
theorem q_707 : (Jvm.Cond.laysFinal "OutlineCurvesModel" "OutlineCurvesModel" "sizes" "[I") ∈ allW := inT 707 (by decide +kernel) (by decide +kernel)
theorem q_709 : (Jvm.Cond.laysFinal "OutlineCurvesModel" "OutlineCurvesModel" "layersOf" "[I") ∈ allW := inT 709 (by decide +kernel) (by decide +kernel)
theorem q_711 : (Jvm.Cond.laysFinal "OutlineCurvesModel" "OutlineCurvesModel" "areas" "[I") ∈ allW := inT 711 (by decide +kernel) (by decide +kernel)
theorem q_713 : (Jvm.Cond.lays "OutlineCurvesModel" "OutlineCurvesModel" "points" "I") ∈ allW := inT 713 (by decide +kernel) (by decide +kernel)
theorem q_715 : (Jvm.Cond.laysFinal "OutlineCurvesModel" "OutlineCurvesModel" "xs" "[I") ∈ allW := inT 715 (by decide +kernel) (by decide +kernel)
theorem q_717 : (Jvm.Cond.laysFinal "OutlineCurvesModel" "OutlineCurvesModel" "ys" "[I") ∈ allW := inT 717 (by decide +kernel) (by decide +kernel)
theorem q_719 : (Jvm.Cond.laysFinal "OutlineCurvesModel" "OutlineCurvesModel" "used" "[Z") ∈ allW := inT 719 (by decide +kernel) (by decide +kernel)
theorem q_721 : (Jvm.Cond.lays "OutlineCurvesModel" "OutlineCurvesModel" "hasPolygon" "Z") ∈ allW := inT 721 (by decide +kernel) (by decide +kernel)
theorem q_723 : (Jvm.Cond.lays "OutlineCurvesModel" "OutlineCurvesModel" "of" "I") ∈ allW := inT 723 (by decide +kernel) (by decide +kernel)
theorem q_725 : (Jvm.Cond.lays "OutlineCurvesModel" "OutlineCurvesModel" "corners" "I") ∈ allW := inT 725 (by decide +kernel) (by decide +kernel)
theorem q_727 : (Jvm.Cond.lays "OutlineCurvesModel" "OutlineCurvesModel" "costSum" "I") ∈ allW := inT 727 (by decide +kernel) (by decide +kernel)
theorem q_729 : (Jvm.Cond.laysFinal "OutlineCurvesModel" "OutlineCurvesModel" "cornerAt" "[I") ∈ allW := inT 729 (by decide +kernel) (by decide +kernel)
theorem q_731 : (Jvm.Cond.laysFinal "OutlineCurvesModel" "OutlineCurvesModel" "counts" "[I") ∈ allW := inT 731 (by decide +kernel) (by decide +kernel)
theorem q_733 : (Jvm.Cond.laysFinal "OutlineCurvesModel" "OutlineCurvesModel" "costs" "[I") ∈ allW := inT 733 (by decide +kernel) (by decide +kernel)
theorem q_735 : (Jvm.Cond.lays "OutlineCurvesModel" "OutlineCurvesModel" "hasCurves" "Z") ∈ allW := inT 735 (by decide +kernel) (by decide +kernel)
theorem q_737 : (Jvm.Cond.lays "OutlineCurvesModel" "OutlineCurvesModel" "curveCount" "I") ∈ allW := inT 737 (by decide +kernel) (by decide +kernel)
theorem q_739 : (Jvm.Cond.laysFinal "OutlineCurvesModel" "OutlineCurvesModel" "firsts" "[I") ∈ allW := inT 739 (by decide +kernel) (by decide +kernel)
theorem q_741 : (Jvm.Cond.laysFinal "OutlineCurvesModel" "OutlineCurvesModel" "manys" "[I") ∈ allW := inT 741 (by decide +kernel) (by decide +kernel)
theorem q_743 : (Jvm.Cond.laysFinal "OutlineCurvesModel" "OutlineCurvesModel" "fs" "[I") ∈ allW := inT 743 (by decide +kernel) (by decide +kernel)
theorem q_745 : (Jvm.Cond.lays "OutlineCurvesModel" "OutlineCurvesModel" "sharp" "I") ∈ allW := inT 745 (by decide +kernel) (by decide +kernel)
theorem q_747 : (Jvm.Cond.lays "OutlineCurvesModel" "OutlineCurvesModel" "allowed" "I") ∈ allW := inT 747 (by decide +kernel) (by decide +kernel)
theorem q_749 : (Jvm.Cond.laysFinal "OutlineCurvesModel" "OutlineCurvesModel" "px" "[I") ∈ allW := inT 749 (by decide +kernel) (by decide +kernel)
theorem q_751 : (Jvm.Cond.laysFinal "OutlineCurvesModel" "OutlineCurvesModel" "py" "[I") ∈ allW := inT 751 (by decide +kernel) (by decide +kernel)
theorem q_753 : (Jvm.Cond.laysFinal "OutlineCurvesModel" "OutlineCurvesModel" "groups" "[I") ∈ allW := inT 753 (by decide +kernel) (by decide +kernel)
theorem q_755 : (Jvm.Cond.laysFinal "OutlineCurvesModel" "OutlineCurvesModel" "joinF" "[I") ∈ allW := inT 755 (by decide +kernel) (by decide +kernel)
theorem q_758 : (Jvm.Cond.arrayClass Jvm.ClassFile.FieldType.boolean) ∈ allW := inT 758 (by decide +kernel) (by decide +kernel)
theorem q_767 : (Jvm.Cond.methodLink "OutlineCurvesModel" (92 : Nat) ({ cls := "OutlineCurvesModel", name := "isSample", desc := "(II)Z" } : Jvm.MethodName)) ∈ allW := inT 767 (by decide +kernel) (by decide +kernel)
theorem q_769 : (Jvm.Cond.instanceMethod ({ cls := "OutlineCurvesModel", name := "isSample", desc := "(II)Z" } : Jvm.MethodName)) ∈ allW := inT 769 (by decide +kernel) (by decide +kernel)
theorem q_770 : (Jvm.Cond.code ({ cls := "OutlineCurvesModel", name := "isSample", desc := "(II)Z" } : Jvm.MethodName) prog_7_method_5_code (3 : Nat) (Option.some Jvm.ClassFile.FieldType.boolean)) ∈ allW := inT 770 (by decide +kernel) (by decide +kernel)
theorem q_771 : (Jvm.Cond.methodLink "OutlineCurvesModel" (75 : Nat) ({ cls := "OutlineCurvesModel", name := "in", desc := "(III)Z" } : Jvm.MethodName)) ∈ allW := inT 771 (by decide +kernel) (by decide +kernel)
theorem q_772 : (Jvm.Cond.static ({ cls := "OutlineCurvesModel", name := "in", desc := "(III)Z" } : Jvm.MethodName)) ∈ allW := inT 772 (by decide +kernel) (by decide +kernel)
theorem q_773 : (Jvm.Cond.code ({ cls := "OutlineCurvesModel", name := "in", desc := "(III)Z" } : Jvm.MethodName) prog_7_method_4_code (3 : Nat) (Option.some Jvm.ClassFile.FieldType.boolean)) ∈ allW := inT 773 (by decide +kernel) (by decide +kernel)
theorem q_774 : (Jvm.Cond.methodLink "OutlineCurvesModel" (96 : Nat) ({ cls := "OutlineCurvesModel", name := "refuses", desc := "(I)Z" } : Jvm.MethodName)) ∈ allW := inT 774 (by decide +kernel) (by decide +kernel)
theorem q_776 : (Jvm.Cond.instanceMethod ({ cls := "OutlineCurvesModel", name := "refuses", desc := "(I)Z" } : Jvm.MethodName)) ∈ allW := inT 776 (by decide +kernel) (by decide +kernel)
theorem q_777 : (Jvm.Cond.code ({ cls := "OutlineCurvesModel", name := "refuses", desc := "(I)Z" } : Jvm.MethodName) prog_7_method_3_code (2 : Nat) (Option.some Jvm.ClassFile.FieldType.boolean)) ∈ allW := inT 777 (by decide +kernel) (by decide +kernel)
theorem q_778 : (Jvm.Cond.methodLink "OutlineCurvesModel" (100 : Nat) ({ cls := "OutlineCurvesModel", name := "forget", desc := "()V" } : Jvm.MethodName)) ∈ allW := inT 778 (by decide +kernel) (by decide +kernel)
theorem q_780 : (Jvm.Cond.instanceMethod ({ cls := "OutlineCurvesModel", name := "forget", desc := "()V" } : Jvm.MethodName)) ∈ allW := inT 780 (by decide +kernel) (by decide +kernel)
theorem q_781 : (Jvm.Cond.code ({ cls := "OutlineCurvesModel", name := "forget", desc := "()V" } : Jvm.MethodName) prog_7_method_6_code (1 : Nat) (Option.none : Option Jvm.ClassFile.FieldType)) ∈ allW := inT 781 (by decide +kernel) (by decide +kernel)
theorem q_786 : (Jvm.Cond.methodLink "OutlineCurvesModel" (103 : Nat) ({ cls := "OutlineCurvesModel", name := "isInside", desc := "(III)Z" } : Jvm.MethodName)) ∈ allW := inT 786 (by decide +kernel) (by decide +kernel)
theorem q_788 : (Jvm.Cond.instanceMethod ({ cls := "OutlineCurvesModel", name := "isInside", desc := "(III)Z" } : Jvm.MethodName)) ∈ allW := inT 788 (by decide +kernel) (by decide +kernel)
theorem q_789 : (Jvm.Cond.code ({ cls := "OutlineCurvesModel", name := "isInside", desc := "(III)Z" } : Jvm.MethodName) prog_7_method_8_code (4 : Nat) (Option.some Jvm.ClassFile.FieldType.boolean)) ∈ allW := inT 789 (by decide +kernel) (by decide +kernel)
theorem q_790 : (Jvm.Cond.methodLink "OutlineCurvesModel" (128 : Nat) ({ cls := "OutlineCurvesModel", name := "walk", desc := "(IIIII)V" } : Jvm.MethodName)) ∈ allW := inT 790 (by decide +kernel) (by decide +kernel)
theorem q_792 : (Jvm.Cond.instanceMethod ({ cls := "OutlineCurvesModel", name := "walk", desc := "(IIIII)V" } : Jvm.MethodName)) ∈ allW := inT 792 (by decide +kernel) (by decide +kernel)
theorem q_793 : (Jvm.Cond.code ({ cls := "OutlineCurvesModel", name := "walk", desc := "(IIIII)V" } : Jvm.MethodName) prog_7_method_14_code (12 : Nat) (Option.none : Option Jvm.ClassFile.FieldType)) ∈ allW := inT 793 (by decide +kernel) (by decide +kernel)
theorem q_794 : (Jvm.Cond.methodLink "OutlineCurvesModel" (117 : Nat) ({ cls := "OutlineCurvesModel", name := "stepY", desc := "(I)I" } : Jvm.MethodName)) ∈ allW := inT 794 (by decide +kernel) (by decide +kernel)
theorem q_795 : (Jvm.Cond.static ({ cls := "OutlineCurvesModel", name := "stepY", desc := "(I)I" } : Jvm.MethodName)) ∈ allW := inT 795 (by decide +kernel) (by decide +kernel)
theorem q_796 : (Jvm.Cond.code ({ cls := "OutlineCurvesModel", name := "stepY", desc := "(I)I" } : Jvm.MethodName) prog_7_method_10_code (1 : Nat) (Option.some Jvm.ClassFile.FieldType.int)) ∈ allW := inT 796 (by decide +kernel) (by decide +kernel)
theorem q_797 : (Jvm.Cond.methodLink "OutlineCurvesModel" (121 : Nat) ({ cls := "OutlineCurvesModel", name := "stepX", desc := "(I)I" } : Jvm.MethodName)) ∈ allW := inT 797 (by decide +kernel) (by decide +kernel)
theorem q_798 : (Jvm.Cond.static ({ cls := "OutlineCurvesModel", name := "stepX", desc := "(I)I" } : Jvm.MethodName)) ∈ allW := inT 798 (by decide +kernel) (by decide +kernel)
theorem q_799 : (Jvm.Cond.code ({ cls := "OutlineCurvesModel", name := "stepX", desc := "(I)I" } : Jvm.MethodName) prog_7_method_9_code (1 : Nat) (Option.some Jvm.ClassFile.FieldType.int)) ∈ allW := inT 799 (by decide +kernel) (by decide +kernel)
theorem q_800 : (Jvm.Cond.methodLink "OutlineCurvesModel" (124 : Nat) ({ cls := "OutlineCurvesModel", name := "next", desc := "(IIIII)I" } : Jvm.MethodName)) ∈ allW := inT 800 (by decide +kernel) (by decide +kernel)
theorem q_802 : (Jvm.Cond.instanceMethod ({ cls := "OutlineCurvesModel", name := "next", desc := "(IIIII)I" } : Jvm.MethodName)) ∈ allW := inT 802 (by decide +kernel) (by decide +kernel)
theorem q_803 : (Jvm.Cond.code ({ cls := "OutlineCurvesModel", name := "next", desc := "(IIIII)I" } : Jvm.MethodName) prog_7_method_13_code (10 : Nat) (Option.some Jvm.ClassFile.FieldType.int)) ∈ allW := inT 803 (by decide +kernel) (by decide +kernel)
theorem q_804 : (Jvm.Cond.methodLink "OutlineCurvesModel" (106 : Nat) ({ cls := "OutlineCurvesModel", name := "ahead", desc := "(IIIIZ)Z" } : Jvm.MethodName)) ∈ allW := inT 804 (by decide +kernel) (by decide +kernel)
theorem q_806 : (Jvm.Cond.instanceMethod ({ cls := "OutlineCurvesModel", name := "ahead", desc := "(IIIIZ)Z" } : Jvm.MethodName)) ∈ allW := inT 806 (by decide +kernel) (by decide +kernel)
theorem q_807 : (Jvm.Cond.code ({ cls := "OutlineCurvesModel", name := "ahead", desc := "(IIIIZ)Z" } : Jvm.MethodName) prog_7_method_11_code (8 : Nat) (Option.some Jvm.ClassFile.FieldType.boolean)) ∈ allW := inT 807 (by decide +kernel) (by decide +kernel)
theorem q_808 : (Jvm.Cond.methodLink "OutlineCurvesModel" (110 : Nat) ({ cls := "OutlineCurvesModel", name := "turnsLeft", desc := "(IIII)Z" } : Jvm.MethodName)) ∈ allW := inT 808 (by decide +kernel) (by decide +kernel)
theorem q_810 : (Jvm.Cond.instanceMethod ({ cls := "OutlineCurvesModel", name := "turnsLeft", desc := "(IIII)Z" } : Jvm.MethodName)) ∈ allW := inT 810 (by decide +kernel) (by decide +kernel)
theorem q_811 : (Jvm.Cond.code ({ cls := "OutlineCurvesModel", name := "turnsLeft", desc := "(IIII)Z" } : Jvm.MethodName) prog_7_method_12_code (8 : Nat) (Option.some Jvm.ClassFile.FieldType.boolean)) ∈ allW := inT 811 (by decide +kernel) (by decide +kernel)
theorem q_816 : (Jvm.Cond.methodLink "OutlineCurvesModel" (146 : Nat) ({ cls := "OutlineCurvesModel", name := "liesIn", desc := "(I)I" } : Jvm.MethodName)) ∈ allW := inT 816 (by decide +kernel) (by decide +kernel)
theorem q_818 : (Jvm.Cond.instanceMethod ({ cls := "OutlineCurvesModel", name := "liesIn", desc := "(I)I" } : Jvm.MethodName)) ∈ allW := inT 818 (by decide +kernel) (by decide +kernel)
theorem q_819 : (Jvm.Cond.code ({ cls := "OutlineCurvesModel", name := "liesIn", desc := "(I)I" } : Jvm.MethodName) prog_7_method_20_code (8 : Nat) (Option.some Jvm.ClassFile.FieldType.int)) ∈ allW := inT 819 (by decide +kernel) (by decide +kernel)
theorem q_820 : (Jvm.Cond.methodLink "OutlineCurvesModel" (136 : Nat) ({ cls := "OutlineCurvesModel", name := "xAt", desc := "(II)I" } : Jvm.MethodName)) ∈ allW := inT 820 (by decide +kernel) (by decide +kernel)
theorem q_822 : (Jvm.Cond.instanceMethod ({ cls := "OutlineCurvesModel", name := "xAt", desc := "(II)I" } : Jvm.MethodName)) ∈ allW := inT 822 (by decide +kernel) (by decide +kernel)
theorem q_823 : (Jvm.Cond.code ({ cls := "OutlineCurvesModel", name := "xAt", desc := "(II)I" } : Jvm.MethodName) prog_7_method_16_code (3 : Nat) (Option.some Jvm.ClassFile.FieldType.int)) ∈ allW := inT 823 (by decide +kernel) (by decide +kernel)
theorem q_824 : (Jvm.Cond.methodLink "OutlineCurvesModel" (132 : Nat) ({ cls := "OutlineCurvesModel", name := "yAt", desc := "(II)I" } : Jvm.MethodName)) ∈ allW := inT 824 (by decide +kernel) (by decide +kernel)
theorem q_826 : (Jvm.Cond.instanceMethod ({ cls := "OutlineCurvesModel", name := "yAt", desc := "(II)I" } : Jvm.MethodName)) ∈ allW := inT 826 (by decide +kernel) (by decide +kernel)
theorem q_827 : (Jvm.Cond.code ({ cls := "OutlineCurvesModel", name := "yAt", desc := "(II)I" } : Jvm.MethodName) prog_7_method_17_code (3 : Nat) (Option.some Jvm.ClassFile.FieldType.int)) ∈ allW := inT 827 (by decide +kernel) (by decide +kernel)
theorem q_828 : (Jvm.Cond.methodLink "OutlineCurvesModel" (139 : Nat) ({ cls := "OutlineCurvesModel", name := "upright", desc := "(III)I" } : Jvm.MethodName)) ∈ allW := inT 828 (by decide +kernel) (by decide +kernel)
theorem q_830 : (Jvm.Cond.instanceMethod ({ cls := "OutlineCurvesModel", name := "upright", desc := "(III)I" } : Jvm.MethodName)) ∈ allW := inT 830 (by decide +kernel) (by decide +kernel)
theorem q_831 : (Jvm.Cond.code ({ cls := "OutlineCurvesModel", name := "upright", desc := "(III)I" } : Jvm.MethodName) prog_7_method_18_code (9 : Nat) (Option.some Jvm.ClassFile.FieldType.int)) ∈ allW := inT 831 (by decide +kernel) (by decide +kernel)
theorem q_832 : (Jvm.Cond.methodLink "OutlineCurvesModel" (143 : Nat) ({ cls := "OutlineCurvesModel", name := "size", desc := "(I)I" } : Jvm.MethodName)) ∈ allW := inT 832 (by decide +kernel) (by decide +kernel)
theorem q_833 : (Jvm.Cond.static ({ cls := "OutlineCurvesModel", name := "size", desc := "(I)I" } : Jvm.MethodName)) ∈ allW := inT 833 (by decide +kernel) (by decide +kernel)
theorem q_834 : (Jvm.Cond.code ({ cls := "OutlineCurvesModel", name := "size", desc := "(I)I" } : Jvm.MethodName) prog_7_method_19_code (1 : Nat) (Option.some Jvm.ClassFile.FieldType.int)) ∈ allW := inT 834 (by decide +kernel) (by decide +kernel)
theorem q_847 : (Jvm.Cond.methodLink "OutlineCurvesModel" (152 : Nat) ({ cls := "OutlineCurvesModel", name := "costOf", desc := "(IIII)I" } : Jvm.MethodName)) ∈ allW := inT 847 (by decide +kernel) (by decide +kernel)
theorem q_849 : (Jvm.Cond.instanceMethod ({ cls := "OutlineCurvesModel", name := "costOf", desc := "(IIII)I" } : Jvm.MethodName)) ∈ allW := inT 849 (by decide +kernel) (by decide +kernel)
theorem q_850 : (Jvm.Cond.code ({ cls := "OutlineCurvesModel", name := "costOf", desc := "(IIII)I" } : Jvm.MethodName) prog_7_method_25_code (21 : Nat) (Option.some Jvm.ClassFile.FieldType.int)) ∈ allW := inT 850 (by decide +kernel) (by decide +kernel)
theorem q_851 : (Jvm.Cond.methodLink "OutlineCurvesModel" (149 : Nat) ({ cls := "OutlineCurvesModel", name := "apart", desc := "(II)I" } : Jvm.MethodName)) ∈ allW := inT 851 (by decide +kernel) (by decide +kernel)
theorem q_852 : (Jvm.Cond.static ({ cls := "OutlineCurvesModel", name := "apart", desc := "(II)I" } : Jvm.MethodName)) ∈ allW := inT 852 (by decide +kernel) (by decide +kernel)
theorem q_853 : (Jvm.Cond.code ({ cls := "OutlineCurvesModel", name := "apart", desc := "(II)I" } : Jvm.MethodName) prog_7_method_24_code (2 : Nat) (Option.some Jvm.ClassFile.FieldType.int)) ∈ allW := inT 853 (by decide +kernel) (by decide +kernel)
theorem q_858 : (Jvm.Cond.constant "OutlineCurvesModel" (156 : Nat) (1000000000 : Int32)) ∈ allW := inT 858 (by decide +kernel) (by decide +kernel)
theorem q_859 : (Jvm.Cond.methodLink "OutlineCurvesModel" (160 : Nat) ({ cls := "OutlineCurvesModel", name := "fill", desc := "(III)V" } : Jvm.MethodName)) ∈ allW := inT 859 (by decide +kernel) (by decide +kernel)
theorem q_861 : (Jvm.Cond.instanceMethod ({ cls := "OutlineCurvesModel", name := "fill", desc := "(III)V" } : Jvm.MethodName)) ∈ allW := inT 861 (by decide +kernel) (by decide +kernel)
theorem q_862 : (Jvm.Cond.code ({ cls := "OutlineCurvesModel", name := "fill", desc := "(III)V" } : Jvm.MethodName) prog_7_method_28_code (14 : Nat) (Option.none : Option Jvm.ClassFile.FieldType)) ∈ allW := inT 862 (by decide +kernel) (by decide +kernel)
theorem q_863 : (Jvm.Cond.methodLink "OutlineCurvesModel" (157 : Nat) ({ cls := "OutlineCurvesModel", name := "isLess", desc := "(IIII)Z" } : Jvm.MethodName)) ∈ allW := inT 863 (by decide +kernel) (by decide +kernel)
theorem q_864 : (Jvm.Cond.static ({ cls := "OutlineCurvesModel", name := "isLess", desc := "(IIII)Z" } : Jvm.MethodName)) ∈ allW := inT 864 (by decide +kernel) (by decide +kernel)
theorem q_865 : (Jvm.Cond.code ({ cls := "OutlineCurvesModel", name := "isLess", desc := "(IIII)Z" } : Jvm.MethodName) prog_7_method_27_code (4 : Nat) (Option.some Jvm.ClassFile.FieldType.boolean)) ∈ allW := inT 865 (by decide +kernel) (by decide +kernel)
theorem q_866 : (Jvm.Cond.methodLink "OutlineCurvesModel" (167 : Nat) ({ cls := "OutlineCurvesModel", name := "follows", desc := "(IIIIIII)Z" } : Jvm.MethodName)) ∈ allW := inT 866 (by decide +kernel) (by decide +kernel)
theorem q_868 : (Jvm.Cond.instanceMethod ({ cls := "OutlineCurvesModel", name := "follows", desc := "(IIIIIII)Z" } : Jvm.MethodName)) ∈ allW := inT 868 (by decide +kernel) (by decide +kernel)
theorem q_869 : (Jvm.Cond.code ({ cls := "OutlineCurvesModel", name := "follows", desc := "(IIIIIII)Z" } : Jvm.MethodName) prog_7_method_30_code (12 : Nat) (Option.some Jvm.ClassFile.FieldType.boolean)) ∈ allW := inT 869 (by decide +kernel) (by decide +kernel)
theorem q_874 : (Jvm.Cond.methodLink "OutlineCurvesModel" (177 : Nat) ({ cls := "OutlineCurvesModel", name := "cornerX", desc := "(I)I" } : Jvm.MethodName)) ∈ allW := inT 874 (by decide +kernel) (by decide +kernel)
theorem q_876 : (Jvm.Cond.instanceMethod ({ cls := "OutlineCurvesModel", name := "cornerX", desc := "(I)I" } : Jvm.MethodName)) ∈ allW := inT 876 (by decide +kernel) (by decide +kernel)
theorem q_877 : (Jvm.Cond.code ({ cls := "OutlineCurvesModel", name := "cornerX", desc := "(I)I" } : Jvm.MethodName) prog_7_method_31_code (2 : Nat) (Option.some Jvm.ClassFile.FieldType.int)) ∈ allW := inT 877 (by decide +kernel) (by decide +kernel)
theorem q_878 : (Jvm.Cond.methodLink "OutlineCurvesModel" (180 : Nat) ({ cls := "OutlineCurvesModel", name := "cornerY", desc := "(I)I" } : Jvm.MethodName)) ∈ allW := inT 878 (by decide +kernel) (by decide +kernel)
theorem q_880 : (Jvm.Cond.instanceMethod ({ cls := "OutlineCurvesModel", name := "cornerY", desc := "(I)I" } : Jvm.MethodName)) ∈ allW := inT 880 (by decide +kernel) (by decide +kernel)
theorem q_881 : (Jvm.Cond.code ({ cls := "OutlineCurvesModel", name := "cornerY", desc := "(I)I" } : Jvm.MethodName) prog_7_method_32_code (2 : Nat) (Option.some Jvm.ClassFile.FieldType.int)) ∈ allW := inT 881 (by decide +kernel) (by decide +kernel)
theorem q_882 : (Jvm.Cond.methodLink "OutlineCurvesModel" (186 : Nat) ({ cls := "OutlineCurvesModel", name := "angleAt", desc := "(I)I" } : Jvm.MethodName)) ∈ allW := inT 882 (by decide +kernel) (by decide +kernel)
theorem q_884 : (Jvm.Cond.instanceMethod ({ cls := "OutlineCurvesModel", name := "angleAt", desc := "(I)I" } : Jvm.MethodName)) ∈ allW := inT 884 (by decide +kernel) (by decide +kernel)
theorem q_885 : (Jvm.Cond.code ({ cls := "OutlineCurvesModel", name := "angleAt", desc := "(I)I" } : Jvm.MethodName) prog_7_method_34_code (5 : Nat) (Option.some Jvm.ClassFile.FieldType.int)) ∈ allW := inT 885 (by decide +kernel) (by decide +kernel)
theorem q_886 : (Jvm.Cond.methodLink "OutlineCurvesModel" (183 : Nat) ({ cls := "OutlineCurvesModel", name := "crossAt", desc := "(I)I" } : Jvm.MethodName)) ∈ allW := inT 886 (by decide +kernel) (by decide +kernel)
theorem q_888 : (Jvm.Cond.instanceMethod ({ cls := "OutlineCurvesModel", name := "crossAt", desc := "(I)I" } : Jvm.MethodName)) ∈ allW := inT 888 (by decide +kernel) (by decide +kernel)
theorem q_889 : (Jvm.Cond.code ({ cls := "OutlineCurvesModel", name := "crossAt", desc := "(I)I" } : Jvm.MethodName) prog_7_method_33_code (7 : Nat) (Option.some Jvm.ClassFile.FieldType.int)) ∈ allW := inT 889 (by decide +kernel) (by decide +kernel)
theorem q_890 : (Jvm.Cond.methodLink "OutlineCurvesModel" (189 : Nat) ({ cls := "OutlineCurvesModel", name := "turnAt", desc := "(I)I" } : Jvm.MethodName)) ∈ allW := inT 890 (by decide +kernel) (by decide +kernel)
theorem q_892 : (Jvm.Cond.instanceMethod ({ cls := "OutlineCurvesModel", name := "turnAt", desc := "(I)I" } : Jvm.MethodName)) ∈ allW := inT 892 (by decide +kernel) (by decide +kernel)
theorem q_893 : (Jvm.Cond.code ({ cls := "OutlineCurvesModel", name := "turnAt", desc := "(I)I" } : Jvm.MethodName) prog_7_method_35_code (3 : Nat) (Option.some Jvm.ClassFile.FieldType.int)) ∈ allW := inT 893 (by decide +kernel) (by decide +kernel)
theorem q_898 : (Jvm.Cond.methodLink "OutlineCurvesModel" (217 : Nat) ({ cls := "OutlineCurvesModel", name := "isSharp", desc := "(I)Z" } : Jvm.MethodName)) ∈ allW := inT 898 (by decide +kernel) (by decide +kernel)
theorem q_900 : (Jvm.Cond.instanceMethod ({ cls := "OutlineCurvesModel", name := "isSharp", desc := "(I)Z" } : Jvm.MethodName)) ∈ allW := inT 900 (by decide +kernel) (by decide +kernel)
theorem q_901 : (Jvm.Cond.code ({ cls := "OutlineCurvesModel", name := "isSharp", desc := "(I)Z" } : Jvm.MethodName) prog_7_method_42_code (2 : Nat) (Option.some Jvm.ClassFile.FieldType.boolean)) ∈ allW := inT 901 (by decide +kernel) (by decide +kernel)
theorem q_902 : (Jvm.Cond.methodLink "OutlineCurvesModel" (223 : Nat) ({ cls := "OutlineCurvesModel", name := "joined", desc := "(II)I" } : Jvm.MethodName)) ∈ allW := inT 902 (by decide +kernel) (by decide +kernel)
theorem q_904 : (Jvm.Cond.instanceMethod ({ cls := "OutlineCurvesModel", name := "joined", desc := "(II)I" } : Jvm.MethodName)) ∈ allW := inT 904 (by decide +kernel) (by decide +kernel)
theorem q_905 : (Jvm.Cond.code ({ cls := "OutlineCurvesModel", name := "joined", desc := "(II)I" } : Jvm.MethodName) prog_7_method_43_code (6 : Nat) (Option.some Jvm.ClassFile.FieldType.int)) ∈ allW := inT 905 (by decide +kernel) (by decide +kernel)
theorem q_906 : (Jvm.Cond.methodLink "OutlineCurvesModel" (220 : Nat) ({ cls := "OutlineCurvesModel", name := "fits", desc := "(III)Z" } : Jvm.MethodName)) ∈ allW := inT 906 (by decide +kernel) (by decide +kernel)
theorem q_908 : (Jvm.Cond.instanceMethod ({ cls := "OutlineCurvesModel", name := "fits", desc := "(III)Z" } : Jvm.MethodName)) ∈ allW := inT 908 (by decide +kernel) (by decide +kernel)
theorem q_909 : (Jvm.Cond.code ({ cls := "OutlineCurvesModel", name := "fits", desc := "(III)Z" } : Jvm.MethodName) prog_7_method_41_code (6 : Nat) (Option.some Jvm.ClassFile.FieldType.boolean)) ∈ allW := inT 909 (by decide +kernel) (by decide +kernel)
theorem q_910 : (Jvm.Cond.methodLink "OutlineCurvesModel" (204 : Nat) ({ cls := "OutlineCurvesModel", name := "set", desc := "(III)V" } : Jvm.MethodName)) ∈ allW := inT 910 (by decide +kernel) (by decide +kernel)
theorem q_912 : (Jvm.Cond.instanceMethod ({ cls := "OutlineCurvesModel", name := "set", desc := "(III)V" } : Jvm.MethodName)) ∈ allW := inT 912 (by decide +kernel) (by decide +kernel)
theorem q_913 : (Jvm.Cond.code ({ cls := "OutlineCurvesModel", name := "set", desc := "(III)V" } : Jvm.MethodName) prog_7_method_37_code (7 : Nat) (Option.none : Option Jvm.ClassFile.FieldType)) ∈ allW := inT 913 (by decide +kernel) (by decide +kernel)
theorem q_914 : (Jvm.Cond.methodLink "OutlineCurvesModel" (210 : Nat) ({ cls := "OutlineCurvesModel", name := "isNear", desc := "(IIIZI)Z" } : Jvm.MethodName)) ∈ allW := inT 914 (by decide +kernel) (by decide +kernel)
theorem q_916 : (Jvm.Cond.instanceMethod ({ cls := "OutlineCurvesModel", name := "isNear", desc := "(IIIZI)Z" } : Jvm.MethodName)) ∈ allW := inT 916 (by decide +kernel) (by decide +kernel)
theorem q_917 : (Jvm.Cond.code ({ cls := "OutlineCurvesModel", name := "isNear", desc := "(IIIZI)Z" } : Jvm.MethodName) prog_7_method_40_code (12 : Nat) (Option.some Jvm.ClassFile.FieldType.boolean)) ∈ allW := inT 917 (by decide +kernel) (by decide +kernel)
theorem q_918 : (Jvm.Cond.methodLink "OutlineCurvesModel" (196 : Nat) ({ cls := "OutlineCurvesModel", name := "along", desc := "([IIZ)I" } : Jvm.MethodName)) ∈ allW := inT 918 (by decide +kernel) (by decide +kernel)
theorem q_919 : (Jvm.Cond.static ({ cls := "OutlineCurvesModel", name := "along", desc := "([IIZ)I" } : Jvm.MethodName)) ∈ allW := inT 919 (by decide +kernel) (by decide +kernel)
theorem q_920 : (Jvm.Cond.code ({ cls := "OutlineCurvesModel", name := "along", desc := "([IIZ)I" } : Jvm.MethodName) prog_7_method_38_code (4 : Nat) (Option.some Jvm.ClassFile.FieldType.int)) ∈ allW := inT 920 (by decide +kernel) (by decide +kernel)
theorem q_921 : (Jvm.Cond.methodLink "OutlineCurvesModel" (200 : Nat) ({ cls := "OutlineCurvesModel", name := "isNearLine", desc := "(JJII)Z" } : Jvm.MethodName)) ∈ allW := inT 921 (by decide +kernel) (by decide +kernel)
theorem q_923 : (Jvm.Cond.instanceMethod ({ cls := "OutlineCurvesModel", name := "isNearLine", desc := "(JJII)Z" } : Jvm.MethodName)) ∈ allW := inT 923 (by decide +kernel) (by decide +kernel)
theorem q_924 : (Jvm.Cond.code ({ cls := "OutlineCurvesModel", name := "isNearLine", desc := "(JJII)Z" } : Jvm.MethodName) prog_7_method_39_code (29 : Nat) (Option.some Jvm.ClassFile.FieldType.boolean)) ∈ allW := inT 924 (by decide +kernel) (by decide +kernel)
theorem q_925 : (Jvm.Cond.constantLong "OutlineCurvesModel" (192 : Nat) (16384 : Int64)) ∈ allW := inT 925 (by decide +kernel) (by decide +kernel)
theorem q_926 : (Jvm.Cond.constantLong "OutlineCurvesModel" (194 : Nat) (512 : Int64)) ∈ allW := inT 926 (by decide +kernel) (by decide +kernel)
theorem q_931 : (Jvm.Cond.methodLink "OutlineCurvesModel" (229 : Nat) ({ cls := "OutlineCurvesModel", name := "setCurve", desc := "(I)V" } : Jvm.MethodName)) ∈ allW := inT 931 (by decide +kernel) (by decide +kernel)
theorem q_933 : (Jvm.Cond.instanceMethod ({ cls := "OutlineCurvesModel", name := "setCurve", desc := "(I)V" } : Jvm.MethodName)) ∈ allW := inT 933 (by decide +kernel) (by decide +kernel)
theorem q_934 : (Jvm.Cond.code ({ cls := "OutlineCurvesModel", name := "setCurve", desc := "(I)V" } : Jvm.MethodName) prog_7_method_45_code (2 : Nat) (Option.none : Option Jvm.ClassFile.FieldType)) ∈ allW := inT 934 (by decide +kernel) (by decide +kernel)
theorem q_p10 : (Jvm.Cond.selects "OutlineCurves" ({ cls := "OutlineCurves", name := "requirePoint", desc := "(II)V" } : Jvm.MethodName) ({ cls := "OutlineCurves", name := "requirePoint", desc := "(II)V" } : Jvm.MethodName)) ∈ allW := inP 10 (by decide +kernel) (by decide +kernel)
theorem q_p11 : (Jvm.Cond.selects "OutlineCurves$Outlines" ({ cls := "OutlineCurves$Outlines", name := "directionBit", desc := "(II)I" } : Jvm.MethodName) ({ cls := "OutlineCurves$Outlines", name := "directionBit", desc := "(II)I" } : Jvm.MethodName)) ∈ allW := inP 11 (by decide +kernel) (by decide +kernel)
theorem q_p12 : (Jvm.Cond.selects "OutlineCurves$Polygon" ({ cls := "OutlineCurves$Polygon", name := "weighPieces", desc := "(III)V" } : Jvm.MethodName) ({ cls := "OutlineCurves$Polygon", name := "weighPieces", desc := "(III)V" } : Jvm.MethodName)) ∈ allW := inP 12 (by decide +kernel) (by decide +kernel)
theorem q_p13 : (Jvm.Cond.selects "OutlineCurves$Polygon" ({ cls := "OutlineCurves$Polygon", name := "weighFrom", desc := "(II)I" } : Jvm.MethodName) ({ cls := "OutlineCurves$Polygon", name := "weighFrom", desc := "(II)I" } : Jvm.MethodName)) ∈ allW := inP 13 (by decide +kernel) (by decide +kernel)
theorem q_p14 : (Jvm.Cond.selects "OutlineCurves$Polygon" ({ cls := "OutlineCurves$Polygon", name := "pieceCost", desc := "(II)I" } : Jvm.MethodName) ({ cls := "OutlineCurves$Polygon", name := "pieceCost", desc := "(II)I" } : Jvm.MethodName)) ∈ allW := inP 14 (by decide +kernel) (by decide +kernel)
theorem q_p15 : (Jvm.Cond.selects "OutlineCurves$Polygon" ({ cls := "OutlineCurves$Polygon", name := "leastThrough", desc := "([III)I" } : Jvm.MethodName) ({ cls := "OutlineCurves$Polygon", name := "leastThrough", desc := "([III)I" } : Jvm.MethodName)) ∈ allW := inP 15 (by decide +kernel) (by decide +kernel)
theorem q_p16 : (Jvm.Cond.selects "OutlineCurves$Polygon" ({ cls := "OutlineCurves$Polygon", name := "follow", desc := "(III)V" } : Jvm.MethodName) ({ cls := "OutlineCurves$Polygon", name := "follow", desc := "(III)V" } : Jvm.MethodName)) ∈ allW := inP 16 (by decide +kernel) (by decide +kernel)
theorem q_p17 : (Jvm.Cond.selects "OutlineCurves$Polygon" ({ cls := "OutlineCurves$Polygon", name := "earliestThrough", desc := "([IIII)I" } : Jvm.MethodName) ({ cls := "OutlineCurves$Polygon", name := "earliestThrough", desc := "([IIII)I" } : Jvm.MethodName)) ∈ allW := inP 17 (by decide +kernel) (by decide +kernel)
theorem q_p18 : (Jvm.Cond.selects "OutlineCurves$Polygon" ({ cls := "OutlineCurves$Polygon", name := "measure", desc := "(I)V" } : Jvm.MethodName) ({ cls := "OutlineCurves$Polygon", name := "measure", desc := "(I)V" } : Jvm.MethodName)) ∈ allW := inP 18 (by decide +kernel) (by decide +kernel)
theorem q_p19 : (Jvm.Cond.selects "OutlineCurves$Polygon" ({ cls := "OutlineCurves$Polygon", name := "measureCorner", desc := "(I)V" } : Jvm.MethodName) ({ cls := "OutlineCurves$Polygon", name := "measureCorner", desc := "(I)V" } : Jvm.MethodName)) ∈ allW := inP 19 (by decide +kernel) (by decide +kernel)
theorem q_p20 : (Jvm.Cond.selects "OutlineCurves" ({ cls := "OutlineCurves", name := "requirePolygon", desc := "()V" } : Jvm.MethodName) ({ cls := "OutlineCurves", name := "requirePolygon", desc := "()V" } : Jvm.MethodName)) ∈ allW := inP 20 (by decide +kernel) (by decide +kernel)
theorem q_p21 : (Jvm.Cond.selects "OutlineCurves$CurveRow" ({ cls := "OutlineCurves$CurveRow", name := "firstSharp", desc := "(I)I" } : Jvm.MethodName) ({ cls := "OutlineCurves$CurveRow", name := "firstSharp", desc := "(I)I" } : Jvm.MethodName)) ∈ allW := inP 21 (by decide +kernel) (by decide +kernel)
theorem q_p22 : (Jvm.Cond.selects "OutlineCurves$CurveRow" ({ cls := "OutlineCurves$CurveRow", name := "choose", desc := "(IIII)V" } : Jvm.MethodName) ({ cls := "OutlineCurves$CurveRow", name := "choose", desc := "(IIII)V" } : Jvm.MethodName)) ∈ allW := inP 22 (by decide +kernel) (by decide +kernel)
theorem q_p23 : (Jvm.Cond.selects "OutlineCurves$CurveRow" ({ cls := "OutlineCurves$CurveRow", name := "joinable", desc := "(III)I" } : Jvm.MethodName) ({ cls := "OutlineCurves$CurveRow", name := "joinable", desc := "(III)I" } : Jvm.MethodName)) ∈ allW := inP 23 (by decide +kernel) (by decide +kernel)
theorem q_p24 : (Jvm.Cond.selects "OutlineCurves$CurveRow" ({ cls := "OutlineCurves$CurveRow", name := "leastPull", desc := "(III)I" } : Jvm.MethodName) ({ cls := "OutlineCurves$CurveRow", name := "leastPull", desc := "(III)I" } : Jvm.MethodName)) ∈ allW := inP 24 (by decide +kernel) (by decide +kernel)
theorem q_p25 : (Jvm.Cond.selects "OutlineCurves$CurveRow" ({ cls := "OutlineCurves$CurveRow", name := "layHand", desc := "(III)V" } : Jvm.MethodName) ({ cls := "OutlineCurves$CurveRow", name := "layHand", desc := "(III)V" } : Jvm.MethodName)) ∈ allW := inP 25 (by decide +kernel) (by decide +kernel)
theorem q_p26 : (Jvm.Cond.selects "OutlineCurves$CurveRow" ({ cls := "OutlineCurves$CurveRow", name := "allPlacesNear", desc := "(III)Z" } : Jvm.MethodName) ({ cls := "OutlineCurves$CurveRow", name := "allPlacesNear", desc := "(III)Z" } : Jvm.MethodName)) ∈ allW := inP 26 (by decide +kernel) (by decide +kernel)
theorem q_p27 : (Jvm.Cond.selects "OutlineCurves$CurveRow" ({ cls := "OutlineCurves$CurveRow", name := "nearLines", desc := "(IIIII)Z" } : Jvm.MethodName) ({ cls := "OutlineCurves$CurveRow", name := "nearLines", desc := "(IIIII)Z" } : Jvm.MethodName)) ∈ allW := inP 27 (by decide +kernel) (by decide +kernel)
theorem q_p28 : (Jvm.Cond.selects "OutlineCurves$CurveRow" ({ cls := "OutlineCurves$CurveRow", name := "nearLine", desc := "(IIIIJ)Z" } : Jvm.MethodName) ({ cls := "OutlineCurves$CurveRow", name := "nearLine", desc := "(IIIIJ)Z" } : Jvm.MethodName)) ∈ allW := inP 28 (by decide +kernel) (by decide +kernel)
theorem q_p29 : (Jvm.Cond.selects "OutlineCurves" ({ cls := "OutlineCurves", name := "requireCurve", desc := "(I)V" } : Jvm.MethodName) ({ cls := "OutlineCurves", name := "requireCurve", desc := "(I)V" } : Jvm.MethodName)) ∈ allW := inP 29 (by decide +kernel) (by decide +kernel)
theorem q_p30 : (Jvm.Cond.selects "OutlineCurvesModel" ({ cls := "OutlineCurvesModel", name := "isSample", desc := "(II)Z" } : Jvm.MethodName) ({ cls := "OutlineCurvesModel", name := "isSample", desc := "(II)Z" } : Jvm.MethodName)) ∈ allW := inP 30 (by decide +kernel) (by decide +kernel)
theorem q_p31 : (Jvm.Cond.selects "OutlineCurvesModel" ({ cls := "OutlineCurvesModel", name := "refuses", desc := "(I)Z" } : Jvm.MethodName) ({ cls := "OutlineCurvesModel", name := "refuses", desc := "(I)Z" } : Jvm.MethodName)) ∈ allW := inP 31 (by decide +kernel) (by decide +kernel)
theorem q_p32 : (Jvm.Cond.selects "OutlineCurvesModel" ({ cls := "OutlineCurvesModel", name := "forget", desc := "()V" } : Jvm.MethodName) ({ cls := "OutlineCurvesModel", name := "forget", desc := "()V" } : Jvm.MethodName)) ∈ allW := inP 32 (by decide +kernel) (by decide +kernel)
theorem q_p33 : (Jvm.Cond.selects "OutlineCurvesModel" ({ cls := "OutlineCurvesModel", name := "isInside", desc := "(III)Z" } : Jvm.MethodName) ({ cls := "OutlineCurvesModel", name := "isInside", desc := "(III)Z" } : Jvm.MethodName)) ∈ allW := inP 33 (by decide +kernel) (by decide +kernel)
theorem q_p34 : (Jvm.Cond.selects "OutlineCurvesModel" ({ cls := "OutlineCurvesModel", name := "walk", desc := "(IIIII)V" } : Jvm.MethodName) ({ cls := "OutlineCurvesModel", name := "walk", desc := "(IIIII)V" } : Jvm.MethodName)) ∈ allW := inP 34 (by decide +kernel) (by decide +kernel)
theorem q_p35 : (Jvm.Cond.selects "OutlineCurvesModel" ({ cls := "OutlineCurvesModel", name := "next", desc := "(IIIII)I" } : Jvm.MethodName) ({ cls := "OutlineCurvesModel", name := "next", desc := "(IIIII)I" } : Jvm.MethodName)) ∈ allW := inP 35 (by decide +kernel) (by decide +kernel)
theorem q_p36 : (Jvm.Cond.selects "OutlineCurvesModel" ({ cls := "OutlineCurvesModel", name := "ahead", desc := "(IIIIZ)Z" } : Jvm.MethodName) ({ cls := "OutlineCurvesModel", name := "ahead", desc := "(IIIIZ)Z" } : Jvm.MethodName)) ∈ allW := inP 36 (by decide +kernel) (by decide +kernel)
theorem q_p37 : (Jvm.Cond.selects "OutlineCurvesModel" ({ cls := "OutlineCurvesModel", name := "turnsLeft", desc := "(IIII)Z" } : Jvm.MethodName) ({ cls := "OutlineCurvesModel", name := "turnsLeft", desc := "(IIII)Z" } : Jvm.MethodName)) ∈ allW := inP 37 (by decide +kernel) (by decide +kernel)
theorem q_p38 : (Jvm.Cond.selects "OutlineCurvesModel" ({ cls := "OutlineCurvesModel", name := "liesIn", desc := "(I)I" } : Jvm.MethodName) ({ cls := "OutlineCurvesModel", name := "liesIn", desc := "(I)I" } : Jvm.MethodName)) ∈ allW := inP 38 (by decide +kernel) (by decide +kernel)
theorem q_p39 : (Jvm.Cond.selects "OutlineCurvesModel" ({ cls := "OutlineCurvesModel", name := "xAt", desc := "(II)I" } : Jvm.MethodName) ({ cls := "OutlineCurvesModel", name := "xAt", desc := "(II)I" } : Jvm.MethodName)) ∈ allW := inP 39 (by decide +kernel) (by decide +kernel)
theorem q_p40 : (Jvm.Cond.selects "OutlineCurvesModel" ({ cls := "OutlineCurvesModel", name := "yAt", desc := "(II)I" } : Jvm.MethodName) ({ cls := "OutlineCurvesModel", name := "yAt", desc := "(II)I" } : Jvm.MethodName)) ∈ allW := inP 40 (by decide +kernel) (by decide +kernel)
theorem q_p41 : (Jvm.Cond.selects "OutlineCurvesModel" ({ cls := "OutlineCurvesModel", name := "upright", desc := "(III)I" } : Jvm.MethodName) ({ cls := "OutlineCurvesModel", name := "upright", desc := "(III)I" } : Jvm.MethodName)) ∈ allW := inP 41 (by decide +kernel) (by decide +kernel)
theorem q_p42 : (Jvm.Cond.selects "OutlineCurvesModel" ({ cls := "OutlineCurvesModel", name := "costOf", desc := "(IIII)I" } : Jvm.MethodName) ({ cls := "OutlineCurvesModel", name := "costOf", desc := "(IIII)I" } : Jvm.MethodName)) ∈ allW := inP 42 (by decide +kernel) (by decide +kernel)
theorem q_p43 : (Jvm.Cond.selects "OutlineCurvesModel" ({ cls := "OutlineCurvesModel", name := "fill", desc := "(III)V" } : Jvm.MethodName) ({ cls := "OutlineCurvesModel", name := "fill", desc := "(III)V" } : Jvm.MethodName)) ∈ allW := inP 43 (by decide +kernel) (by decide +kernel)
theorem q_p44 : (Jvm.Cond.selects "OutlineCurvesModel" ({ cls := "OutlineCurvesModel", name := "follows", desc := "(IIIIIII)Z" } : Jvm.MethodName) ({ cls := "OutlineCurvesModel", name := "follows", desc := "(IIIIIII)Z" } : Jvm.MethodName)) ∈ allW := inP 44 (by decide +kernel) (by decide +kernel)
theorem q_p45 : (Jvm.Cond.selects "OutlineCurvesModel" ({ cls := "OutlineCurvesModel", name := "cornerX", desc := "(I)I" } : Jvm.MethodName) ({ cls := "OutlineCurvesModel", name := "cornerX", desc := "(I)I" } : Jvm.MethodName)) ∈ allW := inP 45 (by decide +kernel) (by decide +kernel)
theorem q_p46 : (Jvm.Cond.selects "OutlineCurvesModel" ({ cls := "OutlineCurvesModel", name := "cornerY", desc := "(I)I" } : Jvm.MethodName) ({ cls := "OutlineCurvesModel", name := "cornerY", desc := "(I)I" } : Jvm.MethodName)) ∈ allW := inP 46 (by decide +kernel) (by decide +kernel)
theorem q_p47 : (Jvm.Cond.selects "OutlineCurvesModel" ({ cls := "OutlineCurvesModel", name := "angleAt", desc := "(I)I" } : Jvm.MethodName) ({ cls := "OutlineCurvesModel", name := "angleAt", desc := "(I)I" } : Jvm.MethodName)) ∈ allW := inP 47 (by decide +kernel) (by decide +kernel)
theorem q_p48 : (Jvm.Cond.selects "OutlineCurvesModel" ({ cls := "OutlineCurvesModel", name := "crossAt", desc := "(I)I" } : Jvm.MethodName) ({ cls := "OutlineCurvesModel", name := "crossAt", desc := "(I)I" } : Jvm.MethodName)) ∈ allW := inP 48 (by decide +kernel) (by decide +kernel)
theorem q_p49 : (Jvm.Cond.selects "OutlineCurvesModel" ({ cls := "OutlineCurvesModel", name := "turnAt", desc := "(I)I" } : Jvm.MethodName) ({ cls := "OutlineCurvesModel", name := "turnAt", desc := "(I)I" } : Jvm.MethodName)) ∈ allW := inP 49 (by decide +kernel) (by decide +kernel)
theorem q_p50 : (Jvm.Cond.selects "OutlineCurvesModel" ({ cls := "OutlineCurvesModel", name := "isSharp", desc := "(I)Z" } : Jvm.MethodName) ({ cls := "OutlineCurvesModel", name := "isSharp", desc := "(I)Z" } : Jvm.MethodName)) ∈ allW := inP 50 (by decide +kernel) (by decide +kernel)
theorem q_p51 : (Jvm.Cond.selects "OutlineCurvesModel" ({ cls := "OutlineCurvesModel", name := "joined", desc := "(II)I" } : Jvm.MethodName) ({ cls := "OutlineCurvesModel", name := "joined", desc := "(II)I" } : Jvm.MethodName)) ∈ allW := inP 51 (by decide +kernel) (by decide +kernel)
theorem q_p52 : (Jvm.Cond.selects "OutlineCurvesModel" ({ cls := "OutlineCurvesModel", name := "fits", desc := "(III)Z" } : Jvm.MethodName) ({ cls := "OutlineCurvesModel", name := "fits", desc := "(III)Z" } : Jvm.MethodName)) ∈ allW := inP 52 (by decide +kernel) (by decide +kernel)
theorem q_p53 : (Jvm.Cond.selects "OutlineCurvesModel" ({ cls := "OutlineCurvesModel", name := "set", desc := "(III)V" } : Jvm.MethodName) ({ cls := "OutlineCurvesModel", name := "set", desc := "(III)V" } : Jvm.MethodName)) ∈ allW := inP 53 (by decide +kernel) (by decide +kernel)
theorem q_p54 : (Jvm.Cond.selects "OutlineCurvesModel" ({ cls := "OutlineCurvesModel", name := "isNear", desc := "(IIIZI)Z" } : Jvm.MethodName) ({ cls := "OutlineCurvesModel", name := "isNear", desc := "(IIIZI)Z" } : Jvm.MethodName)) ∈ allW := inP 54 (by decide +kernel) (by decide +kernel)
theorem q_p55 : (Jvm.Cond.selects "OutlineCurvesModel" ({ cls := "OutlineCurvesModel", name := "isNearLine", desc := "(JJII)Z" } : Jvm.MethodName) ({ cls := "OutlineCurvesModel", name := "isNearLine", desc := "(JJII)Z" } : Jvm.MethodName)) ∈ allW := inP 55 (by decide +kernel) (by decide +kernel)
theorem q_p56 : (Jvm.Cond.selects "OutlineCurvesModel" ({ cls := "OutlineCurvesModel", name := "setCurve", desc := "(I)V" } : Jvm.MethodName) ({ cls := "OutlineCurvesModel", name := "setCurve", desc := "(I)V" } : Jvm.MethodName)) ∈ allW := inP 56 (by decide +kernel) (by decide +kernel)
theorem i_O_in : ∀ w ∈ u_ws R_O F_O 4, w ∈ allW := by
  intro w hw
  have hw : w ∈ ([(Jvm.Cond.laysFinal "OutlineCurves" "OutlineCurves" "picture" "LOutlineCurves$Picture;"), (Jvm.Cond.laysFinal "OutlineCurves" "OutlineCurves" "outlines" "LOutlineCurves$Outlines;"), (Jvm.Cond.laysFinal "OutlineCurves" "OutlineCurves" "shape" "LOutlineCurves$Polygon;"), (Jvm.Cond.laysFinal "OutlineCurves" "OutlineCurves" "row" "LOutlineCurves$CurveRow;")] : List Cond) := hw
  simp only [List.mem_cons, List.not_mem_nil, or_false] at hw
  rcases hw with rfl | rfl | rfl | rfl
  · exact q_198
  · exact q_200
  · exact q_202
  · exact q_204
theorem i_P_in : ∀ w ∈ u_ws R_P F_P 3, w ∈ allW := by
  intro w hw
  have hw : w ∈ ([(Jvm.Cond.laysFinal "OutlineCurves$Picture" "OutlineCurves$Picture" "width" "I"), (Jvm.Cond.laysFinal "OutlineCurves$Picture" "OutlineCurves$Picture" "height" "I"), (Jvm.Cond.laysFinal "OutlineCurves$Picture" "OutlineCurves$Picture" "colours" "[B")] : List Cond) := hw
  simp only [List.mem_cons, List.not_mem_nil, or_false] at hw
  rcases hw with rfl | rfl | rfl
  · exact q_43
  · exact q_45
  · exact q_47
theorem i_U_in : ∀ w ∈ u_ws R_U F_U 9, w ∈ allW := by
  intro w hw
  have hw : w ∈ ([(Jvm.Cond.laysFinal "OutlineCurves$Outlines" "OutlineCurves$Outlines" "picture" "LOutlineCurves$Picture;"), (Jvm.Cond.laysFinal "OutlineCurves$Outlines" "OutlineCurves$Outlines" "xs" "[B"), (Jvm.Cond.laysFinal "OutlineCurves$Outlines" "OutlineCurves$Outlines" "ys" "[B"), (Jvm.Cond.laysFinal "OutlineCurves$Outlines" "OutlineCurves$Outlines" "begins" "[I"), (Jvm.Cond.laysFinal "OutlineCurves$Outlines" "OutlineCurves$Outlines" "layers" "[B"), (Jvm.Cond.laysFinal "OutlineCurves$Outlines" "OutlineCurves$Outlines" "areas" "[I"), (Jvm.Cond.laysFinal "OutlineCurves$Outlines" "OutlineCurves$Outlines" "walked" "[B"), (Jvm.Cond.lays "OutlineCurves$Outlines" "OutlineCurves$Outlines" "count" "I"), (Jvm.Cond.lays "OutlineCurves$Outlines" "OutlineCurves$Outlines" "traced" "Z")] : List Cond) := hw
  simp only [List.mem_cons, List.not_mem_nil, or_false] at hw
  rcases hw with rfl | rfl | rfl | rfl | rfl | rfl | rfl | rfl | rfl
  · exact q_80
  · exact q_82
  · exact q_84
  · exact q_86
  · exact q_88
  · exact q_90
  · exact q_92
  · exact q_94
  · exact q_96
theorem i_G_in : ∀ w ∈ u_ws R_G F_G 11, w ∈ allW := by
  intro w hw
  have hw : w ∈ ([(Jvm.Cond.laysFinal "OutlineCurves$Polygon" "OutlineCurves$Polygon" "outlines" "LOutlineCurves$Outlines;"), (Jvm.Cond.laysFinal "OutlineCurves$Polygon" "OutlineCurves$Polygon" "costs" "[I"), (Jvm.Cond.laysFinal "OutlineCurves$Polygon" "OutlineCurves$Polygon" "rest" "[I"), (Jvm.Cond.laysFinal "OutlineCurves$Polygon" "OutlineCurves$Polygon" "restByTwo" "[I"), (Jvm.Cond.laysFinal "OutlineCurves$Polygon" "OutlineCurves$Polygon" "points" "[I"), (Jvm.Cond.laysFinal "OutlineCurves$Polygon" "OutlineCurves$Polygon" "xs" "[I"), (Jvm.Cond.laysFinal "OutlineCurves$Polygon" "OutlineCurves$Polygon" "ys" "[I"), (Jvm.Cond.laysFinal "OutlineCurves$Polygon" "OutlineCurves$Polygon" "angles" "[I"), (Jvm.Cond.laysFinal "OutlineCurves$Polygon" "OutlineCurves$Polygon" "turns" "[I"), (Jvm.Cond.lays "OutlineCurves$Polygon" "OutlineCurves$Polygon" "count" "I"), (Jvm.Cond.lays "OutlineCurves$Polygon" "OutlineCurves$Polygon" "cost" "I")] : List Cond) := hw
  simp only [List.mem_cons, List.not_mem_nil, or_false] at hw
  rcases hw with rfl | rfl | rfl | rfl | rfl | rfl | rfl | rfl | rfl | rfl | rfl
  · exact q_130
  · exact q_132
  · exact q_134
  · exact q_136
  · exact q_138
  · exact q_140
  · exact q_142
  · exact q_144
  · exact q_146
  · exact q_148
  · exact q_150
theorem i_C_in : ∀ w ∈ u_ws R_C F_C 10, w ∈ allW := by
  intro w hw
  have hw : w ∈ ([(Jvm.Cond.laysFinal "OutlineCurves$CurveRow" "OutlineCurves$CurveRow" "polygon" "LOutlineCurves$Polygon;"), (Jvm.Cond.laysFinal "OutlineCurves$CurveRow" "OutlineCurves$CurveRow" "fewest" "[I"), (Jvm.Cond.laysFinal "OutlineCurves$CurveRow" "OutlineCurves$CurveRow" "takenLengths" "[I"), (Jvm.Cond.laysFinal "OutlineCurves$CurveRow" "OutlineCurves$CurveRow" "takenPulls" "[I"), (Jvm.Cond.laysFinal "OutlineCurves$CurveRow" "OutlineCurves$CurveRow" "firsts" "[I"), (Jvm.Cond.laysFinal "OutlineCurves$CurveRow" "OutlineCurves$CurveRow" "lengths" "[I"), (Jvm.Cond.laysFinal "OutlineCurves$CurveRow" "OutlineCurves$CurveRow" "pulls" "[I"), (Jvm.Cond.laysFinal "OutlineCurves$CurveRow" "OutlineCurves$CurveRow" "handX" "[I"), (Jvm.Cond.laysFinal "OutlineCurves$CurveRow" "OutlineCurves$CurveRow" "handY" "[I"), (Jvm.Cond.lays "OutlineCurves$CurveRow" "OutlineCurves$CurveRow" "count" "I")] : List Cond) := hw
  simp only [List.mem_cons, List.not_mem_nil, or_false] at hw
  rcases hw with rfl | rfl | rfl | rfl | rfl | rfl | rfl | rfl | rfl | rfl
  · exact q_173
  · exact q_175
  · exact q_177
  · exact q_179
  · exact q_181
  · exact q_183
  · exact q_185
  · exact q_187
  · exact q_189
  · exact q_191
theorem i_M_in : ∀ w ∈ u_ws R_M F_M 32, w ∈ allW := by
  intro w hw
  have hw : w ∈ ([(Jvm.Cond.lays "OutlineCurvesModel" "OutlineCurvesModel" "code" "I"), (Jvm.Cond.laysFinal "OutlineCurvesModel" "OutlineCurvesModel" "width" "I"), (Jvm.Cond.laysFinal "OutlineCurvesModel" "OutlineCurvesModel" "height" "I"), (Jvm.Cond.laysFinal "OutlineCurvesModel" "OutlineCurvesModel" "colours" "[I"), (Jvm.Cond.lays "OutlineCurvesModel" "OutlineCurvesModel" "isTraced" "Z"), (Jvm.Cond.lays "OutlineCurvesModel" "OutlineCurvesModel" "outlines" "I"), (Jvm.Cond.laysFinal "OutlineCurvesModel" "OutlineCurvesModel" "froms" "[I"), (Jvm.Cond.laysFinal "OutlineCurvesModel" "OutlineCurvesModel" "sizes" "[I"), (Jvm.Cond.laysFinal "OutlineCurvesModel" "OutlineCurvesModel" "layersOf" "[I"), (Jvm.Cond.laysFinal "OutlineCurvesModel" "OutlineCurvesModel" "areas" "[I"), (Jvm.Cond.lays "OutlineCurvesModel" "OutlineCurvesModel" "points" "I"), (Jvm.Cond.laysFinal "OutlineCurvesModel" "OutlineCurvesModel" "xs" "[I"), (Jvm.Cond.laysFinal "OutlineCurvesModel" "OutlineCurvesModel" "ys" "[I"), (Jvm.Cond.laysFinal "OutlineCurvesModel" "OutlineCurvesModel" "used" "[Z"), (Jvm.Cond.lays "OutlineCurvesModel" "OutlineCurvesModel" "hasPolygon" "Z"), (Jvm.Cond.lays "OutlineCurvesModel" "OutlineCurvesModel" "of" "I"), (Jvm.Cond.lays "OutlineCurvesModel" "OutlineCurvesModel" "corners" "I"), (Jvm.Cond.lays "OutlineCurvesModel" "OutlineCurvesModel" "costSum" "I"), (Jvm.Cond.laysFinal "OutlineCurvesModel" "OutlineCurvesModel" "cornerAt" "[I"), (Jvm.Cond.laysFinal "OutlineCurvesModel" "OutlineCurvesModel" "counts" "[I"), (Jvm.Cond.laysFinal "OutlineCurvesModel" "OutlineCurvesModel" "costs" "[I"), (Jvm.Cond.lays "OutlineCurvesModel" "OutlineCurvesModel" "hasCurves" "Z"), (Jvm.Cond.lays "OutlineCurvesModel" "OutlineCurvesModel" "curveCount" "I"), (Jvm.Cond.laysFinal "OutlineCurvesModel" "OutlineCurvesModel" "firsts" "[I"), (Jvm.Cond.laysFinal "OutlineCurvesModel" "OutlineCurvesModel" "manys" "[I"), (Jvm.Cond.laysFinal "OutlineCurvesModel" "OutlineCurvesModel" "fs" "[I"), (Jvm.Cond.lays "OutlineCurvesModel" "OutlineCurvesModel" "sharp" "I"), (Jvm.Cond.lays "OutlineCurvesModel" "OutlineCurvesModel" "allowed" "I"), (Jvm.Cond.laysFinal "OutlineCurvesModel" "OutlineCurvesModel" "px" "[I"), (Jvm.Cond.laysFinal "OutlineCurvesModel" "OutlineCurvesModel" "py" "[I"), (Jvm.Cond.laysFinal "OutlineCurvesModel" "OutlineCurvesModel" "groups" "[I"), (Jvm.Cond.laysFinal "OutlineCurvesModel" "OutlineCurvesModel" "joinF" "[I")] : List Cond) := hw
  simp only [List.mem_cons, List.not_mem_nil, or_false] at hw
  rcases hw with rfl | rfl | rfl | rfl | rfl | rfl | rfl | rfl | rfl | rfl | rfl | rfl | rfl | rfl | rfl | rfl | rfl | rfl | rfl | rfl | rfl | rfl | rfl | rfl | rfl | rfl | rfl | rfl | rfl | rfl | rfl | rfl
  · exact q_693
  · exact q_695
  · exact q_697
  · exact q_699
  · exact q_701
  · exact q_703
  · exact q_705
  · exact q_707
  · exact q_709
  · exact q_711
  · exact q_713
  · exact q_715
  · exact q_717
  · exact q_719
  · exact q_721
  · exact q_723
  · exact q_725
  · exact q_727
  · exact q_729
  · exact q_731
  · exact q_733
  · exact q_735
  · exact q_737
  · exact q_739
  · exact q_741
  · exact q_743
  · exact q_745
  · exact q_747
  · exact q_749
  · exact q_751
  · exact q_753
  · exact q_755
