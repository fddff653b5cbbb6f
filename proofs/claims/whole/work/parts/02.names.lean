abbrev R_O : String := "OutlineCurves"
def F_O : u_T := fun k => match k with
  | 0 => ("OutlineCurves", "picture", "LOutlineCurves$Picture;", true)
  | 1 => ("OutlineCurves", "outlines", "LOutlineCurves$Outlines;", true)
  | 2 => ("OutlineCurves", "shape", "LOutlineCurves$Polygon;", true)
  | _ => ("OutlineCurves", "row", "LOutlineCurves$CurveRow;", true)
def t_O : Nat → FieldType := fun k => match k with
  | 0 => .object "OutlineCurves$Picture"
  | 1 => .object "OutlineCurves$Outlines"
  | 2 => .object "OutlineCurves$Polygon"
  | _ => .object "OutlineCurves$CurveRow"
theorem n_O_ne : ∀ a, a < 4 → ∀ b, b < 4 → a ≠ b → (F_O a).2.1 ≠ (F_O b).2.1 := by decide +kernel
theorem t_O_ok : ∀ k, k < 4 → parseFieldDescriptor (F_O k).2.2.1 = some (t_O k) := by decide +kernel
abbrev R_P : String := "OutlineCurves$Picture"
def F_P : u_T := fun k => match k with
  | 0 => ("OutlineCurves$Picture", "width", "I", true)
  | 1 => ("OutlineCurves$Picture", "height", "I", true)
  | _ => ("OutlineCurves$Picture", "colours", "[B", true)
def t_P : Nat → FieldType := fun k => match k with
  | 0 => .int
  | 1 => .int
  | _ => .array .byte
theorem n_P_ne : ∀ a, a < 3 → ∀ b, b < 3 → a ≠ b → (F_P a).2.1 ≠ (F_P b).2.1 := by decide +kernel
theorem t_P_ok : ∀ k, k < 3 → parseFieldDescriptor (F_P k).2.2.1 = some (t_P k) := by decide +kernel
abbrev R_U : String := "OutlineCurves$Outlines"
def F_U : u_T := fun k => match k with
  | 0 => ("OutlineCurves$Outlines", "picture", "LOutlineCurves$Picture;", true)
  | 1 => ("OutlineCurves$Outlines", "xs", "[B", true)
  | 2 => ("OutlineCurves$Outlines", "ys", "[B", true)
  | 3 => ("OutlineCurves$Outlines", "begins", "[I", true)
  | 4 => ("OutlineCurves$Outlines", "layers", "[B", true)
  | 5 => ("OutlineCurves$Outlines", "areas", "[I", true)
  | 6 => ("OutlineCurves$Outlines", "walked", "[B", true)
  | 7 => ("OutlineCurves$Outlines", "count", "I", false)
  | _ => ("OutlineCurves$Outlines", "traced", "Z", false)
def t_U : Nat → FieldType := fun k => match k with
  | 0 => .object "OutlineCurves$Picture"
  | 1 => .array .byte
  | 2 => .array .byte
  | 3 => .array .int
  | 4 => .array .byte
  | 5 => .array .int
  | 6 => .array .byte
  | 7 => .int
  | _ => .boolean
theorem n_U_ne : ∀ a, a < 9 → ∀ b, b < 9 → a ≠ b → (F_U a).2.1 ≠ (F_U b).2.1 := by decide +kernel
theorem t_U_ok : ∀ k, k < 9 → parseFieldDescriptor (F_U k).2.2.1 = some (t_U k) := by decide +kernel
abbrev R_G : String := "OutlineCurves$Polygon"
def F_G : u_T := fun k => match k with
  | 0 => ("OutlineCurves$Polygon", "outlines", "LOutlineCurves$Outlines;", true)
  | 1 => ("OutlineCurves$Polygon", "costs", "[I", true)
  | 2 => ("OutlineCurves$Polygon", "rest", "[I", true)
  | 3 => ("OutlineCurves$Polygon", "restByTwo", "[I", true)
  | 4 => ("OutlineCurves$Polygon", "points", "[I", true)
  | 5 => ("OutlineCurves$Polygon", "xs", "[I", true)
  | 6 => ("OutlineCurves$Polygon", "ys", "[I", true)
  | 7 => ("OutlineCurves$Polygon", "angles", "[I", true)
  | 8 => ("OutlineCurves$Polygon", "turns", "[I", true)
  | 9 => ("OutlineCurves$Polygon", "count", "I", false)
  | _ => ("OutlineCurves$Polygon", "cost", "I", false)
def t_G : Nat → FieldType := fun k => match k with
  | 0 => .object "OutlineCurves$Outlines"
  | 1 => .array .int
  | 2 => .array .int
  | 3 => .array .int
  | 4 => .array .int
  | 5 => .array .int
  | 6 => .array .int
  | 7 => .array .int
  | 8 => .array .int
  | 9 => .int
  | _ => .int
theorem n_G_ne : ∀ a, a < 11 → ∀ b, b < 11 → a ≠ b → (F_G a).2.1 ≠ (F_G b).2.1 := by decide +kernel
theorem t_G_ok : ∀ k, k < 11 → parseFieldDescriptor (F_G k).2.2.1 = some (t_G k) := by decide +kernel
abbrev R_C : String := "OutlineCurves$CurveRow"
def F_C : u_T := fun k => match k with
  | 0 => ("OutlineCurves$CurveRow", "polygon", "LOutlineCurves$Polygon;", true)
  | 1 => ("OutlineCurves$CurveRow", "fewest", "[I", true)
  | 2 => ("OutlineCurves$CurveRow", "takenLengths", "[I", true)
  | 3 => ("OutlineCurves$CurveRow", "takenPulls", "[I", true)
  | 4 => ("OutlineCurves$CurveRow", "firsts", "[I", true)
  | 5 => ("OutlineCurves$CurveRow", "lengths", "[I", true)
  | 6 => ("OutlineCurves$CurveRow", "pulls", "[I", true)
  | 7 => ("OutlineCurves$CurveRow", "handX", "[I", true)
  | 8 => ("OutlineCurves$CurveRow", "handY", "[I", true)
  | _ => ("OutlineCurves$CurveRow", "count", "I", false)
def t_C : Nat → FieldType := fun k => match k with
  | 0 => .object "OutlineCurves$Polygon"
  | 1 => .array .int
  | 2 => .array .int
  | 3 => .array .int
  | 4 => .array .int
  | 5 => .array .int
  | 6 => .array .int
  | 7 => .array .int
  | 8 => .array .int
  | _ => .int
theorem n_C_ne : ∀ a, a < 10 → ∀ b, b < 10 → a ≠ b → (F_C a).2.1 ≠ (F_C b).2.1 := by decide +kernel
theorem t_C_ok : ∀ k, k < 10 → parseFieldDescriptor (F_C k).2.2.1 = some (t_C k) := by decide +kernel
abbrev R_M : String := "OutlineCurvesModel"
def F_M : u_T := fun k => match k with
  | 0 => ("OutlineCurvesModel", "code", "I", false)
  | 1 => ("OutlineCurvesModel", "width", "I", true)
  | 2 => ("OutlineCurvesModel", "height", "I", true)
  | 3 => ("OutlineCurvesModel", "colours", "[I", true)
  | 4 => ("OutlineCurvesModel", "isTraced", "Z", false)
  | 5 => ("OutlineCurvesModel", "outlines", "I", false)
  | 6 => ("OutlineCurvesModel", "froms", "[I", true)
  | 7 => ("OutlineCurvesModel", "sizes", "[I", true)
  | 8 => ("OutlineCurvesModel", "layersOf", "[I", true)
  | 9 => ("OutlineCurvesModel", "areas", "[I", true)
  | 10 => ("OutlineCurvesModel", "points", "I", false)
  | 11 => ("OutlineCurvesModel", "xs", "[I", true)
  | 12 => ("OutlineCurvesModel", "ys", "[I", true)
  | 13 => ("OutlineCurvesModel", "used", "[Z", true)
  | 14 => ("OutlineCurvesModel", "hasPolygon", "Z", false)
  | 15 => ("OutlineCurvesModel", "of", "I", false)
  | 16 => ("OutlineCurvesModel", "corners", "I", false)
  | 17 => ("OutlineCurvesModel", "costSum", "I", false)
  | 18 => ("OutlineCurvesModel", "cornerAt", "[I", true)
  | 19 => ("OutlineCurvesModel", "counts", "[I", true)
  | 20 => ("OutlineCurvesModel", "costs", "[I", true)
  | 21 => ("OutlineCurvesModel", "hasCurves", "Z", false)
  | 22 => ("OutlineCurvesModel", "curveCount", "I", false)
  | 23 => ("OutlineCurvesModel", "firsts", "[I", true)
  | 24 => ("OutlineCurvesModel", "manys", "[I", true)
  | 25 => ("OutlineCurvesModel", "fs", "[I", true)
  | 26 => ("OutlineCurvesModel", "sharp", "I", false)
  | 27 => ("OutlineCurvesModel", "allowed", "I", false)
  | 28 => ("OutlineCurvesModel", "px", "[I", true)
  | 29 => ("OutlineCurvesModel", "py", "[I", true)
  | 30 => ("OutlineCurvesModel", "groups", "[I", true)
  | _ => ("OutlineCurvesModel", "joinF", "[I", true)
def t_M : Nat → FieldType := fun k => match k with
  | 0 => .int
  | 1 => .int
  | 2 => .int
  | 3 => .array .int
  | 4 => .boolean
  | 5 => .int
  | 6 => .array .int
  | 7 => .array .int
  | 8 => .array .int
  | 9 => .array .int
  | 10 => .int
  | 11 => .array .int
  | 12 => .array .int
  | 13 => .array .boolean
  | 14 => .boolean
  | 15 => .int
  | 16 => .int
  | 17 => .int
  | 18 => .array .int
  | 19 => .array .int
  | 20 => .array .int
  | 21 => .boolean
  | 22 => .int
  | 23 => .array .int
  | 24 => .array .int
  | 25 => .array .int
  | 26 => .int
  | 27 => .int
  | 28 => .array .int
  | 29 => .array .int
  | 30 => .array .int
  | _ => .array .int
theorem n_M_ne : ∀ a, a < 32 → ∀ b, b < 32 → a ≠ b → (F_M a).2.1 ≠ (F_M b).2.1 := by decide +kernel
theorem t_M_ok : ∀ k, k < 32 → parseFieldDescriptor (F_M k).2.2.1 = some (t_M k) := by decide +kernel
abbrev vwCl : List vw_C := [(R_O, F_O, 4), (R_P, F_P, 3), (R_U, F_U, 9), (R_G, F_G, 11), (R_C, F_C, 10), (R_M, F_M, 32)]
abbrev R_L : String := "OutlineCurvesLaw"
abbrev R_Jm : String := "java/lang/Math"
abbrev R_Ji : String := "java/lang/Integer"
abbrev R_Ja : String := "java/util/Arrays"
abbrev b_P_has : ByteArray := prog_4_method_3_code
abbrev y_P_has : MethodName := ⟨"OutlineCurves$Picture", "has", "(II)Z"⟩
abbrev w_P_has : List Cond := .code y_P_has b_P_has 3 (some .boolean) :: allW
abbrev b_P_paint : ByteArray := prog_4_method_5_code
abbrev y_P_paint : MethodName := ⟨"OutlineCurves$Picture", "paint", "(IIII)I"⟩
abbrev w_P_paint : List Cond := .code y_P_paint b_P_paint 9 (some .int) :: allW
abbrev b_Ja_fill : ByteArray := prog_17_method_109_code
abbrev y_Ja_fill : MethodName := ⟨"java/util/Arrays", "fill", "([BB)V"⟩
abbrev w_Ja_fill : List Cond := .code y_Ja_fill b_Ja_fill 4 none :: allW
abbrev b_P_isInside : ByteArray := prog_4_method_4_code
abbrev y_P_isInside : MethodName := ⟨"OutlineCurves$Picture", "isInside", "(III)Z"⟩
abbrev w_P_isInside : List Cond := .code y_P_isInside b_P_isInside 4 (some .boolean) :: allW
abbrev b_Jm_floorMod : ByteArray := prog_13_method_50_code
abbrev y_Jm_floorMod : MethodName := ⟨"java/lang/Math", "floorMod", "(II)I"⟩
abbrev w_Jm_floorMod : List Cond := .code y_Jm_floorMod b_Jm_floorMod 3 (some .int) :: allW
abbrev b_Ji_compare : ByteArray := prog_12_method_40_code
abbrev y_Ji_compare : MethodName := ⟨"java/lang/Integer", "compare", "(II)I"⟩
abbrev w_Ji_compare : List Cond := .code y_Ji_compare b_Ji_compare 2 (some .int) :: allW
abbrev b_P_coloured : ByteArray := prog_4_method_7_code
abbrev y_P_coloured : MethodName := ⟨"OutlineCurves$Picture", "coloured", "()I"⟩
abbrev w_P_coloured : List Cond := .code y_P_coloured b_P_coloured 3 (some .int) :: allW
abbrev b_P_wipe : ByteArray := prog_4_method_6_code
abbrev y_P_wipe : MethodName := ⟨"OutlineCurves$Picture", "wipe", "()V"⟩
abbrev w_P_wipe : List Cond := .code y_P_wipe b_P_wipe 1 none :: allW
abbrev b_P_sides : ByteArray := prog_4_method_2_code
abbrev y_P_sides : MethodName := ⟨"OutlineCurves$Picture", "sides", "()I"⟩
abbrev w_P_sides : List Cond := .code y_P_sides b_P_sides 1 (some .int) :: allW
theorem q_0 : (Jvm.Cond.laysFinal "OutlineCurves" "OutlineCurves" "picture" "LOutlineCurves$Picture;") ∈ allW := inT 198 (by decide +kernel) (by decide +kernel)
theorem q_1 : (Jvm.Cond.laysFinal "OutlineCurves" "OutlineCurves" "outlines" "LOutlineCurves$Outlines;") ∈ allW := inT 200 (by decide +kernel) (by decide +kernel)
theorem q_2 : (Jvm.Cond.laysFinal "OutlineCurves" "OutlineCurves" "shape" "LOutlineCurves$Polygon;") ∈ allW := inT 202 (by decide +kernel) (by decide +kernel)
theorem q_3 : (Jvm.Cond.laysFinal "OutlineCurves" "OutlineCurves" "row" "LOutlineCurves$CurveRow;") ∈ allW := inT 204 (by decide +kernel) (by decide +kernel)
theorem q_4 : (Jvm.Cond.laysFinal "OutlineCurves$Picture" "OutlineCurves$Picture" "width" "I") ∈ allW := inT 43 (by decide +kernel) (by decide +kernel)
theorem q_5 : (Jvm.Cond.laysFinal "OutlineCurves$Picture" "OutlineCurves$Picture" "height" "I") ∈ allW := inT 45 (by decide +kernel) (by decide +kernel)
theorem q_6 : (Jvm.Cond.laysFinal "OutlineCurves$Picture" "OutlineCurves$Picture" "colours" "[B") ∈ allW := inT 47 (by decide +kernel) (by decide +kernel)
theorem q_7 : (Jvm.Cond.laysFinal "OutlineCurves$Outlines" "OutlineCurves$Outlines" "picture" "LOutlineCurves$Picture;") ∈ allW := inT 80 (by decide +kernel) (by decide +kernel)
theorem q_8 : (Jvm.Cond.laysFinal "OutlineCurves$Outlines" "OutlineCurves$Outlines" "xs" "[B") ∈ allW := inT 82 (by decide +kernel) (by decide +kernel)
theorem q_9 : (Jvm.Cond.laysFinal "OutlineCurves$Outlines" "OutlineCurves$Outlines" "ys" "[B") ∈ allW := inT 84 (by decide +kernel) (by decide +kernel)
theorem q_10 : (Jvm.Cond.laysFinal "OutlineCurves$Outlines" "OutlineCurves$Outlines" "begins" "[I") ∈ allW := inT 86 (by decide +kernel) (by decide +kernel)
theorem q_11 : (Jvm.Cond.laysFinal "OutlineCurves$Outlines" "OutlineCurves$Outlines" "layers" "[B") ∈ allW := inT 88 (by decide +kernel) (by decide +kernel)
theorem q_12 : (Jvm.Cond.laysFinal "OutlineCurves$Outlines" "OutlineCurves$Outlines" "areas" "[I") ∈ allW := inT 90 (by decide +kernel) (by decide +kernel)
theorem q_13 : (Jvm.Cond.laysFinal "OutlineCurves$Outlines" "OutlineCurves$Outlines" "walked" "[B") ∈ allW := inT 92 (by decide +kernel) (by decide +kernel)
theorem q_14 : (Jvm.Cond.lays "OutlineCurves$Outlines" "OutlineCurves$Outlines" "count" "I") ∈ allW := inT 94 (by decide +kernel) (by decide +kernel)
theorem q_15 : (Jvm.Cond.lays "OutlineCurves$Outlines" "OutlineCurves$Outlines" "traced" "Z") ∈ allW := inT 96 (by decide +kernel) (by decide +kernel)
theorem q_16 : (Jvm.Cond.laysFinal "OutlineCurves$Polygon" "OutlineCurves$Polygon" "outlines" "LOutlineCurves$Outlines;") ∈ allW := inT 130 (by decide +kernel) (by decide +kernel)
theorem q_17 : (Jvm.Cond.laysFinal "OutlineCurves$Polygon" "OutlineCurves$Polygon" "costs" "[I") ∈ allW := inT 132 (by decide +kernel) (by decide +kernel)
theorem q_18 : (Jvm.Cond.laysFinal "OutlineCurves$Polygon" "OutlineCurves$Polygon" "rest" "[I") ∈ allW := inT 134 (by decide +kernel) (by decide +kernel)
theorem q_19 : (Jvm.Cond.laysFinal "OutlineCurves$Polygon" "OutlineCurves$Polygon" "restByTwo" "[I") ∈ allW := inT 136 (by decide +kernel) (by decide +kernel)
theorem q_20 : (Jvm.Cond.laysFinal "OutlineCurves$Polygon" "OutlineCurves$Polygon" "points" "[I") ∈ allW := inT 138 (by decide +kernel) (by decide +kernel)
theorem q_21 : (Jvm.Cond.laysFinal "OutlineCurves$Polygon" "OutlineCurves$Polygon" "xs" "[I") ∈ allW := inT 140 (by decide +kernel) (by decide +kernel)
theorem q_22 : (Jvm.Cond.laysFinal "OutlineCurves$Polygon" "OutlineCurves$Polygon" "ys" "[I") ∈ allW := inT 142 (by decide +kernel) (by decide +kernel)
theorem q_23 : (Jvm.Cond.laysFinal "OutlineCurves$Polygon" "OutlineCurves$Polygon" "angles" "[I") ∈ allW := inT 144 (by decide +kernel) (by decide +kernel)
theorem q_24 : (Jvm.Cond.laysFinal "OutlineCurves$Polygon" "OutlineCurves$Polygon" "turns" "[I") ∈ allW := inT 146 (by decide +kernel) (by decide +kernel)
theorem q_25 : (Jvm.Cond.lays "OutlineCurves$Polygon" "OutlineCurves$Polygon" "count" "I") ∈ allW := inT 148 (by decide +kernel) (by decide +kernel)
theorem q_26 : (Jvm.Cond.lays "OutlineCurves$Polygon" "OutlineCurves$Polygon" "cost" "I") ∈ allW := inT 150 (by decide +kernel) (by decide +kernel)
theorem q_27 : (Jvm.Cond.laysFinal "OutlineCurves$CurveRow" "OutlineCurves$CurveRow" "polygon" "LOutlineCurves$Polygon;") ∈ allW := inT 173 (by decide +kernel) (by decide +kernel)
theorem q_28 : (Jvm.Cond.laysFinal "OutlineCurves$CurveRow" "OutlineCurves$CurveRow" "fewest" "[I") ∈ allW := inT 175 (by decide +kernel) (by decide +kernel)
theorem q_29 : (Jvm.Cond.laysFinal "OutlineCurves$CurveRow" "OutlineCurves$CurveRow" "takenLengths" "[I") ∈ allW := inT 177 (by decide +kernel) (by decide +kernel)
theorem q_30 : (Jvm.Cond.laysFinal "OutlineCurves$CurveRow" "OutlineCurves$CurveRow" "takenPulls" "[I") ∈ allW := inT 179 (by decide +kernel) (by decide +kernel)
theorem q_31 : (Jvm.Cond.laysFinal "OutlineCurves$CurveRow" "OutlineCurves$CurveRow" "firsts" "[I") ∈ allW := inT 181 (by decide +kernel) (by decide +kernel)
theorem q_32 : (Jvm.Cond.laysFinal "OutlineCurves$CurveRow" "OutlineCurves$CurveRow" "lengths" "[I") ∈ allW := inT 183 (by decide +kernel) (by decide +kernel)
theorem q_33 : (Jvm.Cond.laysFinal "OutlineCurves$CurveRow" "OutlineCurves$CurveRow" "pulls" "[I") ∈ allW := inT 185 (by decide +kernel) (by decide +kernel)
theorem q_34 : (Jvm.Cond.laysFinal "OutlineCurves$CurveRow" "OutlineCurves$CurveRow" "handX" "[I") ∈ allW := inT 187 (by decide +kernel) (by decide +kernel)
theorem q_35 : (Jvm.Cond.laysFinal "OutlineCurves$CurveRow" "OutlineCurves$CurveRow" "handY" "[I") ∈ allW := inT 189 (by decide +kernel) (by decide +kernel)
theorem q_36 : (Jvm.Cond.lays "OutlineCurves$CurveRow" "OutlineCurves$CurveRow" "count" "I") ∈ allW := inT 191 (by decide +kernel) (by decide +kernel)
theorem q_37 : (Jvm.Cond.lays "OutlineCurvesModel" "OutlineCurvesModel" "code" "I") ∈ allW := inT 693 (by decide +kernel) (by decide +kernel)
theorem q_38 : (Jvm.Cond.laysFinal "OutlineCurvesModel" "OutlineCurvesModel" "width" "I") ∈ allW := inT 695 (by decide +kernel) (by decide +kernel)
theorem q_39 : (Jvm.Cond.laysFinal "OutlineCurvesModel" "OutlineCurvesModel" "height" "I") ∈ allW := inT 697 (by decide +kernel) (by decide +kernel)
theorem q_40 : (Jvm.Cond.laysFinal "OutlineCurvesModel" "OutlineCurvesModel" "colours" "[I") ∈ allW := inT 699 (by decide +kernel) (by decide +kernel)
theorem q_41 : (Jvm.Cond.lays "OutlineCurvesModel" "OutlineCurvesModel" "isTraced" "Z") ∈ allW := inT 701 (by decide +kernel) (by decide +kernel)
theorem q_42 : (Jvm.Cond.lays "OutlineCurvesModel" "OutlineCurvesModel" "outlines" "I") ∈ allW := inT 703 (by decide +kernel) (by decide +kernel)
theorem q_43 : (Jvm.Cond.laysFinal "OutlineCurvesModel" "OutlineCurvesModel" "froms" "[I") ∈ allW := inT 705 (by decide +kernel) (by decide +kernel)
theorem q_44 : (Jvm.Cond.laysFinal "OutlineCurvesModel" "OutlineCurvesModel" "sizes" "[I") ∈ allW := inT 707 (by decide +kernel) (by decide +kernel)
theorem q_45 : (Jvm.Cond.laysFinal "OutlineCurvesModel" "OutlineCurvesModel" "layersOf" "[I") ∈ allW := inT 709 (by decide +kernel) (by decide +kernel)
theorem q_46 : (Jvm.Cond.laysFinal "OutlineCurvesModel" "OutlineCurvesModel" "areas" "[I") ∈ allW := inT 711 (by decide +kernel) (by decide +kernel)
theorem q_47 : (Jvm.Cond.lays "OutlineCurvesModel" "OutlineCurvesModel" "points" "I") ∈ allW := inT 713 (by decide +kernel) (by decide +kernel)
theorem q_48 : (Jvm.Cond.laysFinal "OutlineCurvesModel" "OutlineCurvesModel" "xs" "[I") ∈ allW := inT 715 (by decide +kernel) (by decide +kernel)
theorem q_49 : (Jvm.Cond.laysFinal "OutlineCurvesModel" "OutlineCurvesModel" "ys" "[I") ∈ allW := inT 717 (by decide +kernel) (by decide +kernel)
theorem q_50 : (Jvm.Cond.laysFinal "OutlineCurvesModel" "OutlineCurvesModel" "used" "[Z") ∈ allW := inT 719 (by decide +kernel) (by decide +kernel)
theorem q_51 : (Jvm.Cond.lays "OutlineCurvesModel" "OutlineCurvesModel" "hasPolygon" "Z") ∈ allW := inT 721 (by decide +kernel) (by decide +kernel)
theorem q_52 : (Jvm.Cond.lays "OutlineCurvesModel" "OutlineCurvesModel" "of" "I") ∈ allW := inT 723 (by decide +kernel) (by decide +kernel)
theorem q_53 : (Jvm.Cond.lays "OutlineCurvesModel" "OutlineCurvesModel" "corners" "I") ∈ allW := inT 725 (by decide +kernel) (by decide +kernel)
theorem q_54 : (Jvm.Cond.lays "OutlineCurvesModel" "OutlineCurvesModel" "costSum" "I") ∈ allW := inT 727 (by decide +kernel) (by decide +kernel)
theorem q_55 : (Jvm.Cond.laysFinal "OutlineCurvesModel" "OutlineCurvesModel" "cornerAt" "[I") ∈ allW := inT 729 (by decide +kernel) (by decide +kernel)
theorem q_56 : (Jvm.Cond.laysFinal "OutlineCurvesModel" "OutlineCurvesModel" "counts" "[I") ∈ allW := inT 731 (by decide +kernel) (by decide +kernel)
theorem q_57 : (Jvm.Cond.laysFinal "OutlineCurvesModel" "OutlineCurvesModel" "costs" "[I") ∈ allW := inT 733 (by decide +kernel) (by decide +kernel)
theorem q_58 : (Jvm.Cond.lays "OutlineCurvesModel" "OutlineCurvesModel" "hasCurves" "Z") ∈ allW := inT 735 (by decide +kernel) (by decide +kernel)
theorem q_59 : (Jvm.Cond.lays "OutlineCurvesModel" "OutlineCurvesModel" "curveCount" "I") ∈ allW := inT 737 (by decide +kernel) (by decide +kernel)
theorem q_60 : (Jvm.Cond.laysFinal "OutlineCurvesModel" "OutlineCurvesModel" "firsts" "[I") ∈ allW := inT 739 (by decide +kernel) (by decide +kernel)
theorem q_61 : (Jvm.Cond.laysFinal "OutlineCurvesModel" "OutlineCurvesModel" "manys" "[I") ∈ allW := inT 741 (by decide +kernel) (by decide +kernel)
theorem q_62 : (Jvm.Cond.laysFinal "OutlineCurvesModel" "OutlineCurvesModel" "fs" "[I") ∈ allW := inT 743 (by decide +kernel) (by decide +kernel)
theorem q_63 : (Jvm.Cond.lays "OutlineCurvesModel" "OutlineCurvesModel" "sharp" "I") ∈ allW := inT 745 (by decide +kernel) (by decide +kernel)
theorem q_64 : (Jvm.Cond.lays "OutlineCurvesModel" "OutlineCurvesModel" "allowed" "I") ∈ allW := inT 747 (by decide +kernel) (by decide +kernel)
theorem q_65 : (Jvm.Cond.laysFinal "OutlineCurvesModel" "OutlineCurvesModel" "px" "[I") ∈ allW := inT 749 (by decide +kernel) (by decide +kernel)
theorem q_66 : (Jvm.Cond.laysFinal "OutlineCurvesModel" "OutlineCurvesModel" "py" "[I") ∈ allW := inT 751 (by decide +kernel) (by decide +kernel)
theorem q_67 : (Jvm.Cond.laysFinal "OutlineCurvesModel" "OutlineCurvesModel" "groups" "[I") ∈ allW := inT 753 (by decide +kernel) (by decide +kernel)
theorem q_68 : (Jvm.Cond.laysFinal "OutlineCurvesModel" "OutlineCurvesModel" "joinF" "[I") ∈ allW := inT 755 (by decide +kernel) (by decide +kernel)
theorem q_69 : (Jvm.Cond.fieldLink "OutlineCurves$Picture" (18 : Nat) "OutlineCurves$Picture" "width" "I") ∈ allW := inT 36 (by decide +kernel) (by decide +kernel)
theorem q_70 : (Jvm.Cond.fieldLink "OutlineCurves$Picture" (22 : Nat) "OutlineCurves$Picture" "height" "I") ∈ allW := inT 39 (by decide +kernel) (by decide +kernel)
theorem q_71 : (Jvm.Cond.methodLink "OutlineCurves$Picture" (9 : Nat) ({ cls := "java/lang/Math", name := "min", desc := "(II)I" } : Jvm.MethodName)) ∈ allW := inT 30 (by decide +kernel) (by decide +kernel)
theorem q_72 : (Jvm.Cond.static ({ cls := "java/lang/Math", name := "min", desc := "(II)I" } : Jvm.MethodName)) ∈ allW := inT 31 (by decide +kernel) (by decide +kernel)
theorem q_73 : (Jvm.Cond.initialized "java/lang/Math") ∈ allW := inT 3 (by decide +kernel) (by decide +kernel)
theorem q_74 : (Jvm.Cond.code ({ cls := "java/lang/Math", name := "min", desc := "(II)I" } : Jvm.MethodName) prog_13_method_69_code (2 : Nat) (Option.some Jvm.ClassFile.FieldType.int)) ∈ allW := inT 32 (by decide +kernel) (by decide +kernel)
theorem q_75 : (Jvm.Cond.fieldLink "OutlineCurves$Picture" (25 : Nat) "OutlineCurves$Picture" "colours" "[B") ∈ allW := inT 42 (by decide +kernel) (by decide +kernel)
theorem q_76 : (Jvm.Cond.methodLink "OutlineCurves$Picture" (29 : Nat) ({ cls := "OutlineCurves$Picture", name := "has", desc := "(II)Z" } : Jvm.MethodName)) ∈ allW := inT 373 (by decide +kernel) (by decide +kernel)
theorem q_77 : (Jvm.Cond.instanceMethod ({ cls := "OutlineCurves$Picture", name := "has", desc := "(II)Z" } : Jvm.MethodName)) ∈ allW := inT 259 (by decide +kernel) (by decide +kernel)
theorem q_78 : (Jvm.Cond.selects "OutlineCurves$Picture" ({ cls := "OutlineCurves$Picture", name := "has", desc := "(II)Z" } : Jvm.MethodName) ({ cls := "OutlineCurves$Picture", name := "has", desc := "(II)Z" } : Jvm.MethodName)) ∈ allW := inT 260 (by decide +kernel) (by decide +kernel)
theorem q_79 : (Jvm.Cond.initialized "OutlineCurves$Picture") ∈ allW := inT 2 (by decide +kernel) (by decide +kernel)
theorem q_80 : (Jvm.Cond.code ({ cls := "OutlineCurves$Picture", name := "has", desc := "(II)Z" } : Jvm.MethodName) prog_4_method_3_code (3 : Nat) (Option.some Jvm.ClassFile.FieldType.boolean)) ∈ allW := inT 261 (by decide +kernel) (by decide +kernel)
theorem q_81 : (Jvm.Cond.methodLink "OutlineCurves$Picture" (33 : Nat) ({ cls := "java/util/Arrays", name := "fill", desc := "([BB)V" } : Jvm.MethodName)) ∈ allW := inT 223 (by decide +kernel) (by decide +kernel)
theorem q_82 : (Jvm.Cond.static ({ cls := "java/util/Arrays", name := "fill", desc := "([BB)V" } : Jvm.MethodName)) ∈ allW := inT 224 (by decide +kernel) (by decide +kernel)
theorem q_83 : (Jvm.Cond.initialized "java/util/Arrays") ∈ allW := inT 13 (by decide +kernel) (by decide +kernel)
theorem q_84 : (Jvm.Cond.code ({ cls := "java/util/Arrays", name := "fill", desc := "([BB)V" } : Jvm.MethodName) prog_17_method_109_code (4 : Nat) (Option.none : Option Jvm.ClassFile.FieldType)) ∈ allW := inT 225 (by decide +kernel) (by decide +kernel)
theorem i_O_in : ∀ w ∈ u_ws R_O F_O 4, w ∈ allW := by
  intro w hw
  have hw : w ∈ ([(Jvm.Cond.laysFinal "OutlineCurves" "OutlineCurves" "picture" "LOutlineCurves$Picture;"), (Jvm.Cond.laysFinal "OutlineCurves" "OutlineCurves" "outlines" "LOutlineCurves$Outlines;"), (Jvm.Cond.laysFinal "OutlineCurves" "OutlineCurves" "shape" "LOutlineCurves$Polygon;"), (Jvm.Cond.laysFinal "OutlineCurves" "OutlineCurves" "row" "LOutlineCurves$CurveRow;")] : List Cond) := hw
  simp only [List.mem_cons, List.not_mem_nil, or_false] at hw
  rcases hw with rfl | rfl | rfl | rfl
  · exact q_0
  · exact q_1
  · exact q_2
  · exact q_3
theorem i_P_in : ∀ w ∈ u_ws R_P F_P 3, w ∈ allW := by
  intro w hw
  have hw : w ∈ ([(Jvm.Cond.laysFinal "OutlineCurves$Picture" "OutlineCurves$Picture" "width" "I"), (Jvm.Cond.laysFinal "OutlineCurves$Picture" "OutlineCurves$Picture" "height" "I"), (Jvm.Cond.laysFinal "OutlineCurves$Picture" "OutlineCurves$Picture" "colours" "[B")] : List Cond) := hw
  simp only [List.mem_cons, List.not_mem_nil, or_false] at hw
  rcases hw with rfl | rfl | rfl
  · exact q_4
  · exact q_5
  · exact q_6
theorem i_U_in : ∀ w ∈ u_ws R_U F_U 9, w ∈ allW := by
  intro w hw
  have hw : w ∈ ([(Jvm.Cond.laysFinal "OutlineCurves$Outlines" "OutlineCurves$Outlines" "picture" "LOutlineCurves$Picture;"), (Jvm.Cond.laysFinal "OutlineCurves$Outlines" "OutlineCurves$Outlines" "xs" "[B"), (Jvm.Cond.laysFinal "OutlineCurves$Outlines" "OutlineCurves$Outlines" "ys" "[B"), (Jvm.Cond.laysFinal "OutlineCurves$Outlines" "OutlineCurves$Outlines" "begins" "[I"), (Jvm.Cond.laysFinal "OutlineCurves$Outlines" "OutlineCurves$Outlines" "layers" "[B"), (Jvm.Cond.laysFinal "OutlineCurves$Outlines" "OutlineCurves$Outlines" "areas" "[I"), (Jvm.Cond.laysFinal "OutlineCurves$Outlines" "OutlineCurves$Outlines" "walked" "[B"), (Jvm.Cond.lays "OutlineCurves$Outlines" "OutlineCurves$Outlines" "count" "I"), (Jvm.Cond.lays "OutlineCurves$Outlines" "OutlineCurves$Outlines" "traced" "Z")] : List Cond) := hw
  simp only [List.mem_cons, List.not_mem_nil, or_false] at hw
  rcases hw with rfl | rfl | rfl | rfl | rfl | rfl | rfl | rfl | rfl
  · exact q_7
  · exact q_8
  · exact q_9
  · exact q_10
  · exact q_11
  · exact q_12
  · exact q_13
  · exact q_14
  · exact q_15
theorem i_G_in : ∀ w ∈ u_ws R_G F_G 11, w ∈ allW := by
  intro w hw
  have hw : w ∈ ([(Jvm.Cond.laysFinal "OutlineCurves$Polygon" "OutlineCurves$Polygon" "outlines" "LOutlineCurves$Outlines;"), (Jvm.Cond.laysFinal "OutlineCurves$Polygon" "OutlineCurves$Polygon" "costs" "[I"), (Jvm.Cond.laysFinal "OutlineCurves$Polygon" "OutlineCurves$Polygon" "rest" "[I"), (Jvm.Cond.laysFinal "OutlineCurves$Polygon" "OutlineCurves$Polygon" "restByTwo" "[I"), (Jvm.Cond.laysFinal "OutlineCurves$Polygon" "OutlineCurves$Polygon" "points" "[I"), (Jvm.Cond.laysFinal "OutlineCurves$Polygon" "OutlineCurves$Polygon" "xs" "[I"), (Jvm.Cond.laysFinal "OutlineCurves$Polygon" "OutlineCurves$Polygon" "ys" "[I"), (Jvm.Cond.laysFinal "OutlineCurves$Polygon" "OutlineCurves$Polygon" "angles" "[I"), (Jvm.Cond.laysFinal "OutlineCurves$Polygon" "OutlineCurves$Polygon" "turns" "[I"), (Jvm.Cond.lays "OutlineCurves$Polygon" "OutlineCurves$Polygon" "count" "I"), (Jvm.Cond.lays "OutlineCurves$Polygon" "OutlineCurves$Polygon" "cost" "I")] : List Cond) := hw
  simp only [List.mem_cons, List.not_mem_nil, or_false] at hw
  rcases hw with rfl | rfl | rfl | rfl | rfl | rfl | rfl | rfl | rfl | rfl | rfl
  · exact q_16
  · exact q_17
  · exact q_18
  · exact q_19
  · exact q_20
  · exact q_21
  · exact q_22
  · exact q_23
  · exact q_24
  · exact q_25
  · exact q_26
theorem i_C_in : ∀ w ∈ u_ws R_C F_C 10, w ∈ allW := by
  intro w hw
  have hw : w ∈ ([(Jvm.Cond.laysFinal "OutlineCurves$CurveRow" "OutlineCurves$CurveRow" "polygon" "LOutlineCurves$Polygon;"), (Jvm.Cond.laysFinal "OutlineCurves$CurveRow" "OutlineCurves$CurveRow" "fewest" "[I"), (Jvm.Cond.laysFinal "OutlineCurves$CurveRow" "OutlineCurves$CurveRow" "takenLengths" "[I"), (Jvm.Cond.laysFinal "OutlineCurves$CurveRow" "OutlineCurves$CurveRow" "takenPulls" "[I"), (Jvm.Cond.laysFinal "OutlineCurves$CurveRow" "OutlineCurves$CurveRow" "firsts" "[I"), (Jvm.Cond.laysFinal "OutlineCurves$CurveRow" "OutlineCurves$CurveRow" "lengths" "[I"), (Jvm.Cond.laysFinal "OutlineCurves$CurveRow" "OutlineCurves$CurveRow" "pulls" "[I"), (Jvm.Cond.laysFinal "OutlineCurves$CurveRow" "OutlineCurves$CurveRow" "handX" "[I"), (Jvm.Cond.laysFinal "OutlineCurves$CurveRow" "OutlineCurves$CurveRow" "handY" "[I"), (Jvm.Cond.lays "OutlineCurves$CurveRow" "OutlineCurves$CurveRow" "count" "I")] : List Cond) := hw
  simp only [List.mem_cons, List.not_mem_nil, or_false] at hw
  rcases hw with rfl | rfl | rfl | rfl | rfl | rfl | rfl | rfl | rfl | rfl
  · exact q_27
  · exact q_28
  · exact q_29
  · exact q_30
  · exact q_31
  · exact q_32
  · exact q_33
  · exact q_34
  · exact q_35
  · exact q_36
theorem i_M_in : ∀ w ∈ u_ws R_M F_M 32, w ∈ allW := by
  intro w hw
  have hw : w ∈ ([(Jvm.Cond.lays "OutlineCurvesModel" "OutlineCurvesModel" "code" "I"), (Jvm.Cond.laysFinal "OutlineCurvesModel" "OutlineCurvesModel" "width" "I"), (Jvm.Cond.laysFinal "OutlineCurvesModel" "OutlineCurvesModel" "height" "I"), (Jvm.Cond.laysFinal "OutlineCurvesModel" "OutlineCurvesModel" "colours" "[I"), (Jvm.Cond.lays "OutlineCurvesModel" "OutlineCurvesModel" "isTraced" "Z"), (Jvm.Cond.lays "OutlineCurvesModel" "OutlineCurvesModel" "outlines" "I"), (Jvm.Cond.laysFinal "OutlineCurvesModel" "OutlineCurvesModel" "froms" "[I"), (Jvm.Cond.laysFinal "OutlineCurvesModel" "OutlineCurvesModel" "sizes" "[I"), (Jvm.Cond.laysFinal "OutlineCurvesModel" "OutlineCurvesModel" "layersOf" "[I"), (Jvm.Cond.laysFinal "OutlineCurvesModel" "OutlineCurvesModel" "areas" "[I"), (Jvm.Cond.lays "OutlineCurvesModel" "OutlineCurvesModel" "points" "I"), (Jvm.Cond.laysFinal "OutlineCurvesModel" "OutlineCurvesModel" "xs" "[I"), (Jvm.Cond.laysFinal "OutlineCurvesModel" "OutlineCurvesModel" "ys" "[I"), (Jvm.Cond.laysFinal "OutlineCurvesModel" "OutlineCurvesModel" "used" "[Z"), (Jvm.Cond.lays "OutlineCurvesModel" "OutlineCurvesModel" "hasPolygon" "Z"), (Jvm.Cond.lays "OutlineCurvesModel" "OutlineCurvesModel" "of" "I"), (Jvm.Cond.lays "OutlineCurvesModel" "OutlineCurvesModel" "corners" "I"), (Jvm.Cond.lays "OutlineCurvesModel" "OutlineCurvesModel" "costSum" "I"), (Jvm.Cond.laysFinal "OutlineCurvesModel" "OutlineCurvesModel" "cornerAt" "[I"), (Jvm.Cond.laysFinal "OutlineCurvesModel" "OutlineCurvesModel" "counts" "[I"), (Jvm.Cond.laysFinal "OutlineCurvesModel" "OutlineCurvesModel" "costs" "[I"), (Jvm.Cond.lays "OutlineCurvesModel" "OutlineCurvesModel" "hasCurves" "Z"), (Jvm.Cond.lays "OutlineCurvesModel" "OutlineCurvesModel" "curveCount" "I"), (Jvm.Cond.laysFinal "OutlineCurvesModel" "OutlineCurvesModel" "firsts" "[I"), (Jvm.Cond.laysFinal "OutlineCurvesModel" "OutlineCurvesModel" "manys" "[I"), (Jvm.Cond.laysFinal "OutlineCurvesModel" "OutlineCurvesModel" "fs" "[I"), (Jvm.Cond.lays "OutlineCurvesModel" "OutlineCurvesModel" "sharp" "I"), (Jvm.Cond.lays "OutlineCurvesModel" "OutlineCurvesModel" "allowed" "I"), (Jvm.Cond.laysFinal "OutlineCurvesModel" "OutlineCurvesModel" "px" "[I"), (Jvm.Cond.laysFinal "OutlineCurvesModel" "OutlineCurvesModel" "py" "[I"), (Jvm.Cond.laysFinal "OutlineCurvesModel" "OutlineCurvesModel" "groups" "[I"), (Jvm.Cond.laysFinal "OutlineCurvesModel" "OutlineCurvesModel" "joinF" "[I")] : List Cond) := hw
  simp only [List.mem_cons, List.not_mem_nil, or_false] at hw
  rcases hw with rfl | rfl | rfl | rfl | rfl | rfl | rfl | rfl | rfl | rfl | rfl | rfl | rfl | rfl | rfl | rfl | rfl | rfl | rfl | rfl | rfl | rfl | rfl | rfl | rfl | rfl | rfl | rfl | rfl | rfl | rfl | rfl
  · exact q_37
  · exact q_38
  · exact q_39
  · exact q_40
  · exact q_41
  · exact q_42
  · exact q_43
  · exact q_44
  · exact q_45
  · exact q_46
  · exact q_47
  · exact q_48
  · exact q_49
  · exact q_50
  · exact q_51
  · exact q_52
  · exact q_53
  · exact q_54
  · exact q_55
  · exact q_56
  · exact q_57
  · exact q_58
  · exact q_59
  · exact q_60
  · exact q_61
  · exact q_62
  · exact q_63
  · exact q_64
  · exact q_65
  · exact q_66
  · exact q_67
  · exact q_68
