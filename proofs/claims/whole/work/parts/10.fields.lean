/-! fields, in the order of their numbers -/
def FV : u_T := fun k => match k with
  | 0 => ("FunctionRows$Value", "kind", "I", false)
  | 1 => ("FunctionRows$Value", "amount", "J", false)
  | 2 => ("FunctionRows$Value", "mark", "I", false)
  | 3 => ("FunctionRows$Value", "length", "I", false)
  | _ => ("FunctionRows$Value", "bytes", "[B", true)
def ftV : Nat → FieldType := fun k => match k with
  | 0 => .int
  | 1 => .long
  | 2 => .int
  | 3 => .int
  | _ => .array .byte
theorem fnV : ∀ a, a < 5 → ∀ b, b < 5 → a ≠ b → (FV a).2.1 ≠ (FV b).2.1 := by decide +kernel
theorem ftV_ok : ∀ k, k < 5 → parseFieldDescriptor (FV k).2.2.1 = some (ftV k) := by decide +kernel
theorem fiV : ∀ w ∈ u_ws "FunctionRows$Value" FV 5, w ∈ gw_tbl := by decide +kernel
def FE : u_T := fun k => match k with
  | 0 => ("FunctionRows$Expression", "own", "LFunctionRows$Value;", true)
  | 1 => ("FunctionRows$Expression", "form", "I", false)
  | 2 => ("FunctionRows$Expression", "value", "LFunctionRows$Value;", false)
  | 3 => ("FunctionRows$Expression", "operation", "I", false)
  | 4 => ("FunctionRows$Expression", "a", "LFunctionRows$Expression;", false)
  | 5 => ("FunctionRows$Expression", "b", "LFunctionRows$Expression;", false)
  | 6 => ("FunctionRows$Expression", "c", "LFunctionRows$Expression;", false)
  | 7 => ("FunctionRows$Expression", "variables", "I", false)
  | 8 => ("FunctionRows$Expression", "levels", "I", false)
  | _ => ("FunctionRows$Expression", "wanted", "Z", false)
def ftE : Nat → FieldType := fun k => match k with
  | 0 => .object "FunctionRows$Value"
  | 1 => .int
  | 2 => .object "FunctionRows$Value"
  | 3 => .int
  | 4 => .object "FunctionRows$Expression"
  | 5 => .object "FunctionRows$Expression"
  | 6 => .object "FunctionRows$Expression"
  | 7 => .int
  | 8 => .int
  | _ => .boolean
theorem fnE : ∀ a, a < 10 → ∀ b, b < 10 → a ≠ b → (FE a).2.1 ≠ (FE b).2.1 := by decide +kernel
theorem ftE_ok : ∀ k, k < 10 → parseFieldDescriptor (FE k).2.2.1 = some (ftE k) := by decide +kernel
theorem fiE : ∀ w ∈ u_ws "FunctionRows$Expression" FE 10, w ∈ gw_tbl := by decide +kernel
def FS : u_T := fun k => match k with
  | 0 => ("FunctionRows$Search", "reached", "[I", true)
  | 1 => ("FunctionRows$Search", "states", "I", false)
  | 2 => ("FunctionRows$Search", "from", "[I", true)
  | 3 => ("FunctionRows$Search", "to", "[I", true)
  | 4 => ("FunctionRows$Search", "mask", "[I", true)
  | 5 => ("FunctionRows$Search", "moving", "[I", true)
  | 6 => ("FunctionRows$Search", "ways", "I", false)
  | 7 => ("FunctionRows$Search", "outerFirst", "[I", true)
  | 8 => ("FunctionRows$Search", "outerLast", "[I", true)
  | 9 => ("FunctionRows$Search", "open", "I", false)
  | 10 => ("FunctionRows$Search", "first", "I", false)
  | 11 => ("FunctionRows$Search", "last", "I", false)
  | 12 => ("FunctionRows$Search", "current", "I", false)
  | _ => ("FunctionRows$Search", "place", "I", false)
def ftS : Nat → FieldType := fun k => match k with
  | 0 => .array .int
  | 1 => .int
  | 2 => .array .int
  | 3 => .array .int
  | 4 => .array .int
  | 5 => .array .int
  | 6 => .int
  | 7 => .array .int
  | 8 => .array .int
  | 9 => .int
  | 10 => .int
  | 11 => .int
  | 12 => .int
  | _ => .int
theorem fnS : ∀ a, a < 14 → ∀ b, b < 14 → a ≠ b → (FS a).2.1 ≠ (FS b).2.1 := by decide +kernel
theorem ftS_ok : ∀ k, k < 14 → parseFieldDescriptor (FS k).2.2.1 = some (ftS k) := by decide +kernel
theorem fiS : ∀ w ∈ u_ws "FunctionRows$Search" FS 14, w ∈ gw_tbl := by decide +kernel
def FR : u_T := fun k => match k with
  | 0 => ("FunctionRows", "expressions", "[LFunctionRows$Expression;", true)
  | 1 => ("FunctionRows", "count", "I", false)
  | 2 => ("FunctionRows", "row", "[LFunctionRows$Value;", true)
  | 3 => ("FunctionRows", "latest", "LFunctionRows$Value;", true)
  | 4 => ("FunctionRows", "tape", "[B", true)
  | 5 => ("FunctionRows", "taped", "I", false)
  | _ => ("FunctionRows", "search", "LFunctionRows$Search;", true)
def ftR : Nat → FieldType := fun k => match k with
  | 0 => .array (.object "FunctionRows$Expression")
  | 1 => .int
  | 2 => .array (.object "FunctionRows$Value")
  | 3 => .object "FunctionRows$Value"
  | 4 => .array .byte
  | 5 => .int
  | _ => .object "FunctionRows$Search"
theorem fnR : ∀ a, a < 7 → ∀ b, b < 7 → a ≠ b → (FR a).2.1 ≠ (FR b).2.1 := by decide +kernel
theorem ftR_ok : ∀ k, k < 7 → parseFieldDescriptor (FR k).2.2.1 = some (ftR k) := by decide +kernel
theorem fiR : ∀ w ∈ u_ws "FunctionRows" FR 7, w ∈ gw_tbl := by decide +kernel
def FM : u_T := fun k => match k with
  | 0 => ("FunctionRowsModel", "tapeSize", "I", false)
  | 1 => ("FunctionRowsModel", "tape", "[I", true)
  | 2 => ("FunctionRowsModel", "many", "I", false)
  | 3 => ("FunctionRowsModel", "what", "[I", true)
  | 4 => ("FunctionRowsModel", "said", "[J", true)
  | 5 => ("FunctionRowsModel", "operands", "[I", true)
  | 6 => ("FunctionRowsModel", "saidTags", "[I", true)
  | 7 => ("FunctionRowsModel", "saidBytes", "[B", true)
  | 8 => ("FunctionRowsModel", "kinds", "[I", true)
  | 9 => ("FunctionRowsModel", "numbers", "[J", true)
  | 10 => ("FunctionRowsModel", "tags", "[I", true)
  | 11 => ("FunctionRowsModel", "bytes", "[B", true)
  | 12 => ("FunctionRowsModel", "pattern", "I", false)
  | 13 => ("FunctionRowsModel", "at", "I", false)
  | 14 => ("FunctionRowsModel", "bad", "Z", false)
  | 15 => ("FunctionRowsModel", "over", "I", false)
  | _ => ("FunctionRowsModel", "used", "[I", true)
def ftM : Nat → FieldType := fun k => match k with
  | 0 => .int
  | 1 => .array .int
  | 2 => .int
  | 3 => .array .int
  | 4 => .array .long
  | 5 => .array .int
  | 6 => .array .int
  | 7 => .array .byte
  | 8 => .array .int
  | 9 => .array .long
  | 10 => .array .int
  | 11 => .array .byte
  | 12 => .int
  | 13 => .int
  | 14 => .boolean
  | 15 => .int
  | _ => .array .int
theorem fnM : ∀ a, a < 17 → ∀ b, b < 17 → a ≠ b → (FM a).2.1 ≠ (FM b).2.1 := by decide +kernel
theorem ftM_ok : ∀ k, k < 17 → parseFieldDescriptor (FM k).2.2.1 = some (ftM k) := by decide +kernel
theorem fiM : ∀ w ∈ u_ws "FunctionRowsModel" FM 17, w ∈ gw_tbl := by decide +kernel
abbrev tcl : List vw_C := [("FunctionRows$Value", FV, 5), ("FunctionRows$Expression", FE, 10), ("FunctionRows$Search", FS, 14), ("FunctionRows", FR, 7), ("FunctionRowsModel", FM, 17)]
theorem lkR_11 : Cond.fieldLink "FunctionRows" 11 (FR 0).1 (FR 0).2.1 (FR 0).2.2.1 ∈ gw_tbl := tb_T1 (i := 165) (by decide +kernel) (by decide +kernel)
theorem lkR_17 : Cond.fieldLink "FunctionRows" 17 (FR 2).1 (FR 2).2.1 (FR 2).2.2.1 ∈ gw_tbl := tb_T1 (i := 167) (by decide +kernel) (by decide +kernel)
theorem lkR_22 : Cond.fieldLink "FunctionRows" 22 (FR 3).1 (FR 3).2.1 (FR 3).2.2.1 ∈ gw_tbl := tb_T1 (i := 168) (by decide +kernel) (by decide +kernel)
theorem lkR_26 : Cond.fieldLink "FunctionRows" 26 (FR 4).1 (FR 4).2.1 (FR 4).2.2.1 ∈ gw_tbl := tb_T1 (i := 169) (by decide +kernel) (by decide +kernel)
theorem lkR_33 : Cond.fieldLink "FunctionRows" 33 (FR 6).1 (FR 6).2.1 (FR 6).2.2.1 ∈ gw_tbl := tb_T1 (i := 171) (by decide +kernel) (by decide +kernel)
theorem lkR_42 : Cond.fieldLink "FunctionRows" 42 (FR 5).1 (FR 5).2.1 (FR 5).2.2.1 ∈ gw_tbl := tb_T1 (i := 170) (by decide +kernel) (by decide +kernel)
theorem lkR_46 : Cond.fieldLink "FunctionRows" 46 (FR 1).1 (FR 1).2.1 (FR 1).2.2.1 ∈ gw_tbl := tb_T1 (i := 166) (by decide +kernel) (by decide +kernel)
theorem lkR_97 : Cond.fieldLink "FunctionRows" 97 (FE 9).1 (FE 9).2.1 (FE 9).2.2.1 ∈ gw_tbl := tb_T1 (i := 143) (by decide +kernel) (by decide +kernel)
theorem lkR_112 : Cond.fieldLink "FunctionRows" 112 (FE 2).1 (FE 2).2.1 (FE 2).2.2.1 ∈ gw_tbl := tb_T1 (i := 129) (by decide +kernel) (by decide +kernel)
theorem lkR_119 : Cond.fieldLink "FunctionRows" 119 (FV 0).1 (FV 0).2.1 (FV 0).2.2.1 ∈ gw_tbl := tb_T1 (i := 39) (by decide +kernel) (by decide +kernel)
theorem lkR_124 : Cond.fieldLink "FunctionRows" 124 (FV 3).1 (FV 3).2.1 (FV 3).2.2.1 ∈ gw_tbl := tb_T1 (i := 55) (by decide +kernel) (by decide +kernel)
theorem lkR_127 : Cond.fieldLink "FunctionRows" 127 (FV 1).1 (FV 1).2.1 (FV 1).2.2.1 ∈ gw_tbl := tb_T1 (i := 45) (by decide +kernel) (by decide +kernel)
theorem lkR_131 : Cond.fieldLink "FunctionRows" 131 (FV 2).1 (FV 2).2.1 (FV 2).2.2.1 ∈ gw_tbl := tb_T1 (i := 49) (by decide +kernel) (by decide +kernel)
theorem lkR_143 : Cond.fieldLink "FunctionRows" 143 (FE 7).1 (FE 7).2.1 (FE 7).2.2.1 ∈ gw_tbl := tb_T1 (i := 139) (by decide +kernel) (by decide +kernel)
theorem lkR_146 : Cond.fieldLink "FunctionRows" 146 (FE 8).1 (FE 8).2.1 (FE 8).2.2.1 ∈ gw_tbl := tb_T1 (i := 141) (by decide +kernel) (by decide +kernel)
theorem lkR_153 : Cond.fieldLink "FunctionRows" 153 (FE 4).1 (FE 4).2.1 (FE 4).2.2.1 ∈ gw_tbl := tb_T1 (i := 133) (by decide +kernel) (by decide +kernel)
theorem lkR_157 : Cond.fieldLink "FunctionRows" 157 (FE 5).1 (FE 5).2.1 (FE 5).2.2.1 ∈ gw_tbl := tb_T1 (i := 135) (by decide +kernel) (by decide +kernel)
theorem lkR_160 : Cond.fieldLink "FunctionRows" 160 (FE 6).1 (FE 6).2.1 (FE 6).2.2.1 ∈ gw_tbl := tb_T1 (i := 137) (by decide +kernel) (by decide +kernel)
theorem lkR_163 : Cond.fieldLink "FunctionRows" 163 (FE 3).1 (FE 3).2.1 (FE 3).2.2.1 ∈ gw_tbl := tb_T1 (i := 131) (by decide +kernel) (by decide +kernel)
theorem lkM_7 : Cond.fieldLink "FunctionRowsModel" 7 (FM 1).1 (FM 1).2.1 (FM 1).2.2.1 ∈ gw_tbl := tb_T3 (i := 121) (by decide +kernel) (by decide +kernel)
theorem lkM_13 : Cond.fieldLink "FunctionRowsModel" 13 (FM 3).1 (FM 3).2.1 (FM 3).2.2.1 ∈ gw_tbl := tb_T3 (i := 123) (by decide +kernel) (by decide +kernel)
theorem lkM_16 : Cond.fieldLink "FunctionRowsModel" 16 (FM 4).1 (FM 4).2.1 (FM 4).2.2.1 ∈ gw_tbl := tb_T3 (i := 124) (by decide +kernel) (by decide +kernel)
theorem lkM_20 : Cond.fieldLink "FunctionRowsModel" 20 (FM 5).1 (FM 5).2.1 (FM 5).2.2.1 ∈ gw_tbl := tb_T3 (i := 125) (by decide +kernel) (by decide +kernel)
theorem lkM_23 : Cond.fieldLink "FunctionRowsModel" 23 (FM 6).1 (FM 6).2.1 (FM 6).2.2.1 ∈ gw_tbl := tb_T3 (i := 126) (by decide +kernel) (by decide +kernel)
theorem lkM_26 : Cond.fieldLink "FunctionRowsModel" 26 (FM 7).1 (FM 7).2.1 (FM 7).2.2.1 ∈ gw_tbl := tb_T3 (i := 127) (by decide +kernel) (by decide +kernel)
theorem lkM_30 : Cond.fieldLink "FunctionRowsModel" 30 (FM 8).1 (FM 8).2.1 (FM 8).2.2.1 ∈ gw_tbl := tb_T3 (i := 128) (by decide +kernel) (by decide +kernel)
theorem lkM_33 : Cond.fieldLink "FunctionRowsModel" 33 (FM 9).1 (FM 9).2.1 (FM 9).2.2.1 ∈ gw_tbl := tb_T3 (i := 129) (by decide +kernel) (by decide +kernel)
theorem lkM_36 : Cond.fieldLink "FunctionRowsModel" 36 (FM 10).1 (FM 10).2.1 (FM 10).2.2.1 ∈ gw_tbl := tb_T3 (i := 130) (by decide +kernel) (by decide +kernel)
theorem lkM_39 : Cond.fieldLink "FunctionRowsModel" 39 (FM 11).1 (FM 11).2.1 (FM 11).2.2.1 ∈ gw_tbl := tb_T3 (i := 131) (by decide +kernel) (by decide +kernel)
theorem lkM_42 : Cond.fieldLink "FunctionRowsModel" 42 (FM 16).1 (FM 16).2.1 (FM 16).2.2.1 ∈ gw_tbl := tb_T3 (i := 136) (by decide +kernel) (by decide +kernel)
theorem lkM_57 : Cond.fieldLink "FunctionRowsModel" 57 (FM 0).1 (FM 0).2.1 (FM 0).2.2.1 ∈ gw_tbl := tb_T3 (i := 120) (by decide +kernel) (by decide +kernel)
theorem lkM_61 : Cond.fieldLink "FunctionRowsModel" 61 (FM 2).1 (FM 2).2.1 (FM 2).2.2.1 ∈ gw_tbl := tb_T3 (i := 122) (by decide +kernel) (by decide +kernel)
theorem lkM_197 : Cond.fieldLink "FunctionRowsModel" 197 (FM 12).1 (FM 12).2.1 (FM 12).2.2.1 ∈ gw_tbl := tb_T3 (i := 132) (by decide +kernel) (by decide +kernel)
theorem lkM_200 : Cond.fieldLink "FunctionRowsModel" 200 (FM 15).1 (FM 15).2.1 (FM 15).2.2.1 ∈ gw_tbl := tb_T3 (i := 135) (by decide +kernel) (by decide +kernel)
theorem lkM_203 : Cond.fieldLink "FunctionRowsModel" 203 (FM 13).1 (FM 13).2.1 (FM 13).2.2.1 ∈ gw_tbl := tb_T3 (i := 133) (by decide +kernel) (by decide +kernel)
theorem lkM_206 : Cond.fieldLink "FunctionRowsModel" 206 (FM 14).1 (FM 14).2.1 (FM 14).2.2.1 ∈ gw_tbl := tb_T3 (i := 134) (by decide +kernel) (by decide +kernel)
theorem lkC_9 : Cond.fieldLink "FunctionRows$Casts" 9 (FV 0).1 (FV 0).2.1 (FV 0).2.2.1 ∈ gw_tbl := tb_T1 (i := 36) (by decide +kernel) (by decide +kernel)
theorem lkC_45 : Cond.fieldLink "FunctionRows$Casts" 45 (FV 1).1 (FV 1).2.1 (FV 1).2.2.1 ∈ gw_tbl := tb_T1 (i := 44) (by decide +kernel) (by decide +kernel)
theorem lkC_62 : Cond.fieldLink "FunctionRows$Casts" 62 (FV 3).1 (FV 3).2.1 (FV 3).2.2.1 ∈ gw_tbl := tb_T1 (i := 53) (by decide +kernel) (by decide +kernel)
theorem lkE_12 : Cond.fieldLink "FunctionRows$Expression" 12 (FE 0).1 (FE 0).2.1 (FE 0).2.2.1 ∈ gw_tbl := tb_T1 (i := 126) (by decide +kernel) (by decide +kernel)
theorem lkE_18 : Cond.fieldLink "FunctionRows$Expression" 18 (FE 2).1 (FE 2).2.1 (FE 2).2.2.1 ∈ gw_tbl := tb_T1 (i := 128) (by decide +kernel) (by decide +kernel)
theorem lkE_21 : Cond.fieldLink "FunctionRows$Expression" 21 (FE 1).1 (FE 1).2.1 (FE 1).2.2.1 ∈ gw_tbl := tb_T1 (i := 127) (by decide +kernel) (by decide +kernel)
theorem lkE_25 : Cond.fieldLink "FunctionRows$Expression" 25 (FE 7).1 (FE 7).2.1 (FE 7).2.2.1 ∈ gw_tbl := tb_T1 (i := 138) (by decide +kernel) (by decide +kernel)
theorem lkE_28 : Cond.fieldLink "FunctionRows$Expression" 28 (FE 8).1 (FE 8).2.1 (FE 8).2.2.1 ∈ gw_tbl := tb_T1 (i := 140) (by decide +kernel) (by decide +kernel)
theorem lkE_31 : Cond.fieldLink "FunctionRows$Expression" 31 (FE 3).1 (FE 3).2.1 (FE 3).2.2.1 ∈ gw_tbl := tb_T1 (i := 130) (by decide +kernel) (by decide +kernel)
theorem lkE_34 : Cond.fieldLink "FunctionRows$Expression" 34 (FE 4).1 (FE 4).2.1 (FE 4).2.2.1 ∈ gw_tbl := tb_T1 (i := 132) (by decide +kernel) (by decide +kernel)
theorem lkE_38 : Cond.fieldLink "FunctionRows$Expression" 38 (FE 5).1 (FE 5).2.1 (FE 5).2.2.1 ∈ gw_tbl := tb_T1 (i := 134) (by decide +kernel) (by decide +kernel)
theorem lkE_41 : Cond.fieldLink "FunctionRows$Expression" 41 (FE 6).1 (FE 6).2.1 (FE 6).2.2.1 ∈ gw_tbl := tb_T1 (i := 136) (by decide +kernel) (by decide +kernel)
theorem lkE_54 : Cond.fieldLink "FunctionRows$Expression" 54 (FE 9).1 (FE 9).2.1 (FE 9).2.2.1 ∈ gw_tbl := tb_T1 (i := 142) (by decide +kernel) (by decide +kernel)
theorem lkE_58 : Cond.fieldLink "FunctionRows$Expression" 58 (FV 0).1 (FV 0).2.1 (FV 0).2.2.1 ∈ gw_tbl := tb_T1 (i := 38) (by decide +kernel) (by decide +kernel)
theorem lkS_11 : Cond.fieldLink "FunctionRows$Search" 11 (FS 0).1 (FS 0).2.1 (FS 0).2.2.1 ∈ gw_tbl := tb_T1 (i := 75) (by decide +kernel) (by decide +kernel)
theorem lkS_15 : Cond.fieldLink "FunctionRows$Search" 15 (FS 2).1 (FS 2).2.1 (FS 2).2.2.1 ∈ gw_tbl := tb_T1 (i := 77) (by decide +kernel) (by decide +kernel)
theorem lkS_18 : Cond.fieldLink "FunctionRows$Search" 18 (FS 3).1 (FS 3).2.1 (FS 3).2.2.1 ∈ gw_tbl := tb_T1 (i := 78) (by decide +kernel) (by decide +kernel)
theorem lkS_21 : Cond.fieldLink "FunctionRows$Search" 21 (FS 4).1 (FS 4).2.1 (FS 4).2.2.1 ∈ gw_tbl := tb_T1 (i := 79) (by decide +kernel) (by decide +kernel)
theorem lkS_24 : Cond.fieldLink "FunctionRows$Search" 24 (FS 5).1 (FS 5).2.1 (FS 5).2.2.1 ∈ gw_tbl := tb_T1 (i := 80) (by decide +kernel) (by decide +kernel)
theorem lkS_27 : Cond.fieldLink "FunctionRows$Search" 27 (FS 7).1 (FS 7).2.1 (FS 7).2.2.1 ∈ gw_tbl := tb_T1 (i := 82) (by decide +kernel) (by decide +kernel)
theorem lkS_30 : Cond.fieldLink "FunctionRows$Search" 30 (FS 8).1 (FS 8).2.1 (FS 8).2.2.1 ∈ gw_tbl := tb_T1 (i := 83) (by decide +kernel) (by decide +kernel)
theorem lkS_33 : Cond.fieldLink "FunctionRows$Search" 33 (FV 0).1 (FV 0).2.1 (FV 0).2.2.1 ∈ gw_tbl := tb_T1 (i := 32) (by decide +kernel) (by decide +kernel)
theorem lkS_48 : Cond.fieldLink "FunctionRows$Search" 48 (FV 3).1 (FV 3).2.1 (FV 3).2.2.1 ∈ gw_tbl := tb_T1 (i := 50) (by decide +kernel) (by decide +kernel)
theorem lkS_51 : Cond.fieldLink "FunctionRows$Search" 51 (FS 13).1 (FS 13).2.1 (FS 13).2.2.1 ∈ gw_tbl := tb_T1 (i := 88) (by decide +kernel) (by decide +kernel)
theorem lkS_58 : Cond.fieldLink "FunctionRows$Search" 58 (FS 9).1 (FS 9).2.1 (FS 9).2.2.1 ∈ gw_tbl := tb_T1 (i := 84) (by decide +kernel) (by decide +kernel)
theorem lkS_61 : Cond.fieldLink "FunctionRows$Search" 61 (FS 12).1 (FS 12).2.1 (FS 12).2.2.1 ∈ gw_tbl := tb_T1 (i := 87) (by decide +kernel) (by decide +kernel)
theorem lkS_64 : Cond.fieldLink "FunctionRows$Search" 64 (FS 11).1 (FS 11).2.1 (FS 11).2.2.1 ∈ gw_tbl := tb_T1 (i := 86) (by decide +kernel) (by decide +kernel)
theorem lkS_81 : Cond.fieldLink "FunctionRows$Search" 81 (FS 1).1 (FS 1).2.1 (FS 1).2.2.1 ∈ gw_tbl := tb_T1 (i := 76) (by decide +kernel) (by decide +kernel)
theorem lkS_84 : Cond.fieldLink "FunctionRows$Search" 84 (FS 6).1 (FS 6).2.1 (FS 6).2.2.1 ∈ gw_tbl := tb_T1 (i := 81) (by decide +kernel) (by decide +kernel)
theorem lkS_91 : Cond.fieldLink "FunctionRows$Search" 91 (FS 10).1 (FS 10).2.1 (FS 10).2.2.1 ∈ gw_tbl := tb_T1 (i := 85) (by decide +kernel) (by decide +kernel)
theorem lkT_9 : Cond.fieldLink "FunctionRows$Texts" 9 (FV 0).1 (FV 0).2.1 (FV 0).2.2.1 ∈ gw_tbl := tb_T1 (i := 34) (by decide +kernel) (by decide +kernel)
theorem lkT_18 : Cond.fieldLink "FunctionRows$Texts" 18 (FV 3).1 (FV 3).2.1 (FV 3).2.2.1 ∈ gw_tbl := tb_T1 (i := 51) (by decide +kernel) (by decide +kernel)
theorem lkT_50 : Cond.fieldLink "FunctionRows$Texts" 50 (FV 1).1 (FV 1).2.1 (FV 1).2.2.1 ∈ gw_tbl := tb_T1 (i := 42) (by decide +kernel) (by decide +kernel)
theorem lkT_63 : Cond.fieldLink "FunctionRows$Texts" 63 (FV 2).1 (FV 2).2.1 (FV 2).2.2.1 ∈ gw_tbl := tb_T1 (i := 46) (by decide +kernel) (by decide +kernel)
theorem lkU_33 : Cond.fieldLink "FunctionRows$Truths" 33 (FV 0).1 (FV 0).2.1 (FV 0).2.2.1 ∈ gw_tbl := tb_T1 (i := 37) (by decide +kernel) (by decide +kernel)
theorem lkU_39 : Cond.fieldLink "FunctionRows$Truths" 39 (FV 1).1 (FV 1).2.1 (FV 1).2.2.1 ∈ gw_tbl := tb_T1 (i := 43) (by decide +kernel) (by decide +kernel)
theorem lkU_47 : Cond.fieldLink "FunctionRows$Truths" 47 (FV 3).1 (FV 3).2.1 (FV 3).2.2.1 ∈ gw_tbl := tb_T1 (i := 52) (by decide +kernel) (by decide +kernel)
theorem lkU_50 : Cond.fieldLink "FunctionRows$Truths" 50 (FV 2).1 (FV 2).2.1 (FV 2).2.2.1 ∈ gw_tbl := tb_T1 (i := 48) (by decide +kernel) (by decide +kernel)
theorem lkV_9 : Cond.fieldLink "FunctionRows$Value" 9 (FV 4).1 (FV 4).2.1 (FV 4).2.2.1 ∈ gw_tbl := tb_T1 (i := 56) (by decide +kernel) (by decide +kernel)
theorem lkV_15 : Cond.fieldLink "FunctionRows$Value" 15 (FV 0).1 (FV 0).2.1 (FV 0).2.2.1 ∈ gw_tbl := tb_T1 (i := 35) (by decide +kernel) (by decide +kernel)
theorem lkV_19 : Cond.fieldLink "FunctionRows$Value" 19 (FV 1).1 (FV 1).2.1 (FV 1).2.2.1 ∈ gw_tbl := tb_T1 (i := 41) (by decide +kernel) (by decide +kernel)
theorem lkV_27 : Cond.fieldLink "FunctionRows$Value" 27 (FV 2).1 (FV 2).2.1 (FV 2).2.2.1 ∈ gw_tbl := tb_T1 (i := 47) (by decide +kernel) (by decide +kernel)
theorem lkV_30 : Cond.fieldLink "FunctionRows$Value" 30 (FV 3).1 (FV 3).2.1 (FV 3).2.2.1 ∈ gw_tbl := tb_T1 (i := 54) (by decide +kernel) (by decide +kernel)
theorem lkH_9 : Cond.fieldLink "FunctionRows$Wholes" 9 (FV 0).1 (FV 0).2.1 (FV 0).2.2.1 ∈ gw_tbl := tb_T1 (i := 33) (by decide +kernel) (by decide +kernel)
theorem lkH_18 : Cond.fieldLink "FunctionRows$Wholes" 18 (FV 1).1 (FV 1).2.1 (FV 1).2.2.1 ∈ gw_tbl := tb_T1 (i := 40) (by decide +kernel) (by decide +kernel)
