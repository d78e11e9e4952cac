/-! the reference: its methods, words -/
abbrev mM_init : MethodName × List Cond × Room := (yM_init, wsT yM_init prog_10_method_1_code 1 none, rmL 1)
abbrev mM_in : MethodName × List Cond × Room := (yM_in, wsT yM_in prog_10_method_3_code 6 (some .boolean), rmL 1)
abbrev mM_type : MethodName × List Cond × Room := (yM_type, wsT yM_type prog_10_method_4_code 6 (some .int), rmL 2)
abbrev mM_add : MethodName × List Cond × Room := (yM_add, wsT yM_add prog_10_method_5_code 4 (some .int), rmL 1)
abbrev mM_text : MethodName × List Cond × Room := (yM_text, wsT yM_text prog_10_method_6_code 5 (some .int), rmL 2)
abbrev mM_whole : MethodName × List Cond × Room := (yM_whole, wsT yM_whole prog_10_method_7_code 3 (some .int), rmL 2)
abbrev mM_leaf : MethodName × List Cond × Room := (yM_leaf, wsT yM_leaf prog_10_method_8_code 4 (some .int), rmL 2)
abbrev mM_isExpression : MethodName × List Cond × Room := (yM_isExpression, wsT yM_isExpression prog_10_method_9_code 2 (some .boolean), rmL 2)
abbrev mM_arity : MethodName × List Cond × Room := (yM_arity, wsT yM_arity prog_10_method_10_code 1 (some .int), rmL 1)
abbrev mM_takes : MethodName × List Cond × Room := (yM_takes, wsT yM_takes prog_10_method_11_code 2 (some .int), rmL 2)
abbrev mM_call : MethodName × List Cond × Room := (yM_call, wsT yM_call prog_10_method_12_code 7 (some .int), rmL 3)
abbrev mM_copy : MethodName × List Cond × Room := (yM_copy, wsT yM_copy prog_10_method_13_code 4 none, rmL 1)
abbrev mM_set : MethodName × List Cond × Room := (yM_set, wsT yM_set prog_10_method_14_code 5 none, rmL 1)
abbrev mM_setTruth : MethodName × List Cond × Room := (yM_setTruth, wsT yM_setTruth prog_10_method_15_code 3 none, rmL 2)
abbrev mM_setWhole : MethodName × List Cond × Room := (yM_setWhole, wsT yM_setWhole prog_10_method_16_code 4 none, rmL 2)
abbrev mM_truth : MethodName × List Cond × Room := (yM_truth, wsT yM_truth prog_10_method_17_code 2 (some .int), rmL 1)
abbrev mM_length : MethodName × List Cond × Room := (yM_length, wsT yM_length prog_10_method_18_code 2 (some .int), rmL 1)
abbrev mM_byteAt : MethodName × List Cond × Room := (yM_byteAt, wsT yM_byteAt prog_10_method_19_code 3 (some .int), rmL 1)
abbrev mM_setPart : MethodName × List Cond × Room := (yM_setPart, wsT yM_setPart prog_10_method_20_code 8 none, rmL 2)
abbrev mM_say : MethodName × List Cond × Room := (yM_say, wsT yM_say prog_10_method_21_code 3 none, rmL 1)
abbrev mM_sayNumber : MethodName × List Cond × Room := (yM_sayNumber, wsT yM_sayNumber prog_10_method_22_code 8 none, rmL 2)
abbrev mM_sayAll : MethodName × List Cond × Room := (yM_sayAll, wsT yM_sayAll prog_10_method_23_code 4 none, rmL 2)
abbrev mM_same : MethodName × List Cond × Room := (yM_same, wsT yM_same prog_10_method_24_code 5 (some .int), rmL 2)
abbrev mM_less : MethodName × List Cond × Room := (yM_less, wsT yM_less prog_10_method_25_code 6 (some .int), rmL 2)
abbrev mM_stands : MethodName × List Cond × Room := (yM_stands, wsT yM_stands prog_10_method_26_code 6 (some .boolean), rmL 2)
abbrev mM_placeOf : MethodName × List Cond × Room := (yM_placeOf, wsT yM_placeOf prog_10_method_27_code 5 (some .int), rmL 3)
abbrev mM_reckon : MethodName × List Cond × Room := (yM_reckon, wsT yM_reckon prog_10_method_28_code 6 none, rmL 111)
abbrev mM_truths : MethodName × List Cond × Room := (yM_truths, wsT yM_truths prog_10_method_29_code 7 none, rmL 3)
abbrev mM_arithmetic : MethodName × List Cond × Room := (yM_arithmetic, wsT yM_arithmetic prog_10_method_30_code 11 none, rmL 3)
abbrev mM_texts : MethodName × List Cond × Room := (yM_texts, wsT yM_texts prog_10_method_31_code 10 none, rmL 3)
abbrev mM_places : MethodName × List Cond × Room := (yM_places, wsT yM_places prog_10_method_32_code 6 none, rmL 4)
abbrev mM_others : MethodName × List Cond × Room := (yM_others, wsT yM_others prog_10_method_33_code 7 none, rmL 4)
abbrev mM_asNumber : MethodName × List Cond × Room := (yM_asNumber, wsT yM_asNumber prog_10_method_34_code 9 none, rmL 2)
abbrev mM_words : MethodName × List Cond × Room := (yM_words, wsT yM_words prog_10_method_35_code 4 none, rmL 3)
abbrev mM_last : MethodName × List Cond × Room := (yM_last, wsT yM_last prog_10_method_36_code 8 none, rmL 110)
abbrev mM_goes : MethodName × List Cond × Room := (yM_goes, wsT yM_goes prog_10_method_37_code 5 none, rmL 109)
abbrev mM_here : MethodName × List Cond × Room := (yM_here, wsT yM_here prog_10_method_38_code 1 (some .int), rmL 2)
abbrev mM_alternatives (v : Nat) : MethodName × List Cond × Room := (yM_alternatives, wsT yM_alternatives prog_10_method_39_code 3 (some .int), rmL v)
abbrev mM_pieces (v : Nat) : MethodName × List Cond × Room := (yM_pieces, wsT yM_pieces prog_10_method_40_code 3 (some .int), rmL v)
abbrev mM_piece (v : Nat) : MethodName × List Cond × Room := (yM_piece, wsT yM_piece prog_10_method_41_code 9 (some .int), rmL v)
abbrev mM_step : MethodName × List Cond × Room := (yM_step, wsT yM_step prog_10_method_42_code 6 (some .int), rmL 2)
abbrev mM_atom (v : Nat) : MethodName × List Cond × Room := (yM_atom, wsT yM_atom prog_10_method_43_code 5 (some .int), rmL v)
abbrev mM_isItem : MethodName × List Cond × Room := (yM_isItem, wsT yM_isItem prog_10_method_44_code 2 (some .boolean), rmL 3)
abbrev mM_items : MethodName × List Cond × Room := (yM_items, wsT yM_items prog_10_method_45_code 7 (some .int), rmL 4)
abbrev mM_run : MethodName × List Cond × Room := (yM_run, wsT yM_run prog_10_method_46_code 3 (some .int), rmL 112)
abbrev mM_number : MethodName × List Cond × Room := (yM_number, wsT yM_number prog_10_method_47_code 1 (some .long), rmL 1)
abbrev mM_tag : MethodName × List Cond × Room := (yM_tag, wsT yM_tag prog_10_method_48_code 1 (some .int), rmL 1)
abbrev mM_letter : MethodName × List Cond × Room := (yM_letter, wsT yM_letter prog_10_method_49_code 2 (some .int), rmL 2)
abbrev mM_give : MethodName × List Cond × Room := (yM_give, wsT yM_give prog_10_method_50_code 2 (some .int), rmL 2)
abbrev mM_drop : MethodName × List Cond × Room := (yM_drop, wsT yM_drop prog_10_method_51_code 3 (some .int), rmL 2)
abbrev mM_uses : MethodName × List Cond × Room := (yM_uses, wsT yM_uses prog_10_method_52_code 4 (some .int), rmL 3)
abbrev mM_depth : MethodName × List Cond × Room := (yM_depth, wsT yM_depth prog_10_method_53_code 4 (some .int), rmL 3)
abbrev mM_clear : MethodName × List Cond × Room := (yM_clear, wsT yM_clear prog_10_method_54_code 2 (some .int), rmL 1)
abbrev mM_size : MethodName × List Cond × Room := (yM_size, wsT yM_size prog_10_method_55_code 1 (some .int), rmL 1)
theorem klM_92 : Cond.constantLong "FunctionRowsModel" 92 (24) ∈ gw_tbl := tb_T4 (i := 51) (by decide +kernel) (by decide +kernel)
theorem klM_241 : Cond.constantLong "FunctionRowsModel" 241 (-2) ∈ gw_tbl := tb_T4 (i := 132) (by decide +kernel) (by decide +kernel)
theorem klM_45 : Cond.constantLong "FunctionRowsModel" 45 (8) ∈ gw_tbl := tb_T3 (i := 177) (by decide +kernel) (by decide +kernel)
theorem inM : Cond.initialized "FunctionRowsModel" ∈ gw_tbl := tb_T1 (i := 5) (by decide +kernel) (by decide +kernel)
theorem mlM_47 : Cond.methodLink "FunctionRowsModel" 47 yM_in ∈ gw_tbl := tb_T3 (i := 178) rfl rfl
theorem stM_in : Cond.static yM_in ∈ gw_tbl := tb_T3 (i := 179) rfl rfl
theorem klM_51 : Cond.constantLong "FunctionRowsModel" 51 (255) ∈ gw_tbl := tb_T3 (i := 181) (by decide +kernel) (by decide +kernel)
theorem klM_53 : Cond.constantLong "FunctionRowsModel" 53 (32) ∈ gw_tbl := tb_T3 (i := 182) (by decide +kernel) (by decide +kernel)
theorem klM_55 : Cond.constantLong "FunctionRowsModel" 55 (126) ∈ gw_tbl := tb_T3 (i := 183) (by decide +kernel) (by decide +kernel)
theorem klM_64 : Cond.constantLong "FunctionRowsModel" 64 (26) ∈ gw_tbl := tb_T3 (i := 188) (by decide +kernel) (by decide +kernel)
theorem mlM_66 : Cond.methodLink "FunctionRowsModel" 66 yM_add ∈ gw_tbl := tb_T3 (i := 189) rfl rfl
theorem imM_add : Cond.instanceMethod yM_add ∈ gw_tbl := tb_T3 (i := 191) rfl rfl
theorem seM_add : Cond.selects "FunctionRowsModel" yM_add yM_add ∈ gw_tbl := tb_S (i := 15) rfl rfl
theorem klM_70 : Cond.constantLong "FunctionRowsModel" 70 (-1000000000000000) ∈ gw_tbl := tb_T3 (i := 197) (by decide +kernel) (by decide +kernel)
theorem klM_72 : Cond.constantLong "FunctionRowsModel" 72 (1000000000000000) ∈ gw_tbl := tb_T3 (i := 198) (by decide +kernel) (by decide +kernel)
theorem klM_74 : Cond.constantLong "FunctionRowsModel" 74 (999) ∈ gw_tbl := tb_T3 (i := 203) (by decide +kernel) (by decide +kernel)
theorem klM_76 : Cond.constantLong "FunctionRowsModel" 76 (7) ∈ gw_tbl := tb_T3 (i := 204) (by decide +kernel) (by decide +kernel)
theorem klM_78 : Cond.constantLong "FunctionRowsModel" 78 (29) ∈ gw_tbl := tb_T3 (i := 209) (by decide +kernel) (by decide +kernel)
theorem mlM_80 : Cond.methodLink "FunctionRowsModel" 80 yM_arity ∈ gw_tbl := tb_T3 (i := 210) rfl rfl
theorem stM_arity : Cond.static yM_arity ∈ gw_tbl := tb_T3 (i := 211) rfl rfl
theorem mlM_88 : Cond.methodLink "FunctionRowsModel" 88 yM_set ∈ gw_tbl := tb_T3 (i := 233) rfl rfl
theorem imM_set : Cond.instanceMethod yM_set ∈ gw_tbl := tb_T3 (i := 235) rfl rfl
theorem seM_set : Cond.selects "FunctionRowsModel" yM_set yM_set ∈ gw_tbl := tb_S (i := 19) rfl rfl
theorem mlM_94 : Cond.methodLink "FunctionRowsModel" 94 yM_say ∈ gw_tbl := tb_T4 (i := 47) rfl rfl
theorem imM_say : Cond.instanceMethod yM_say ∈ gw_tbl := tb_T4 (i := 49) rfl rfl
theorem seM_say : Cond.selects "FunctionRowsModel" yM_say yM_say ∈ gw_tbl := tb_S (i := 32) rfl rfl
theorem klM_98 : Cond.constantLong "FunctionRowsModel" 98 (10) ∈ gw_tbl := tb_T4 (i := 79) (by decide +kernel) (by decide +kernel)
theorem mlM_100 : Cond.methodLink "FunctionRowsModel" 100 yM_length ∈ gw_tbl := tb_T4 (i := 13) rfl rfl
theorem imM_length : Cond.instanceMethod yM_length ∈ gw_tbl := tb_T4 (i := 15) rfl rfl
theorem seM_length : Cond.selects "FunctionRowsModel" yM_length yM_length ∈ gw_tbl := tb_S (i := 24) rfl rfl
theorem mlM_103 : Cond.methodLink "FunctionRowsModel" 103 yM_byteAt ∈ gw_tbl := tb_T4 (i := 17) rfl rfl
theorem imM_byteAt : Cond.instanceMethod yM_byteAt ∈ gw_tbl := tb_T4 (i := 19) rfl rfl
theorem seM_byteAt : Cond.selects "FunctionRowsModel" yM_byteAt yM_byteAt ∈ gw_tbl := tb_S (i := 25) rfl rfl
theorem klM_184 : Cond.constantLong "FunctionRowsModel" 184 (15) ∈ gw_tbl := tb_T4 (i := 76) (by decide +kernel) (by decide +kernel)
theorem klM_186 : Cond.constantLong "FunctionRowsModel" 186 (48) ∈ gw_tbl := tb_T4 (i := 77) (by decide +kernel) (by decide +kernel)
theorem klM_188 : Cond.constantLong "FunctionRowsModel" 188 (57) ∈ gw_tbl := tb_T4 (i := 78) (by decide +kernel) (by decide +kernel)
theorem mlM_111 : Cond.methodLink "FunctionRowsModel" 111 yM_copy ∈ gw_tbl := tb_T3 (i := 229) rfl rfl
theorem imM_copy : Cond.instanceMethod yM_copy ∈ gw_tbl := tb_T3 (i := 231) rfl rfl
theorem seM_copy : Cond.selects "FunctionRowsModel" yM_copy yM_copy ∈ gw_tbl := tb_S (i := 18) rfl rfl
theorem mlM_84 : Cond.methodLink "FunctionRowsModel" 84 yM_isExpression ∈ gw_tbl := tb_T3 (i := 217) rfl rfl
theorem imM_isExpression : Cond.instanceMethod yM_isExpression ∈ gw_tbl := tb_T3 (i := 219) rfl rfl
theorem seM_isExpression : Cond.selects "FunctionRowsModel" yM_isExpression yM_isExpression ∈ gw_tbl := tb_S (i := 16) rfl rfl
theorem mlM_107 : Cond.methodLink "FunctionRowsModel" 107 yM_stands ∈ gw_tbl := tb_T4 (i := 64) rfl rfl
theorem imM_stands : Cond.instanceMethod yM_stands ∈ gw_tbl := tb_T4 (i := 66) rfl rfl
theorem seM_stands : Cond.selects "FunctionRowsModel" yM_stands yM_stands ∈ gw_tbl := tb_S (i := 35) rfl rfl
theorem mlM_135 : Cond.methodLink "FunctionRowsModel" 135 yM_truth ∈ gw_tbl := tb_T4 (i := 1) rfl rfl
theorem imM_truth : Cond.instanceMethod yM_truth ∈ gw_tbl := tb_T4 (i := 3) rfl rfl
theorem seM_truth : Cond.selects "FunctionRowsModel" yM_truth yM_truth ∈ gw_tbl := tb_S (i := 21) rfl rfl
theorem mlM_138 : Cond.methodLink "FunctionRowsModel" 138 yM_setTruth ∈ gw_tbl := tb_T4 (i := 5) rfl rfl
theorem imM_setTruth : Cond.instanceMethod yM_setTruth ∈ gw_tbl := tb_T4 (i := 7) rfl rfl
theorem seM_setTruth : Cond.selects "FunctionRowsModel" yM_setTruth yM_setTruth ∈ gw_tbl := tb_S (i := 22) rfl rfl
theorem mlM_141 : Cond.methodLink "FunctionRowsModel" 141 yM_same ∈ gw_tbl := tb_T4 (i := 9) rfl rfl
theorem imM_same : Cond.instanceMethod yM_same ∈ gw_tbl := tb_T4 (i := 11) rfl rfl
theorem seM_same : Cond.selects "FunctionRowsModel" yM_same yM_same ∈ gw_tbl := tb_S (i := 23) rfl rfl
theorem mlM_144 : Cond.methodLink "FunctionRowsModel" 144 yM_less ∈ gw_tbl := tb_T4 (i := 21) rfl rfl
theorem imM_less : Cond.instanceMethod yM_less ∈ gw_tbl := tb_T4 (i := 23) rfl rfl
theorem seM_less : Cond.selects "FunctionRowsModel" yM_less yM_less ∈ gw_tbl := tb_S (i := 26) rfl rfl
theorem mlM_147 : Cond.methodLink "FunctionRowsModel" 147 yM_setWhole ∈ gw_tbl := tb_T4 (i := 29) rfl rfl
theorem imM_setWhole : Cond.instanceMethod yM_setWhole ∈ gw_tbl := tb_T4 (i := 31) rfl rfl
theorem seM_setWhole : Cond.selects "FunctionRowsModel" yM_setWhole yM_setWhole ∈ gw_tbl := tb_S (i := 28) rfl rfl
theorem mlM_151 : Cond.methodLink "FunctionRowsModel" 151 Lib.MathLoose.max_long.x ∈ gw_tbl := tb_T4 (i := 37) rfl rfl
theorem mlM_157 : Cond.methodLink "FunctionRowsModel" 157 Lib.MathLoose.min_long.x ∈ gw_tbl := tb_T4 (i := 38) rfl rfl
theorem mlM_160 : Cond.methodLink "FunctionRowsModel" 160 yM_setPart ∈ gw_tbl := tb_T4 (i := 39) rfl rfl
theorem imM_setPart : Cond.instanceMethod yM_setPart ∈ gw_tbl := tb_T4 (i := 41) rfl rfl
theorem seM_setPart : Cond.selects "FunctionRowsModel" yM_setPart yM_setPart ∈ gw_tbl := tb_S (i := 30) rfl rfl
theorem mlM_163 : Cond.methodLink "FunctionRowsModel" 163 yM_sayAll ∈ gw_tbl := tb_T4 (i := 43) rfl rfl
theorem imM_sayAll : Cond.instanceMethod yM_sayAll ∈ gw_tbl := tb_T4 (i := 45) rfl rfl
theorem seM_sayAll : Cond.selects "FunctionRowsModel" yM_sayAll yM_sayAll ∈ gw_tbl := tb_S (i := 31) rfl rfl
theorem klM_166 : Cond.constantLong "FunctionRowsModel" 166 (97) ∈ gw_tbl := tb_T4 (i := 52) (by decide +kernel) (by decide +kernel)
theorem klM_168 : Cond.constantLong "FunctionRowsModel" 168 (122) ∈ gw_tbl := tb_T4 (i := 53) (by decide +kernel) (by decide +kernel)
theorem klM_170 : Cond.constantLong "FunctionRowsModel" 170 (65) ∈ gw_tbl := tb_T4 (i := 54) (by decide +kernel) (by decide +kernel)
theorem klM_172 : Cond.constantLong "FunctionRowsModel" 172 (90) ∈ gw_tbl := tb_T4 (i := 55) (by decide +kernel) (by decide +kernel)
theorem mlM_190 : Cond.methodLink "FunctionRowsModel" 190 yM_sayNumber ∈ gw_tbl := tb_T4 (i := 84) rfl rfl
theorem imM_sayNumber : Cond.instanceMethod yM_sayNumber ∈ gw_tbl := tb_T4 (i := 86) rfl rfl
theorem seM_sayNumber : Cond.selects "FunctionRowsModel" yM_sayNumber yM_sayNumber ∈ gw_tbl := tb_S (i := 39) rfl rfl
theorem mlM_216 : Cond.methodLink "FunctionRowsModel" 216 yM_here ∈ gw_tbl := tb_T4 (i := 104) rfl rfl
theorem imM_here : Cond.instanceMethod yM_here ∈ gw_tbl := tb_T4 (i := 106) rfl rfl
theorem seM_here : Cond.selects "FunctionRowsModel" yM_here yM_here ∈ gw_tbl := tb_S (i := 44) rfl rfl
theorem mlM_243 : Cond.methodLink "FunctionRowsModel" 243 Lib.Math.max.name ∈ gw_tbl := tb_T4 (i := 157) rfl rfl
theorem mlM_174 : Cond.methodLink "FunctionRowsModel" 174 yM_placeOf ∈ gw_tbl := tb_T4 (i := 60) rfl rfl
theorem imM_placeOf : Cond.instanceMethod yM_placeOf ∈ gw_tbl := tb_T4 (i := 62) rfl rfl
theorem seM_placeOf : Cond.selects "FunctionRowsModel" yM_placeOf yM_placeOf ∈ gw_tbl := tb_S (i := 34) rfl rfl
theorem mlM_178 : Cond.methodLink "FunctionRowsModel" 178 yM_asNumber ∈ gw_tbl := tb_T4 (i := 72) rfl rfl
theorem imM_asNumber : Cond.instanceMethod yM_asNumber ∈ gw_tbl := tb_T4 (i := 74) rfl rfl
theorem seM_asNumber : Cond.selects "FunctionRowsModel" yM_asNumber yM_asNumber ∈ gw_tbl := tb_S (i := 37) rfl rfl
theorem mlM_181 : Cond.methodLink "FunctionRowsModel" 181 yM_words ∈ gw_tbl := tb_T4 (i := 80) rfl rfl
theorem imM_words : Cond.instanceMethod yM_words ∈ gw_tbl := tb_T4 (i := 82) rfl rfl
theorem seM_words : Cond.selects "FunctionRowsModel" yM_words yM_words ∈ gw_tbl := tb_S (i := 38) rfl rfl
theorem mlM_233 : Cond.methodLink "FunctionRowsModel" 233 yM_isItem ∈ gw_tbl := tb_T4 (i := 124) rfl rfl
theorem imM_isItem : Cond.instanceMethod yM_isItem ∈ gw_tbl := tb_T4 (i := 126) rfl rfl
theorem seM_isItem : Cond.selects "FunctionRowsModel" yM_isItem yM_isItem ∈ gw_tbl := tb_S (i := 49) rfl rfl
theorem mlM_226 : Cond.methodLink "FunctionRowsModel" 226 yM_step ∈ gw_tbl := tb_T4 (i := 116) rfl rfl
theorem imM_step : Cond.instanceMethod yM_step ∈ gw_tbl := tb_T4 (i := 118) rfl rfl
theorem seM_step : Cond.selects "FunctionRowsModel" yM_step yM_step ∈ gw_tbl := tb_S (i := 47) rfl rfl
theorem mlM_213 : Cond.methodLink "FunctionRowsModel" 213 yM_pieces ∈ gw_tbl := tb_T4 (i := 100) rfl rfl
theorem imM_pieces : Cond.instanceMethod yM_pieces ∈ gw_tbl := tb_T4 (i := 102) rfl rfl
theorem seM_pieces : Cond.selects "FunctionRowsModel" yM_pieces yM_pieces ∈ gw_tbl := tb_S (i := 43) rfl rfl
theorem mlM_220 : Cond.methodLink "FunctionRowsModel" 220 yM_piece ∈ gw_tbl := tb_T4 (i := 108) rfl rfl
theorem imM_piece : Cond.instanceMethod yM_piece ∈ gw_tbl := tb_T4 (i := 110) rfl rfl
theorem seM_piece : Cond.selects "FunctionRowsModel" yM_piece yM_piece ∈ gw_tbl := tb_S (i := 45) rfl rfl
theorem mlM_223 : Cond.methodLink "FunctionRowsModel" 223 yM_atom ∈ gw_tbl := tb_T4 (i := 112) rfl rfl
theorem imM_atom : Cond.instanceMethod yM_atom ∈ gw_tbl := tb_T4 (i := 114) rfl rfl
theorem seM_atom : Cond.selects "FunctionRowsModel" yM_atom yM_atom ∈ gw_tbl := tb_S (i := 46) rfl rfl
theorem mlM_210 : Cond.methodLink "FunctionRowsModel" 210 yM_alternatives ∈ gw_tbl := tb_T4 (i := 96) rfl rfl
theorem imM_alternatives : Cond.instanceMethod yM_alternatives ∈ gw_tbl := tb_T4 (i := 98) rfl rfl
theorem seM_alternatives : Cond.selects "FunctionRowsModel" yM_alternatives yM_alternatives ∈ gw_tbl := tb_S (i := 42) rfl rfl
theorem mlM_230 : Cond.methodLink "FunctionRowsModel" 230 yM_items ∈ gw_tbl := tb_T4 (i := 120) rfl rfl
theorem imM_items : Cond.instanceMethod yM_items ∈ gw_tbl := tb_T4 (i := 122) rfl rfl
theorem seM_items : Cond.selects "FunctionRowsModel" yM_items yM_items ∈ gw_tbl := tb_S (i := 48) rfl rfl
theorem mlM_193 : Cond.methodLink "FunctionRowsModel" 193 yM_goes ∈ gw_tbl := tb_T4 (i := 92) rfl rfl
theorem imM_goes : Cond.instanceMethod yM_goes ∈ gw_tbl := tb_T4 (i := 94) rfl rfl
theorem seM_goes : Cond.selects "FunctionRowsModel" yM_goes yM_goes ∈ gw_tbl := tb_S (i := 41) rfl rfl
theorem mlM_114 : Cond.methodLink "FunctionRowsModel" 114 yM_truths ∈ gw_tbl := tb_T3 (i := 237) rfl rfl
theorem imM_truths : Cond.instanceMethod yM_truths ∈ gw_tbl := tb_T3 (i := 239) rfl rfl
theorem seM_truths : Cond.selects "FunctionRowsModel" yM_truths yM_truths ∈ gw_tbl := tb_S (i := 20) rfl rfl
theorem mlM_118 : Cond.methodLink "FunctionRowsModel" 118 yM_arithmetic ∈ gw_tbl := tb_T4 (i := 25) rfl rfl
theorem imM_arithmetic : Cond.instanceMethod yM_arithmetic ∈ gw_tbl := tb_T4 (i := 27) rfl rfl
theorem seM_arithmetic : Cond.selects "FunctionRowsModel" yM_arithmetic yM_arithmetic ∈ gw_tbl := tb_S (i := 27) rfl rfl
theorem mlM_122 : Cond.methodLink "FunctionRowsModel" 122 yM_texts ∈ gw_tbl := tb_T4 (i := 33) rfl rfl
theorem imM_texts : Cond.instanceMethod yM_texts ∈ gw_tbl := tb_T4 (i := 35) rfl rfl
theorem seM_texts : Cond.selects "FunctionRowsModel" yM_texts yM_texts ∈ gw_tbl := tb_S (i := 29) rfl rfl
theorem mlM_126 : Cond.methodLink "FunctionRowsModel" 126 yM_places ∈ gw_tbl := tb_T4 (i := 56) rfl rfl
theorem imM_places : Cond.instanceMethod yM_places ∈ gw_tbl := tb_T4 (i := 58) rfl rfl
theorem seM_places : Cond.selects "FunctionRowsModel" yM_places yM_places ∈ gw_tbl := tb_S (i := 33) rfl rfl
theorem mlM_129 : Cond.methodLink "FunctionRowsModel" 129 yM_others ∈ gw_tbl := tb_T4 (i := 68) rfl rfl
theorem imM_others : Cond.instanceMethod yM_others ∈ gw_tbl := tb_T4 (i := 70) rfl rfl
theorem seM_others : Cond.selects "FunctionRowsModel" yM_others yM_others ∈ gw_tbl := tb_S (i := 36) rfl rfl
theorem mlM_132 : Cond.methodLink "FunctionRowsModel" 132 yM_last ∈ gw_tbl := tb_T4 (i := 88) rfl rfl
theorem imM_last : Cond.instanceMethod yM_last ∈ gw_tbl := tb_T4 (i := 90) rfl rfl
theorem seM_last : Cond.selects "FunctionRowsModel" yM_last yM_last ∈ gw_tbl := tb_S (i := 40) rfl rfl
theorem mlM_237 : Cond.methodLink "FunctionRowsModel" 237 yM_reckon ∈ gw_tbl := tb_T3 (i := 225) rfl rfl
theorem imM_reckon : Cond.instanceMethod yM_reckon ∈ gw_tbl := tb_T3 (i := 227) rfl rfl
theorem seM_reckon : Cond.selects "FunctionRowsModel" yM_reckon yM_reckon ∈ gw_tbl := tb_S (i := 17) rfl rfl
