/-! names of all methods, their words -/
def yR_init : MethodName := ⟨"FunctionRows", "<init>", "()V"⟩
theorem cR_init : Cond.code yR_init prog_1_method_1_code 2 none ∈ gw_tbl := tb_T1 (i := 19) rfl rfl
def yR_type : MethodName := ⟨"FunctionRows", "type", "(JI)I"⟩
theorem cR_type : Cond.code yR_type prog_1_method_2_code 6 (some .int) ∈ gw_tbl := tb_T1 (i := 190) rfl rfl
def yR_text : MethodName := ⟨"FunctionRows", "text", "(I)I"⟩
theorem cR_text : Cond.code yR_text prog_1_method_3_code 5 (some .int) ∈ gw_tbl := tb_T1 (i := 197) rfl rfl
def yR_whole : MethodName := ⟨"FunctionRows", "whole", "(J)I"⟩
theorem cR_whole : Cond.code yR_whole prog_1_method_4_code 3 (some .int) ∈ gw_tbl := tb_T1 (i := 213) rfl rfl
def yR_leaf : MethodName := ⟨"FunctionRows", "leaf", "(II)I"⟩
theorem cR_leaf : Cond.code yR_leaf prog_1_method_5_code 4 (some .int) ∈ gw_tbl := tb_T1 (i := 227) rfl rfl
def yR_call : MethodName := ⟨"FunctionRows", "call", "(IIII)I"⟩
theorem cR_call : Cond.code yR_call prog_1_method_6_code 8 (some .int) ∈ gw_tbl := tb_T2 (i := 6) rfl rfl
def yR_takes : MethodName := ⟨"FunctionRows", "takes", "(I)I"⟩
theorem cR_takes : Cond.code yR_takes prog_1_method_7_code 2 (some .int) ∈ gw_tbl := tb_T2 (i := 10) rfl rfl
def yR_run : MethodName := ⟨"FunctionRows", "run", "(I)I"⟩
theorem cR_run : Cond.code yR_run prog_1_method_8_code 3 (some .int) ∈ gw_tbl := tb_T2 (i := 28) rfl rfl
def yR_number : MethodName := ⟨"FunctionRows", "number", "()J"⟩
theorem cR_number : Cond.code yR_number prog_1_method_9_code 1 (some .long) ∈ gw_tbl := tb_T3 (i := 75) rfl rfl
def yR_tag : MethodName := ⟨"FunctionRows", "tag", "()I"⟩
theorem cR_tag : Cond.code yR_tag prog_1_method_10_code 1 (some .int) ∈ gw_tbl := tb_T3 (i := 80) rfl rfl
def yR_letter : MethodName := ⟨"FunctionRows", "letter", "(I)I"⟩
theorem cR_letter : Cond.code yR_letter prog_1_method_11_code 2 (some .int) ∈ gw_tbl := tb_T3 (i := 84) rfl rfl
def yR_give : MethodName := ⟨"FunctionRows", "give", "(I)I"⟩
theorem cR_give : Cond.code yR_give prog_1_method_12_code 2 (some .int) ∈ gw_tbl := tb_T3 (i := 89) rfl rfl
def yR_drop : MethodName := ⟨"FunctionRows", "drop", "(I)I"⟩
theorem cR_drop : Cond.code yR_drop prog_1_method_13_code 2 (some .int) ∈ gw_tbl := tb_T3 (i := 96) rfl rfl
def yR_uses : MethodName := ⟨"FunctionRows", "uses", "(I)I"⟩
theorem cR_uses : Cond.code yR_uses prog_1_method_14_code 2 (some .int) ∈ gw_tbl := tb_T3 (i := 101) rfl rfl
def yR_depth : MethodName := ⟨"FunctionRows", "depth", "(I)I"⟩
theorem cR_depth : Cond.code yR_depth prog_1_method_15_code 2 (some .int) ∈ gw_tbl := tb_T3 (i := 105) rfl rfl
def yR_clear : MethodName := ⟨"FunctionRows", "clear", "()I"⟩
theorem cR_clear : Cond.code yR_clear prog_1_method_16_code 2 (some .int) ∈ gw_tbl := tb_T3 (i := 109) rfl rfl
def yR_size : MethodName := ⟨"FunctionRows", "size", "()I"⟩
theorem cR_size : Cond.code yR_size prog_1_method_17_code 1 (some .int) ∈ gw_tbl := tb_T3 (i := 113) rfl rfl
def yR_isExpression : MethodName := ⟨"FunctionRows", "isExpression", "(I)Z"⟩
theorem cR_isExpression : Cond.code yR_isExpression prog_1_method_18_code 2 (some .boolean) ∈ gw_tbl := tb_T2 (i := 16) rfl rfl
def yR_isVariable : MethodName := ⟨"FunctionRows", "isVariable", "(I)Z"⟩
theorem cR_isVariable : Cond.code yR_isVariable prog_1_method_19_code 1 (some .boolean) ∈ gw_tbl := tb_T3 (i := 92) rfl rfl
def yR_isWhole : MethodName := ⟨"FunctionRows", "isWhole", "(J)Z"⟩
theorem cR_isWhole : Cond.code yR_isWhole prog_1_method_20_code 2 (some .boolean) ∈ gw_tbl := tb_T1 (i := 216) rfl rfl
def yR_byteOf : MethodName := ⟨"FunctionRows", "byteOf", "(JI)I"⟩
theorem cR_byteOf : Cond.code yR_byteOf prog_1_method_21_code 3 (some .int) ∈ gw_tbl := tb_T1 (i := 193) rfl rfl
def yR_lastLeaf : MethodName := ⟨"FunctionRows", "lastLeaf", "(I)I"⟩
theorem cR_lastLeaf : Cond.code yR_lastLeaf prog_1_method_22_code 1 (some .int) ∈ gw_tbl := tb_T1 (i := 230) rfl rfl
def yR_reckon : MethodName := ⟨"FunctionRows", "reckon", "(LFunctionRows$Expression;)V"⟩
theorem cR_reckon : Cond.code yR_reckon prog_1_method_23_code 5 none ∈ gw_tbl := tb_T2 (i := 41) rfl rfl
def yM_init : MethodName := ⟨"FunctionRowsModel", "<init>", "()V"⟩
theorem cM_init : Cond.code yM_init prog_10_method_1_code 1 none ∈ gw_tbl := tb_T3 (i := 118) rfl rfl
def yM_in : MethodName := ⟨"FunctionRowsModel", "in", "(JJJ)Z"⟩
theorem cM_in : Cond.code yM_in prog_10_method_3_code 6 (some .boolean) ∈ gw_tbl := tb_T3 (i := 180) rfl rfl
def yM_type : MethodName := ⟨"FunctionRowsModel", "type", "(JI)I"⟩
theorem cM_type : Cond.code yM_type prog_10_method_4_code 6 (some .int) ∈ gw_tbl := tb_T3 (i := 176) rfl rfl
def yM_add : MethodName := ⟨"FunctionRowsModel", "add", "(IJ)I"⟩
theorem cM_add : Cond.code yM_add prog_10_method_5_code 4 (some .int) ∈ gw_tbl := tb_T3 (i := 192) rfl rfl
def yM_text : MethodName := ⟨"FunctionRowsModel", "text", "(I)I"⟩
theorem cM_text : Cond.code yM_text prog_10_method_6_code 5 (some .int) ∈ gw_tbl := tb_T3 (i := 187) rfl rfl
def yM_whole : MethodName := ⟨"FunctionRowsModel", "whole", "(J)I"⟩
theorem cM_whole : Cond.code yM_whole prog_10_method_7_code 3 (some .int) ∈ gw_tbl := tb_T3 (i := 196) rfl rfl
def yM_leaf : MethodName := ⟨"FunctionRowsModel", "leaf", "(II)I"⟩
theorem cM_leaf : Cond.code yM_leaf prog_10_method_8_code 4 (some .int) ∈ gw_tbl := tb_T3 (i := 202) rfl rfl
def yM_isExpression : MethodName := ⟨"FunctionRowsModel", "isExpression", "(I)Z"⟩
theorem cM_isExpression : Cond.code yM_isExpression prog_10_method_9_code 2 (some .boolean) ∈ gw_tbl := tb_T3 (i := 220) rfl rfl
def yM_arity : MethodName := ⟨"FunctionRowsModel", "arity", "(I)I"⟩
theorem cM_arity : Cond.code yM_arity prog_10_method_10_code 1 (some .int) ∈ gw_tbl := tb_T3 (i := 212) rfl rfl
def yM_takes : MethodName := ⟨"FunctionRowsModel", "takes", "(I)I"⟩
theorem cM_takes : Cond.code yM_takes prog_10_method_11_code 2 (some .int) ∈ gw_tbl := tb_T3 (i := 208) rfl rfl
def yM_call : MethodName := ⟨"FunctionRowsModel", "call", "(IIII)I"⟩
theorem cM_call : Cond.code yM_call prog_10_method_12_code 7 (some .int) ∈ gw_tbl := tb_T3 (i := 216) rfl rfl
def yM_copy : MethodName := ⟨"FunctionRowsModel", "copy", "(II)V"⟩
theorem cM_copy : Cond.code yM_copy prog_10_method_13_code 4 none ∈ gw_tbl := tb_T3 (i := 232) rfl rfl
def yM_set : MethodName := ⟨"FunctionRowsModel", "set", "(IIJ)V"⟩
theorem cM_set : Cond.code yM_set prog_10_method_14_code 5 none ∈ gw_tbl := tb_T3 (i := 236) rfl rfl
def yM_setTruth : MethodName := ⟨"FunctionRowsModel", "setTruth", "(II)V"⟩
theorem cM_setTruth : Cond.code yM_setTruth prog_10_method_15_code 3 none ∈ gw_tbl := tb_T4 (i := 8) rfl rfl
def yM_setWhole : MethodName := ⟨"FunctionRowsModel", "setWhole", "(IJ)V"⟩
theorem cM_setWhole : Cond.code yM_setWhole prog_10_method_16_code 4 none ∈ gw_tbl := tb_T4 (i := 32) rfl rfl
def yM_truth : MethodName := ⟨"FunctionRowsModel", "truth", "(I)I"⟩
theorem cM_truth : Cond.code yM_truth prog_10_method_17_code 2 (some .int) ∈ gw_tbl := tb_T4 (i := 4) rfl rfl
def yM_length : MethodName := ⟨"FunctionRowsModel", "length", "(I)I"⟩
theorem cM_length : Cond.code yM_length prog_10_method_18_code 2 (some .int) ∈ gw_tbl := tb_T4 (i := 16) rfl rfl
def yM_byteAt : MethodName := ⟨"FunctionRowsModel", "byteAt", "(II)I"⟩
theorem cM_byteAt : Cond.code yM_byteAt prog_10_method_19_code 3 (some .int) ∈ gw_tbl := tb_T4 (i := 20) rfl rfl
def yM_setPart : MethodName := ⟨"FunctionRowsModel", "setPart", "(IIIII)V"⟩
theorem cM_setPart : Cond.code yM_setPart prog_10_method_20_code 8 none ∈ gw_tbl := tb_T4 (i := 42) rfl rfl
def yM_say : MethodName := ⟨"FunctionRowsModel", "say", "(II)V"⟩
theorem cM_say : Cond.code yM_say prog_10_method_21_code 3 none ∈ gw_tbl := tb_T4 (i := 50) rfl rfl
def yM_sayNumber : MethodName := ⟨"FunctionRowsModel", "sayNumber", "(IJ)V"⟩
theorem cM_sayNumber : Cond.code yM_sayNumber prog_10_method_22_code 8 none ∈ gw_tbl := tb_T4 (i := 87) rfl rfl
def yM_sayAll : MethodName := ⟨"FunctionRowsModel", "sayAll", "(II)V"⟩
theorem cM_sayAll : Cond.code yM_sayAll prog_10_method_23_code 4 none ∈ gw_tbl := tb_T4 (i := 46) rfl rfl
def yM_same : MethodName := ⟨"FunctionRowsModel", "same", "(II)I"⟩
theorem cM_same : Cond.code yM_same prog_10_method_24_code 5 (some .int) ∈ gw_tbl := tb_T4 (i := 12) rfl rfl
def yM_less : MethodName := ⟨"FunctionRowsModel", "less", "(II)I"⟩
theorem cM_less : Cond.code yM_less prog_10_method_25_code 6 (some .int) ∈ gw_tbl := tb_T4 (i := 24) rfl rfl
def yM_stands : MethodName := ⟨"FunctionRowsModel", "stands", "(III)Z"⟩
theorem cM_stands : Cond.code yM_stands prog_10_method_26_code 6 (some .boolean) ∈ gw_tbl := tb_T4 (i := 67) rfl rfl
def yM_placeOf : MethodName := ⟨"FunctionRowsModel", "placeOf", "(III)I"⟩
theorem cM_placeOf : Cond.code yM_placeOf prog_10_method_27_code 5 (some .int) ∈ gw_tbl := tb_T4 (i := 63) rfl rfl
def yM_reckon : MethodName := ⟨"FunctionRowsModel", "reckon", "(I)V"⟩
theorem cM_reckon : Cond.code yM_reckon prog_10_method_28_code 6 none ∈ gw_tbl := tb_T3 (i := 228) rfl rfl
def yM_truths : MethodName := ⟨"FunctionRowsModel", "truths", "(IIII)V"⟩
theorem cM_truths : Cond.code yM_truths prog_10_method_29_code 7 none ∈ gw_tbl := tb_T4 (i := 0) rfl rfl
def yM_arithmetic : MethodName := ⟨"FunctionRowsModel", "arithmetic", "(IIJJ)V"⟩
theorem cM_arithmetic : Cond.code yM_arithmetic prog_10_method_30_code 11 none ∈ gw_tbl := tb_T4 (i := 28) rfl rfl
def yM_texts : MethodName := ⟨"FunctionRowsModel", "texts", "(IIIII)V"⟩
theorem cM_texts : Cond.code yM_texts prog_10_method_31_code 10 none ∈ gw_tbl := tb_T4 (i := 36) rfl rfl
def yM_places : MethodName := ⟨"FunctionRowsModel", "places", "(IIII)V"⟩
theorem cM_places : Cond.code yM_places prog_10_method_32_code 6 none ∈ gw_tbl := tb_T4 (i := 59) rfl rfl
def yM_others : MethodName := ⟨"FunctionRowsModel", "others", "(IIIII)V"⟩
theorem cM_others : Cond.code yM_others prog_10_method_33_code 7 none ∈ gw_tbl := tb_T4 (i := 71) rfl rfl
def yM_asNumber : MethodName := ⟨"FunctionRowsModel", "asNumber", "(II)V"⟩
theorem cM_asNumber : Cond.code yM_asNumber prog_10_method_34_code 9 none ∈ gw_tbl := tb_T4 (i := 75) rfl rfl
def yM_words : MethodName := ⟨"FunctionRowsModel", "words", "(II)V"⟩
theorem cM_words : Cond.code yM_words prog_10_method_35_code 4 none ∈ gw_tbl := tb_T4 (i := 83) rfl rfl
def yM_last : MethodName := ⟨"FunctionRowsModel", "last", "(IIIII)V"⟩
theorem cM_last : Cond.code yM_last prog_10_method_36_code 8 none ∈ gw_tbl := tb_T4 (i := 91) rfl rfl
def yM_goes : MethodName := ⟨"FunctionRowsModel", "goes", "(III)V"⟩
theorem cM_goes : Cond.code yM_goes prog_10_method_37_code 5 none ∈ gw_tbl := tb_T4 (i := 95) rfl rfl
def yM_here : MethodName := ⟨"FunctionRowsModel", "here", "()I"⟩
theorem cM_here : Cond.code yM_here prog_10_method_38_code 1 (some .int) ∈ gw_tbl := tb_T4 (i := 107) rfl rfl
def yM_alternatives : MethodName := ⟨"FunctionRowsModel", "alternatives", "(I)I"⟩
theorem cM_alternatives : Cond.code yM_alternatives prog_10_method_39_code 3 (some .int) ∈ gw_tbl := tb_T4 (i := 99) rfl rfl
def yM_pieces : MethodName := ⟨"FunctionRowsModel", "pieces", "(I)I"⟩
theorem cM_pieces : Cond.code yM_pieces prog_10_method_40_code 3 (some .int) ∈ gw_tbl := tb_T4 (i := 103) rfl rfl
def yM_piece : MethodName := ⟨"FunctionRowsModel", "piece", "(I)I"⟩
theorem cM_piece : Cond.code yM_piece prog_10_method_41_code 9 (some .int) ∈ gw_tbl := tb_T4 (i := 111) rfl rfl
def yM_step : MethodName := ⟨"FunctionRowsModel", "step", "(IZI)I"⟩
theorem cM_step : Cond.code yM_step prog_10_method_42_code 6 (some .int) ∈ gw_tbl := tb_T4 (i := 119) rfl rfl
def yM_atom : MethodName := ⟨"FunctionRowsModel", "atom", "(I)I"⟩
theorem cM_atom : Cond.code yM_atom prog_10_method_43_code 5 (some .int) ∈ gw_tbl := tb_T4 (i := 115) rfl rfl
def yM_isItem : MethodName := ⟨"FunctionRowsModel", "isItem", "()Z"⟩
theorem cM_isItem : Cond.code yM_isItem prog_10_method_44_code 2 (some .boolean) ∈ gw_tbl := tb_T4 (i := 127) rfl rfl
def yM_items : MethodName := ⟨"FunctionRowsModel", "items", "(I)I"⟩
theorem cM_items : Cond.code yM_items prog_10_method_45_code 7 (some .int) ∈ gw_tbl := tb_T4 (i := 123) rfl rfl
def yM_run : MethodName := ⟨"FunctionRowsModel", "run", "(I)I"⟩
theorem cM_run : Cond.code yM_run prog_10_method_46_code 3 (some .int) ∈ gw_tbl := tb_T3 (i := 224) rfl rfl
def yM_number : MethodName := ⟨"FunctionRowsModel", "number", "()J"⟩
theorem cM_number : Cond.code yM_number prog_10_method_47_code 1 (some .long) ∈ gw_tbl := tb_T4 (i := 131) rfl rfl
def yM_tag : MethodName := ⟨"FunctionRowsModel", "tag", "()I"⟩
theorem cM_tag : Cond.code yM_tag prog_10_method_48_code 1 (some .int) ∈ gw_tbl := tb_T4 (i := 136) rfl rfl
def yM_letter : MethodName := ⟨"FunctionRowsModel", "letter", "(I)I"⟩
theorem cM_letter : Cond.code yM_letter prog_10_method_49_code 2 (some .int) ∈ gw_tbl := tb_T4 (i := 140) rfl rfl
def yM_give : MethodName := ⟨"FunctionRowsModel", "give", "(I)I"⟩
theorem cM_give : Cond.code yM_give prog_10_method_50_code 2 (some .int) ∈ gw_tbl := tb_T4 (i := 144) rfl rfl
def yM_drop : MethodName := ⟨"FunctionRowsModel", "drop", "(I)I"⟩
theorem cM_drop : Cond.code yM_drop prog_10_method_51_code 3 (some .int) ∈ gw_tbl := tb_T4 (i := 148) rfl rfl
def yM_uses : MethodName := ⟨"FunctionRowsModel", "uses", "(I)I"⟩
theorem cM_uses : Cond.code yM_uses prog_10_method_52_code 4 (some .int) ∈ gw_tbl := tb_T4 (i := 152) rfl rfl
def yM_depth : MethodName := ⟨"FunctionRowsModel", "depth", "(I)I"⟩
theorem cM_depth : Cond.code yM_depth prog_10_method_53_code 4 (some .int) ∈ gw_tbl := tb_T4 (i := 156) rfl rfl
def yM_clear : MethodName := ⟨"FunctionRowsModel", "clear", "()I"⟩
theorem cM_clear : Cond.code yM_clear prog_10_method_54_code 2 (some .int) ∈ gw_tbl := tb_T4 (i := 161) rfl rfl
def yM_size : MethodName := ⟨"FunctionRowsModel", "size", "()I"⟩
theorem cM_size : Cond.code yM_size prog_10_method_55_code 1 (some .int) ∈ gw_tbl := tb_T4 (i := 165) rfl rfl
def yC_reckon : MethodName := ⟨"FunctionRows$Casts", "reckon", "(ILFunctionRows$Value;LFunctionRows$Value;LFunctionRows$Value;LFunctionRows$Value;)V"⟩
theorem cC_reckon : Cond.code yC_reckon prog_2_method_2_code 5 none ∈ gw_tbl := tb_T2 (i := 197) rfl rfl
def yC_choose : MethodName := ⟨"FunctionRows$Casts", "choose", "(LFunctionRows$Value;ILFunctionRows$Value;LFunctionRows$Value;)V"⟩
theorem cC_choose : Cond.code yC_choose prog_2_method_3_code 4 none ∈ gw_tbl := tb_T2 (i := 209) rfl rfl
def yC_toNumber : MethodName := ⟨"FunctionRows$Casts", "toNumber", "(LFunctionRows$Value;LFunctionRows$Value;)V"⟩
theorem cC_toNumber : Cond.code yC_toNumber prog_2_method_4_code 2 none ∈ gw_tbl := tb_T2 (i := 214) rfl rfl
def yC_readDigits : MethodName := ⟨"FunctionRows$Casts", "readDigits", "(LFunctionRows$Value;LFunctionRows$Value;)V"⟩
theorem cC_readDigits : Cond.code yC_readDigits prog_2_method_5_code 9 none ∈ gw_tbl := tb_T2 (i := 218) rfl rfl
def yC_toWords : MethodName := ⟨"FunctionRows$Casts", "toWords", "(LFunctionRows$Value;LFunctionRows$Value;)V"⟩
theorem cC_toWords : Cond.code yC_toWords prog_2_method_6_code 2 none ∈ gw_tbl := tb_T2 (i := 224) rfl rfl
def yC_appendWord : MethodName := ⟨"FunctionRows$Casts", "appendWord", "(LFunctionRows$Value;Ljava/lang/String;)V"⟩
theorem cC_appendWord : Cond.code yC_appendWord prog_2_method_7_code 3 none ∈ gw_tbl := tb_T2 (i := 231) rfl rfl
def yE_init : MethodName := ⟨"FunctionRows$Expression", "<init>", "()V"⟩
theorem cE_init : Cond.code yE_init prog_3_method_1_code 1 none ∈ gw_tbl := tb_T1 (i := 122) rfl rfl
def yE_becomeValue : MethodName := ⟨"FunctionRows$Expression", "becomeValue", "()LFunctionRows$Value;"⟩
theorem cE_becomeValue : Cond.code yE_becomeValue prog_3_method_2_code 1 (some (.object "FunctionRows$Value")) ∈ gw_tbl := tb_T1 (i := 201) rfl rfl
def yE_becomeVariable : MethodName := ⟨"FunctionRows$Expression", "becomeVariable", "(ILFunctionRows$Value;)V"⟩
theorem cE_becomeVariable : Cond.code yE_becomeVariable prog_3_method_3_code 3 none ∈ gw_tbl := tb_T1 (i := 234) rfl rfl
def yE_becomeCall : MethodName := ⟨"FunctionRows$Expression", "becomeCall", "(ILFunctionRows$Expression;LFunctionRows$Expression;LFunctionRows$Expression;)V"⟩
theorem cE_becomeCall : Cond.code yE_becomeCall prog_3_method_4_code 5 none ∈ gw_tbl := tb_T2 (i := 20) rfl rfl
def yE_isCall : MethodName := ⟨"FunctionRows$Expression", "isCall", "()Z"⟩
theorem cE_isCall : Cond.code yE_isCall prog_3_method_5_code 1 (some .boolean) ∈ gw_tbl := tb_T2 (i := 36) rfl rfl
def yE_wantOperands : MethodName := ⟨"FunctionRows$Expression", "wantOperands", "()V"⟩
theorem cE_wantOperands : Cond.code yE_wantOperands prog_3_method_6_code 1 none ∈ gw_tbl := tb_T2 (i := 32) rfl rfl
def yE_given : MethodName := ⟨"FunctionRows$Expression", "given", "()I"⟩
theorem cE_given : Cond.code yE_given prog_3_method_7_code 1 (some .int) ∈ gw_tbl := tb_T2 (i := 45) rfl rfl
def yS_init : MethodName := ⟨"FunctionRows$Search", "<init>", "()V"⟩
theorem cS_init : Cond.code yS_init prog_4_method_1_code 1 none ∈ gw_tbl := tb_T1 (i := 73) rfl rfl
def yS_goes : MethodName := ⟨"FunctionRows$Search", "goes", "(LFunctionRows$Value;LFunctionRows$Value;)I"⟩
theorem cS_goes : Cond.code yS_goes prog_4_method_2_code 5 (some .int) ∈ gw_tbl := tb_T2 (i := 52) rfl rfl
def yS_begin : MethodName := ⟨"FunctionRows$Search", "begin", "()V"⟩
theorem cS_begin : Cond.code yS_begin prog_4_method_3_code 1 none ∈ gw_tbl := tb_T2 (i := 59) rfl rfl
def yS_read : MethodName := ⟨"FunctionRows$Search", "read", "(LFunctionRows$Value;LFunctionRows$Value;)Z"⟩
theorem cS_read : Cond.code yS_read prog_4_method_4_code 4 (some .boolean) ∈ gw_tbl := tb_T2 (i := 70) rfl rfl
def yS_openGroup : MethodName := ⟨"FunctionRows$Search", "openGroup", "()Z"⟩
theorem cS_openGroup : Cond.code yS_openGroup prog_4_method_5_code 1 (some .boolean) ∈ gw_tbl := tb_T2 (i := 78) rfl rfl
def yS_closeGroup : MethodName := ⟨"FunctionRows$Search", "closeGroup", "(LFunctionRows$Value;)Z"⟩
theorem cS_closeGroup : Cond.code yS_closeGroup prog_4_method_6_code 2 (some .boolean) ∈ gw_tbl := tb_T2 (i := 90) rfl rfl
def yS_anchor : MethodName := ⟨"FunctionRows$Search", "anchor", "(I)Z"⟩
theorem cS_anchor : Cond.code yS_anchor prog_4_method_7_code 3 (some .boolean) ∈ gw_tbl := tb_T2 (i := 98) rfl rfl
def yS_atom : MethodName := ⟨"FunctionRows$Search", "atom", "(ILFunctionRows$Value;)Z"⟩
theorem cS_atom : Cond.code yS_atom prog_4_method_8_code 5 (some .boolean) ∈ gw_tbl := tb_T2 (i := 105) rfl rfl
def yS_enter : MethodName := ⟨"FunctionRows$Search", "enter", "()I"⟩
theorem cS_enter : Cond.code yS_enter prog_4_method_9_code 2 (some .int) ∈ gw_tbl := tb_T2 (i := 82) rfl rfl
def yS_repeat : MethodName := ⟨"FunctionRows$Search", "repeat", "(IILFunctionRows$Value;)V"⟩
theorem cS_repeat : Cond.code yS_repeat prog_4_method_10_code 5 none ∈ gw_tbl := tb_T2 (i := 94) rfl rfl
def yS_readEscaped : MethodName := ⟨"FunctionRows$Search", "readEscaped", "(LFunctionRows$Value;LFunctionRows$Value;)I"⟩
theorem cS_readEscaped : Cond.code yS_readEscaped prog_4_method_11_code 4 (some .int) ∈ gw_tbl := tb_T2 (i := 116) rfl rfl
def yS_readItems : MethodName := ⟨"FunctionRows$Search", "readItems", "(LFunctionRows$Value;LFunctionRows$Value;)I"⟩
theorem cS_readItems : Cond.code yS_readItems prog_4_method_12_code 10 (some .int) ∈ gw_tbl := tb_T2 (i := 109) rfl rfl
def yS_isItem : MethodName := ⟨"FunctionRows$Search", "isItem", "(I)Z"⟩
theorem cS_isItem : Cond.code yS_isItem prog_4_method_13_code 1 (some .boolean) ∈ gw_tbl := tb_T2 (i := 112) rfl rfl
def yS_placesOf : MethodName := ⟨"FunctionRows$Search", "placesOf", "(LFunctionRows$Value;II)I"⟩
theorem cS_placesOf : Cond.code yS_placesOf prog_4_method_14_code 6 (some .int) ∈ gw_tbl := tb_T2 (i := 101) rfl rfl
def yS_newState : MethodName := ⟨"FunctionRows$Search", "newState", "()I"⟩
theorem cS_newState : Cond.code yS_newState prog_4_method_15_code 2 (some .int) ∈ gw_tbl := tb_T2 (i := 63) rfl rfl
def yS_connect : MethodName := ⟨"FunctionRows$Search", "connect", "(IIII)V"⟩
theorem cS_connect : Cond.code yS_connect prog_4_method_16_code 5 none ∈ gw_tbl := tb_T2 (i := 86) rfl rfl
def yS_spread : MethodName := ⟨"FunctionRows$Search", "spread", "(LFunctionRows$Value;)V"⟩
theorem cS_spread : Cond.code yS_spread prog_4_method_17_code 6 none ∈ gw_tbl := tb_T2 (i := 120) rfl rfl
def yT_reckon : MethodName := ⟨"FunctionRows$Texts", "reckon", "(ILFunctionRows$Value;LFunctionRows$Value;LFunctionRows$Value;LFunctionRows$Value;)V"⟩
theorem cT_reckon : Cond.code yT_reckon prog_5_method_2_code 5 none ∈ gw_tbl := tb_T2 (i := 142) rfl rfl
def yT_part : MethodName := ⟨"FunctionRows$Texts", "part", "(LFunctionRows$Value;LFunctionRows$Value;LFunctionRows$Value;LFunctionRows$Value;)V"⟩
theorem cT_part : Cond.code yT_part prog_5_method_3_code 8 none ∈ gw_tbl := tb_T2 (i := 147) rfl rfl
def yT_resize : MethodName := ⟨"FunctionRows$Texts", "resize", "(LFunctionRows$Value;LFunctionRows$Value;CI)V"⟩
theorem cT_resize : Cond.code yT_resize prog_5_method_4_code 6 none ∈ gw_tbl := tb_T2 (i := 165) rfl rfl
def yT_join : MethodName := ⟨"FunctionRows$Texts", "join", "(LFunctionRows$Value;LFunctionRows$Value;LFunctionRows$Value;)V"⟩
theorem cT_join : Cond.code yT_join prog_5_method_5_code 3 none ∈ gw_tbl := tb_T2 (i := 170) rfl rfl
def yT_tagLetter : MethodName := ⟨"FunctionRows$Texts", "tagLetter", "(LFunctionRows$Value;LFunctionRows$Value;)V"⟩
theorem cT_tagLetter : Cond.code yT_tagLetter prog_5_method_6_code 2 none ∈ gw_tbl := tb_T2 (i := 173) rfl rfl
def yT_seek : MethodName := ⟨"FunctionRows$Texts", "seek", "(ILFunctionRows$Value;LFunctionRows$Value;LFunctionRows$Value;)V"⟩
theorem cT_seek : Cond.code yT_seek prog_5_method_7_code 5 none ∈ gw_tbl := tb_T2 (i := 184) rfl rfl
def yT_split : MethodName := ⟨"FunctionRows$Texts", "split", "(ILFunctionRows$Value;LFunctionRows$Value;II)V"⟩
theorem cT_split : Cond.code yT_split prog_5_method_8_code 5 none ∈ gw_tbl := tb_T2 (i := 194) rfl rfl
def yT_turn : MethodName := ⟨"FunctionRows$Texts", "turn", "(LFunctionRows$Value;LFunctionRows$Value;LFunctionRows$Value;LFunctionRows$Value;)V"⟩
theorem cT_turn : Cond.code yT_turn prog_5_method_9_code 6 none ∈ gw_tbl := tb_T2 (i := 176) rfl rfl
def yT_isPlain : MethodName := ⟨"FunctionRows$Texts", "isPlain", "(LFunctionRows$Value;)Z"⟩
theorem cT_isPlain : Cond.code yT_isPlain prog_5_method_10_code 1 (some .boolean) ∈ gw_tbl := tb_T2 (i := 55) rfl rfl
def yU_reckon : MethodName := ⟨"FunctionRows$Truths", "reckon", "(ILFunctionRows$Value;LFunctionRows$Value;LFunctionRows$Value;)I"⟩
theorem cU_reckon : Cond.code yU_reckon prog_6_method_2_code 4 (some .int) ∈ gw_tbl := tb_T3 (i := 49) rfl rfl
def yU_of : MethodName := ⟨"FunctionRows$Truths", "of", "(LFunctionRows$Value;)I"⟩
theorem cU_of : Cond.code yU_of prog_6_method_3_code 1 (some .int) ∈ gw_tbl := tb_T2 (i := 205) rfl rfl
def yU_truth : MethodName := ⟨"FunctionRows$Truths", "truth", "(Z)I"⟩
theorem cU_truth : Cond.code yU_truth prog_6_method_4_code 1 (some .int) ∈ gw_tbl := tb_T2 (i := 48) rfl rfl
def yU_other : MethodName := ⟨"FunctionRows$Truths", "other", "(I)I"⟩
theorem cU_other : Cond.code yU_other prog_6_method_5_code 1 (some .int) ∈ gw_tbl := tb_T3 (i := 53) rfl rfl
def yU_both : MethodName := ⟨"FunctionRows$Truths", "both", "(II)I"⟩
theorem cU_both : Cond.code yU_both prog_6_method_6_code 2 (some .int) ∈ gw_tbl := tb_T3 (i := 56) rfl rfl
def yU_either : MethodName := ⟨"FunctionRows$Truths", "either", "(II)I"⟩
theorem cU_either : Cond.code yU_either prog_6_method_7_code 2 (some .int) ∈ gw_tbl := tb_T3 (i := 59) rfl rfl
def yU_same : MethodName := ⟨"FunctionRows$Truths", "same", "(LFunctionRows$Value;LFunctionRows$Value;)I"⟩
theorem cU_same : Cond.code yU_same prog_6_method_8_code 2 (some .int) ∈ gw_tbl := tb_T3 (i := 62) rfl rfl
def yU_less : MethodName := ⟨"FunctionRows$Truths", "less", "(LFunctionRows$Value;LFunctionRows$Value;)I"⟩
theorem cU_less : Cond.code yU_less prog_6_method_9_code 2 (some .int) ∈ gw_tbl := tb_T3 (i := 66) rfl rfl
def yU_isBefore : MethodName := ⟨"FunctionRows$Truths", "isBefore", "(LFunctionRows$Value;LFunctionRows$Value;)Z"⟩
theorem cU_isBefore : Cond.code yU_isBefore prog_6_method_10_code 3 (some .boolean) ∈ gw_tbl := tb_T3 (i := 69) rfl rfl
def yV_init : MethodName := ⟨"FunctionRows$Value", "<init>", "()V"⟩
theorem cV_init : Cond.code yV_init prog_7_method_1_code 1 none ∈ gw_tbl := tb_T1 (i := 30) rfl rfl
def yV_setError : MethodName := ⟨"FunctionRows$Value", "setError", "()V"⟩
theorem cV_setError : Cond.code yV_setError prog_7_method_2_code 1 none ∈ gw_tbl := tb_T2 (i := 128) rfl rfl
def yV_setTruth : MethodName := ⟨"FunctionRows$Value", "setTruth", "(I)V"⟩
theorem cV_setTruth : Cond.code yV_setTruth prog_7_method_3_code 2 none ∈ gw_tbl := tb_T1 (i := 238) rfl rfl
def yV_setWhole : MethodName := ⟨"FunctionRows$Value", "setWhole", "(J)V"⟩
theorem cV_setWhole : Cond.code yV_setWhole prog_7_method_4_code 3 none ∈ gw_tbl := tb_T1 (i := 222) rfl rfl
def yV_setNode : MethodName := ⟨"FunctionRows$Value", "setNode", "(I)V"⟩
theorem cV_setNode : Cond.code yV_setNode prog_7_method_5_code 2 none ∈ gw_tbl := tb_T2 (i := 2) rfl rfl
def yV_startText : MethodName := ⟨"FunctionRows$Value", "startText", "(I)V"⟩
theorem cV_startText : Cond.code yV_startText prog_7_method_6_code 2 none ∈ gw_tbl := tb_T1 (i := 205) rfl rfl
def yV_append : MethodName := ⟨"FunctionRows$Value", "append", "(I)V"⟩
theorem cV_append : Cond.code yV_append prog_7_method_7_code 2 none ∈ gw_tbl := tb_T1 (i := 209) rfl rfl
def yV_appendPart : MethodName := ⟨"FunctionRows$Value", "appendPart", "(LFunctionRows$Value;II)V"⟩
theorem cV_appendPart : Cond.code yV_appendPart prog_7_method_8_code 6 none ∈ gw_tbl := tb_T2 (i := 158) rfl rfl
def yV_appendDigits : MethodName := ⟨"FunctionRows$Value", "appendDigits", "(J)V"⟩
theorem cV_appendDigits : Cond.code yV_appendDigits prog_7_method_9_code 6 none ∈ gw_tbl := tb_T3 (i := 45) rfl rfl
def yV_at : MethodName := ⟨"FunctionRows$Value", "at", "(I)I"⟩
theorem cV_at : Cond.code yV_at prog_7_method_10_code 2 (some .int) ∈ gw_tbl := tb_T2 (i := 74) rfl rfl
def yV_copy : MethodName := ⟨"FunctionRows$Value", "copy", "(LFunctionRows$Value;)V"⟩
theorem cV_copy : Cond.code yV_copy prog_7_method_11_code 2 none ∈ gw_tbl := tb_T2 (i := 201) rfl rfl
def yV_hasAt : MethodName := ⟨"FunctionRows$Value", "hasAt", "(ILFunctionRows$Value;)Z"⟩
theorem cV_hasAt : Cond.code yV_hasAt prog_7_method_12_code 4 (some .boolean) ∈ gw_tbl := tb_T2 (i := 181) rfl rfl
def yV_find : MethodName := ⟨"FunctionRows$Value", "find", "(LFunctionRows$Value;)I"⟩
theorem cV_find : Cond.code yV_find prog_7_method_13_code 3 (some .int) ∈ gw_tbl := tb_T2 (i := 188) rfl rfl
def yH_reckon : MethodName := ⟨"FunctionRows$Wholes", "reckon", "(ILFunctionRows$Value;LFunctionRows$Value;LFunctionRows$Value;)V"⟩
theorem cH_reckon : Cond.code yH_reckon prog_8_method_2_code 4 none ∈ gw_tbl := tb_T2 (i := 124) rfl rfl
def yH_multiply : MethodName := ⟨"FunctionRows$Wholes", "multiply", "(LFunctionRows$Value;JJ)V"⟩
theorem cH_multiply : Cond.code yH_multiply prog_8_method_3_code 7 none ∈ gw_tbl := tb_T2 (i := 132) rfl rfl
def yH_divide : MethodName := ⟨"FunctionRows$Wholes", "divide", "(ILFunctionRows$Value;JJ)V"⟩
theorem cH_divide : Cond.code yH_divide prog_8_method_4_code 6 none ∈ gw_tbl := tb_T2 (i := 139) rfl rfl
