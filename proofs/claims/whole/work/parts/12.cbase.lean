/-! the class: what its arrays hold, its methods, their code, and that the code is right -/
def cn2 (_ : cG) (i : Nat) : Nat := 24
def cr2 (g : cG) (i : Nat) : Nat → Int32 := g.2.1 i
def cw2 (g : cG) (i j : Nat) (v : Int32) : cG := (g.1, va_up g.2.1 i (upd (g.2.1 i) j v.toInt8.toInt32), g.2.2)
def cn6 (_ : cG) (i : Nat) : Nat := 48
def cr6 (g : cG) (i : Nat) : Nat → Int32 := g.2.2.2.2.1
def cw6 (g : cG) (i j : Nat) (v : Int32) : cG := (g.1, g.2.1, g.2.2.1, g.2.2.2.1, upd g.2.2.2.2.1 j v.toInt8.toInt32, g.2.2.2.2.2)
def cn8 (_ : cG) (i : Nat) : Nat := cSl i
def cr8 (g : cG) (i : Nat) : Nat → Int32 := g.2.2.2.2.2.2 i
def cw8 (g : cG) (i j : Nat) (v : Int32) : cG := (g.1, g.2.1, g.2.2.1, g.2.2.2.1, g.2.2.2.2.1, g.2.2.2.2.2.1, va_up g.2.2.2.2.2.2 i (upd (g.2.2.2.2.2.2 i) j v))
def cn4 (_ : cG) (_ : Nat) : Nat := 80
def cr4 (_ : cG) (_ j : Nat) : qm_v := qR 3 j
def cn5 (_ : cG) (_ : Nat) : Nat := 8
def cr5 (_ : cG) (_ j : Nat) : qm_v := qR 1 (80 + j)
theorem cce2 {a : Nat} {q : cQ} (g : cG) (i : Nat) (_ : cV 2 i) : c_ce a q g 2 i = .inl (q.1, cn2 g i, .inl (cr2 g i)) := rfl
theorem cce6 {a : Nat} {q : cQ} (g : cG) (i : Nat) (_ : cV 6 i) : c_ce a q g 6 i = .inl (q.1, cn6 g i, .inl (cr6 g i)) := rfl
theorem cce8 {a : Nat} {q : cQ} (g : cG) (i : Nat) (_ : cV 8 i) : c_ce a q g 8 i = .inl (q.2.1, cn8 g i, .inl (cr8 g i)) := rfl
theorem cce4 {a : Nat} {q : cQ} (g : cG) (i : Nat) (_ : cV 4 i) (_ : c_ok g) : ∃ f : Nat → Option Nat, c_ce a q g 4 i = .inl (q.2.2.1, cn4 g i, .inr (.inr (.inr (.inr f)))) ∧ ∀ j, j < cn4 g i → va_rf (f j) = qm_cv (cLa a) (cr4 g i j) ∧ qm_ok cV (cr4 g i j) := ⟨_, rfl, fun j hj => ⟨rfl, hj⟩⟩
theorem cce5 {a : Nat} {q : cQ} (g : cG) (i : Nat) (_ : cV 5 i) (_ : c_ok g) : ∃ f : Nat → Option Nat, c_ce a q g 5 i = .inl (q.2.2.2, cn5 g i, .inr (.inr (.inr (.inr f)))) ∧ ∀ j, j < cn5 g i → va_rf (f j) = qm_cv (cLa a) (cr5 g i j) ∧ qm_ok cV (cr5 g i j) := ⟨_, rfl, fun j hj => ⟨rfl, show 80 + j < 89 from by have : j < 8 := hj; omega⟩⟩
theorem cwr2 (g : cG) (i j : Nat) (v : Int32) (_ : cV 2 i) : cn2 (cw2 g i j v) i = cn2 g i ∧ cr2 (cw2 g i j v) i = upd (cr2 g i) j v.toInt8.toInt32 := ⟨rfl, by show va_up _ i _ i = _; rw [va_up_self]; rfl⟩
theorem cwr6 (g : cG) (i j : Nat) (v : Int32) (_ : cV 6 i) : cn6 (cw6 g i j v) i = cn6 g i ∧ cr6 (cw6 g i j v) i = upd (cr6 g i) j v.toInt8.toInt32 := ⟨rfl, rfl⟩
theorem cwr8 (g : cG) (i j : Nat) (v : Int32) (_ : cV 8 i) : cn8 (cw8 g i j v) i = cn8 g i ∧ cr8 (cw8 g i j v) i = upd (cr8 g i) j v := ⟨rfl, by show va_up _ i _ i = _; rw [va_up_self]; rfl⟩
theorem cok2 {a : Nat} {q : cQ} (g : cG) (i j : Nat) (v : Int32) (_ : cV 2 i) (h : c_ok g) : c_ok (cw2 g i j v) ∧ ∀ k j2, cV k j2 → (k ≠ 2 ∨ j2 ≠ i) → c_ce a q (cw2 g i j v) k j2 = c_ce a q g k j2 := ⟨h, fun k j2 _ hne => ce_uB k j2 hne⟩
theorem cok6 {a : Nat} {q : cQ} (g : cG) (i j : Nat) (v : Int32) (hV : cV 6 i) (h : c_ok g) : c_ok (cw6 g i j v) ∧ ∀ k j2, cV k j2 → (k ≠ 6 ∨ j2 ≠ i) → c_ce a q (cw6 g i j v) k j2 = c_ce a q g k j2 := ⟨h, fun k j2 hv hne => ce_uT k j2 hv (by rw [show i = 0 from hV] at hne; exact hne)⟩
theorem cok8 {a : Nat} {q : cQ} (g : cG) (i j : Nat) (v : Int32) (_ : cV 8 i) (h : c_ok g) : c_ok (cw8 g i j v) ∧ ∀ k j2, cV k j2 → (k ≠ 8 ∨ j2 ≠ i) → c_ce a q (cw8 g i j v) k j2 = c_ce a q g k j2 := ⟨h, fun k j2 _ hne => ce_uA k j2 hne⟩
theorem crc0 {a : Nat} {q : cQ} (g : cG) (i : Nat) (_ : cV 0 i) (_ : c_ok g) : ∃ fs, c_ce a q g 0 i = .inr (3, fs) := ⟨_, rfl⟩
theorem crc1 {a : Nat} {q : cQ} (g : cG) (i : Nat) (_ : cV 1 i) (_ : c_ok g) : ∃ fs, c_ce a q g 1 i = .inr (0, fs) := ⟨_, rfl⟩
theorem crc3 {a : Nat} {q : cQ} (g : cG) (i : Nat) (_ : cV 3 i) (_ : c_ok g) : ∃ fs, c_ce a q g 3 i = .inr (1, fs) := ⟨_, rfl⟩
theorem crc7 {a : Nat} {q : cQ} (g : cG) (i : Nat) (_ : cV 7 i) (_ : c_ok g) : ∃ fs, c_ce a q g 7 i = .inr (2, fs) := ⟨_, rfl⟩
abbrev mR_init : MethodName × List Cond × Room := (yR_init, wsT yR_init prog_1_method_1_code 2 none, rmL 3)
abbrev mR_type : MethodName × List Cond × Room := (yR_type, wsT yR_type prog_1_method_2_code 6 (some .int), rmL 2)
abbrev mR_text : MethodName × List Cond × Room := (yR_text, wsT yR_text prog_1_method_3_code 5 (some .int), rmL 2)
abbrev mR_whole : MethodName × List Cond × Room := (yR_whole, wsT yR_whole prog_1_method_4_code 3 (some .int), rmL 3)
abbrev mR_leaf : MethodName × List Cond × Room := (yR_leaf, wsT yR_leaf prog_1_method_5_code 4 (some .int), rmL 2)
abbrev mR_call : MethodName × List Cond × Room := (yR_call, wsT yR_call prog_1_method_6_code 8 (some .int), rmL 2)
abbrev mR_takes : MethodName × List Cond × Room := (yR_takes, wsT yR_takes prog_1_method_7_code 2 (some .int), rmL 1)
abbrev mR_run : MethodName × List Cond × Room := (yR_run, wsT yR_run prog_1_method_8_code 3 (some .int), rmL 9)
abbrev mR_number : MethodName × List Cond × Room := (yR_number, wsT yR_number prog_1_method_9_code 1 (some .long), rmL 1)
abbrev mR_tag : MethodName × List Cond × Room := (yR_tag, wsT yR_tag prog_1_method_10_code 1 (some .int), rmL 1)
abbrev mR_letter : MethodName × List Cond × Room := (yR_letter, wsT yR_letter prog_1_method_11_code 2 (some .int), rmL 2)
abbrev mR_give : MethodName × List Cond × Room := (yR_give, wsT yR_give prog_1_method_12_code 2 (some .int), rmL 4)
abbrev mR_drop : MethodName × List Cond × Room := (yR_drop, wsT yR_drop prog_1_method_13_code 2 (some .int), rmL 2)
abbrev mR_uses : MethodName × List Cond × Room := (yR_uses, wsT yR_uses prog_1_method_14_code 2 (some .int), rmL 2)
abbrev mR_depth : MethodName × List Cond × Room := (yR_depth, wsT yR_depth prog_1_method_15_code 2 (some .int), rmL 2)
abbrev mR_clear : MethodName × List Cond × Room := (yR_clear, wsT yR_clear prog_1_method_16_code 2 (some .int), rmL 1)
abbrev mR_size : MethodName × List Cond × Room := (yR_size, wsT yR_size prog_1_method_17_code 1 (some .int), rmL 1)
abbrev mR_isExpression : MethodName × List Cond × Room := (yR_isExpression, wsT yR_isExpression prog_1_method_18_code 2 (some .boolean), rmL 1)
abbrev mR_isVariable : MethodName × List Cond × Room := (yR_isVariable, wsT yR_isVariable prog_1_method_19_code 1 (some .boolean), rmL 1)
abbrev mR_isWhole : MethodName × List Cond × Room := (yR_isWhole, wsT yR_isWhole prog_1_method_20_code 2 (some .boolean), rmL 1)
abbrev mR_byteOf : MethodName × List Cond × Room := (yR_byteOf, wsT yR_byteOf prog_1_method_21_code 3 (some .int), rmL 1)
abbrev mR_lastLeaf : MethodName × List Cond × Room := (yR_lastLeaf, wsT yR_lastLeaf prog_1_method_22_code 1 (some .int), rmL 1)
abbrev mR_reckon : MethodName × List Cond × Room := (yR_reckon, wsT yR_reckon prog_1_method_23_code 5 none, rmL 8)
abbrev mC_reckon : MethodName × List Cond × Room := (yC_reckon, wsT yC_reckon prog_2_method_2_code 5 none, rmL 7)
abbrev mC_choose : MethodName × List Cond × Room := (yC_choose, wsT yC_choose prog_2_method_3_code 4 none, rmL 4)
abbrev mC_toNumber : MethodName × List Cond × Room := (yC_toNumber, wsT yC_toNumber prog_2_method_4_code 2 none, rmL 4)
abbrev mC_readDigits : MethodName × List Cond × Room := (yC_readDigits, wsT yC_readDigits prog_2_method_5_code 9 none, rmL 3)
abbrev mC_toWords : MethodName × List Cond × Room := (yC_toWords, wsT yC_toWords prog_2_method_6_code 2 none, rmL 6)
abbrev mC_appendWord : MethodName × List Cond × Room := (yC_appendWord, wsT yC_appendWord prog_2_method_7_code 3 none, rmL 5)
abbrev mE_init : MethodName × List Cond × Room := (yE_init, wsT yE_init prog_3_method_1_code 1 none, rmL 2)
abbrev mE_becomeValue : MethodName × List Cond × Room := (yE_becomeValue, wsT yE_becomeValue prog_3_method_2_code 1 (some (.object "FunctionRows$Value")), rmL 1)
abbrev mE_becomeVariable : MethodName × List Cond × Room := (yE_becomeVariable, wsT yE_becomeVariable prog_3_method_3_code 3 none, rmL 1)
abbrev mE_becomeCall : MethodName × List Cond × Room := (yE_becomeCall, wsT yE_becomeCall prog_3_method_4_code 5 none, rmL 1)
abbrev mE_isCall : MethodName × List Cond × Room := (yE_isCall, wsT yE_isCall prog_3_method_5_code 1 (some .boolean), rmL 1)
abbrev mE_wantOperands : MethodName × List Cond × Room := (yE_wantOperands, wsT yE_wantOperands prog_3_method_6_code 1 none, rmL 2)
abbrev mE_given : MethodName × List Cond × Room := (yE_given, wsT yE_given prog_3_method_7_code 1 (some .int), rmL 2)
abbrev mS_init : MethodName × List Cond × Room := (yS_init, wsT yS_init prog_4_method_1_code 1 none, rmL 1)
abbrev mS_goes : MethodName × List Cond × Room := (yS_goes, wsT yS_goes prog_4_method_2_code 5 (some .int), rmL 5)
abbrev mS_begin : MethodName × List Cond × Room := (yS_begin, wsT yS_begin prog_4_method_3_code 1 none, rmL 2)
abbrev mS_read : MethodName × List Cond × Room := (yS_read, wsT yS_read prog_4_method_4_code 4 (some .boolean), rmL 4)
abbrev mS_openGroup : MethodName × List Cond × Room := (yS_openGroup, wsT yS_openGroup prog_4_method_5_code 1 (some .boolean), rmL 3)
abbrev mS_closeGroup : MethodName × List Cond × Room := (yS_closeGroup, wsT yS_closeGroup prog_4_method_6_code 2 (some .boolean), rmL 3)
abbrev mS_anchor : MethodName × List Cond × Room := (yS_anchor, wsT yS_anchor prog_4_method_7_code 3 (some .boolean), rmL 2)
abbrev mS_atom : MethodName × List Cond × Room := (yS_atom, wsT yS_atom prog_4_method_8_code 5 (some .boolean), rmL 3)
abbrev mS_enter : MethodName × List Cond × Room := (yS_enter, wsT yS_enter prog_4_method_9_code 2 (some .int), rmL 2)
abbrev mS_repeat : MethodName × List Cond × Room := (yS_repeat, wsT yS_repeat prog_4_method_10_code 5 none, rmL 2)
abbrev mS_readEscaped : MethodName × List Cond × Room := (yS_readEscaped, wsT yS_readEscaped prog_4_method_11_code 4 (some .int), rmL 3)
abbrev mS_readItems : MethodName × List Cond × Room := (yS_readItems, wsT yS_readItems prog_4_method_12_code 10 (some .int), rmL 3)
abbrev mS_isItem : MethodName × List Cond × Room := (yS_isItem, wsT yS_isItem prog_4_method_13_code 1 (some .boolean), rmL 1)
abbrev mS_placesOf : MethodName × List Cond × Room := (yS_placesOf, wsT yS_placesOf prog_4_method_14_code 6 (some .int), rmL 2)
abbrev mS_newState : MethodName × List Cond × Room := (yS_newState, wsT yS_newState prog_4_method_15_code 2 (some .int), rmL 1)
abbrev mS_connect : MethodName × List Cond × Room := (yS_connect, wsT yS_connect prog_4_method_16_code 5 none, rmL 1)
abbrev mS_spread : MethodName × List Cond × Room := (yS_spread, wsT yS_spread prog_4_method_17_code 6 none, rmL 1)
abbrev mT_reckon : MethodName × List Cond × Room := (yT_reckon, wsT yT_reckon prog_5_method_2_code 5 none, rmL 5)
abbrev mT_part : MethodName × List Cond × Room := (yT_part, wsT yT_part prog_5_method_3_code 8 none, rmL 3)
abbrev mT_resize : MethodName × List Cond × Room := (yT_resize, wsT yT_resize prog_5_method_4_code 6 none, rmL 2)
abbrev mT_join : MethodName × List Cond × Room := (yT_join, wsT yT_join prog_5_method_5_code 3 none, rmL 3)
abbrev mT_tagLetter : MethodName × List Cond × Room := (yT_tagLetter, wsT yT_tagLetter prog_5_method_6_code 2 none, rmL 2)
abbrev mT_seek : MethodName × List Cond × Room := (yT_seek, wsT yT_seek prog_5_method_7_code 5 none, rmL 4)
abbrev mT_split : MethodName × List Cond × Room := (yT_split, wsT yT_split prog_5_method_8_code 5 none, rmL 3)
abbrev mT_turn : MethodName × List Cond × Room := (yT_turn, wsT yT_turn prog_5_method_9_code 6 none, rmL 3)
abbrev mT_isPlain : MethodName × List Cond × Room := (yT_isPlain, wsT yT_isPlain prog_5_method_10_code 1 (some .boolean), rmL 1)
abbrev mU_reckon : MethodName × List Cond × Room := (yU_reckon, wsT yU_reckon prog_6_method_2_code 4 (some .int), rmL 4)
abbrev mU_of : MethodName × List Cond × Room := (yU_of, wsT yU_of prog_6_method_3_code 1 (some .int), rmL 2)
abbrev mU_truth : MethodName × List Cond × Room := (yU_truth, wsT yU_truth prog_6_method_4_code 1 (some .int), rmL 1)
abbrev mU_other : MethodName × List Cond × Room := (yU_other, wsT yU_other prog_6_method_5_code 1 (some .int), rmL 1)
abbrev mU_both : MethodName × List Cond × Room := (yU_both, wsT yU_both prog_6_method_6_code 2 (some .int), rmL 1)
abbrev mU_either : MethodName × List Cond × Room := (yU_either, wsT yU_either prog_6_method_7_code 2 (some .int), rmL 1)
abbrev mU_same : MethodName × List Cond × Room := (yU_same, wsT yU_same prog_6_method_8_code 2 (some .int), rmL 3)
abbrev mU_less : MethodName × List Cond × Room := (yU_less, wsT yU_less prog_6_method_9_code 2 (some .int), rmL 3)
abbrev mU_isBefore : MethodName × List Cond × Room := (yU_isBefore, wsT yU_isBefore prog_6_method_10_code 3 (some .boolean), rmL 2)
abbrev mV_init : MethodName × List Cond × Room := (yV_init, wsT yV_init prog_7_method_1_code 1 none, rmL 1)
abbrev mV_setError : MethodName × List Cond × Room := (yV_setError, wsT yV_setError prog_7_method_2_code 1 none, rmL 1)
abbrev mV_setTruth : MethodName × List Cond × Room := (yV_setTruth, wsT yV_setTruth prog_7_method_3_code 2 none, rmL 1)
abbrev mV_setWhole : MethodName × List Cond × Room := (yV_setWhole, wsT yV_setWhole prog_7_method_4_code 3 none, rmL 2)
abbrev mV_setNode : MethodName × List Cond × Room := (yV_setNode, wsT yV_setNode prog_7_method_5_code 2 none, rmL 1)
abbrev mV_startText : MethodName × List Cond × Room := (yV_startText, wsT yV_startText prog_7_method_6_code 2 none, rmL 1)
abbrev mV_append : MethodName × List Cond × Room := (yV_append, wsT yV_append prog_7_method_7_code 2 none, rmL 1)
abbrev mV_appendPart : MethodName × List Cond × Room := (yV_appendPart, wsT yV_appendPart prog_7_method_8_code 6 none, rmL 2)
abbrev mV_appendDigits : MethodName × List Cond × Room := (yV_appendDigits, wsT yV_appendDigits prog_7_method_9_code 6 none, rmL 2)
abbrev mV_at : MethodName × List Cond × Room := (yV_at, wsT yV_at prog_7_method_10_code 2 (some .int), rmL 1)
abbrev mV_copy : MethodName × List Cond × Room := (yV_copy, wsT yV_copy prog_7_method_11_code 2 none, rmL 3)
abbrev mV_hasAt : MethodName × List Cond × Room := (yV_hasAt, wsT yV_hasAt prog_7_method_12_code 4 (some .boolean), rmL 2)
abbrev mV_find : MethodName × List Cond × Room := (yV_find, wsT yV_find prog_7_method_13_code 3 (some .int), rmL 3)
abbrev mH_reckon : MethodName × List Cond × Room := (yH_reckon, wsT yH_reckon prog_8_method_2_code 4 none, rmL 4)
abbrev mH_multiply : MethodName × List Cond × Room := (yH_multiply, wsT yH_multiply prog_8_method_3_code 7 none, rmL 3)
abbrev mH_divide : MethodName × List Cond × Room := (yH_divide, wsT yH_divide prog_8_method_4_code 6 none, rmL 3)
def qm_Nx (E : cEnv) : Prop := ∀ (s : State) (H : Heap), E.2.2.2.2 s H → va_Nw (.methodLinkNest "FunctionRows$Value" 23 yR_isWhole "FunctionRows") s
theorem klR_122 : Cond.constantLong "FunctionRows" 122 (-2) ∈ gw_tbl := tb_T3 (i := 76) (by decide +kernel) (by decide +kernel)
theorem klR_149 : Cond.constantLong "FunctionRows" 149 (-1000000000000000) ∈ gw_tbl := tb_T1 (i := 217) (by decide +kernel) (by decide +kernel)
theorem klR_151 : Cond.constantLong "FunctionRows" 151 (1000000000000000) ∈ gw_tbl := tb_T1 (i := 218) (by decide +kernel) (by decide +kernel)
theorem mlE_44 : Cond.methodLink "FunctionRows$Expression" 44 Lib.Math.max.name ∈ gw_tbl := tb_T2 (i := 21) rfl rfl
theorem ms_imax : Cond.static Lib.Math.max.name ∈ gw_tbl := tb_T2 (i := 22) rfl rfl
theorem mc_imax : Cond.code Lib.Math.max.name Lib.Math.max.code 2 (some .int) ∈ gw_tbl := tb_T2 (i := 23) rfl rfl
theorem mi_math : Cond.initialized "java/lang/Math" ∈ gw_tbl := tb_T1 (i := 6) (by decide +kernel) (by decide +kernel)
theorem mlS_134 : Cond.methodLink "FunctionRows$Search" 134 Lib.Math.min.name ∈ gw_tbl := tb_T2 (i := 64) rfl rfl
theorem ms_imin : Cond.static Lib.Math.min.name ∈ gw_tbl := tb_T2 (i := 65) rfl rfl
theorem mc_imin : Cond.code Lib.Math.min.name Lib.Math.min.code 2 (some .int) ∈ gw_tbl := tb_T2 (i := 66) rfl rfl
theorem inR : Cond.initialized "FunctionRows" ∈ gw_tbl := tb_T1 (i := 1) (by decide +kernel) (by decide +kernel)
theorem mlR_38 : Cond.methodLink "FunctionRows" 38 yR_byteOf ∈ gw_tbl := tb_T1 (i := 191) rfl rfl
theorem stR_byteOf : Cond.static yR_byteOf ∈ gw_tbl := tb_T1 (i := 192) rfl rfl
theorem inE : Cond.initialized "FunctionRows$Expression" ∈ gw_tbl := tb_T1 (i := 4) (by decide +kernel) (by decide +kernel)
theorem mlR_49 : Cond.methodLink "FunctionRows" 49 yE_becomeValue ∈ gw_tbl := tb_T1 (i := 198) rfl rfl
theorem imE_becomeValue : Cond.instanceMethod yE_becomeValue ∈ gw_tbl := tb_T1 (i := 199) rfl rfl
theorem seE_becomeValue : Cond.selects "FunctionRows$Expression" yE_becomeValue yE_becomeValue ∈ gw_tbl := tb_T1 (i := 200) rfl rfl
theorem inV : Cond.initialized "FunctionRows$Value" ∈ gw_tbl := tb_T1 (i := 2) (by decide +kernel) (by decide +kernel)
theorem mlR_53 : Cond.methodLink "FunctionRows" 53 yV_startText ∈ gw_tbl := tb_T1 (i := 202) rfl rfl
theorem imV_startText : Cond.instanceMethod yV_startText ∈ gw_tbl := tb_T1 (i := 203) rfl rfl
theorem seV_startText : Cond.selects "FunctionRows$Value" yV_startText yV_startText ∈ gw_tbl := tb_T1 (i := 204) rfl rfl
theorem mlR_57 : Cond.methodLink "FunctionRows" 57 yV_append ∈ gw_tbl := tb_T1 (i := 206) rfl rfl
theorem imV_append : Cond.instanceMethod yV_append ∈ gw_tbl := tb_T1 (i := 207) rfl rfl
theorem seV_append : Cond.selects "FunctionRows$Value" yV_append yV_append ∈ gw_tbl := tb_T1 (i := 208) rfl rfl
theorem mlR_68 : Cond.methodLink "FunctionRows" 68 yR_lastLeaf ∈ gw_tbl := tb_T1 (i := 228) rfl rfl
theorem stR_lastLeaf : Cond.static yR_lastLeaf ∈ gw_tbl := tb_T1 (i := 229) rfl rfl
theorem mlR_72 : Cond.methodLink "FunctionRows" 72 yE_becomeVariable ∈ gw_tbl := tb_T1 (i := 231) rfl rfl
theorem imE_becomeVariable : Cond.instanceMethod yE_becomeVariable ∈ gw_tbl := tb_T1 (i := 232) rfl rfl
theorem seE_becomeVariable : Cond.selects "FunctionRows$Expression" yE_becomeVariable yE_becomeVariable ∈ gw_tbl := tb_T1 (i := 233) rfl rfl
theorem mlR_76 : Cond.methodLink "FunctionRows" 76 yV_setTruth ∈ gw_tbl := tb_T1 (i := 235) rfl rfl
theorem imV_setTruth : Cond.instanceMethod yV_setTruth ∈ gw_tbl := tb_T1 (i := 236) rfl rfl
theorem seV_setTruth : Cond.selects "FunctionRows$Value" yV_setTruth yV_setTruth ∈ gw_tbl := tb_T1 (i := 237) rfl rfl
theorem mlR_79 : Cond.methodLink "FunctionRows" 79 yV_setNode ∈ gw_tbl := tb_T1 (i := 239) rfl rfl
theorem imV_setNode : Cond.instanceMethod yV_setNode ∈ gw_tbl := tb_T2 (i := 0) rfl rfl
theorem seV_setNode : Cond.selects "FunctionRows$Value" yV_setNode yV_setNode ∈ gw_tbl := tb_T2 (i := 1) rfl rfl
theorem mlR_82 : Cond.methodLink "FunctionRows" 82 yR_takes ∈ gw_tbl := tb_T2 (i := 7) rfl rfl
theorem imR_takes : Cond.instanceMethod yR_takes ∈ gw_tbl := tb_T2 (i := 8) rfl rfl
theorem seR_takes : Cond.selects "FunctionRows" yR_takes yR_takes ∈ gw_tbl := tb_T2 (i := 9) rfl rfl
theorem mlR_85 : Cond.methodLink "FunctionRows" 85 yR_isExpression ∈ gw_tbl := tb_T2 (i := 13) rfl rfl
theorem imR_isExpression : Cond.instanceMethod yR_isExpression ∈ gw_tbl := tb_T2 (i := 15) rfl rfl
theorem seR_isExpression : Cond.selects "FunctionRows" yR_isExpression yR_isExpression ∈ gw_tbl := tb_S (i := 0) rfl rfl
theorem mlR_89 : Cond.methodLink "FunctionRows" 89 yE_becomeCall ∈ gw_tbl := tb_T2 (i := 17) rfl rfl
theorem imE_becomeCall : Cond.instanceMethod yE_becomeCall ∈ gw_tbl := tb_T2 (i := 18) rfl rfl
theorem seE_becomeCall : Cond.selects "FunctionRows$Expression" yE_becomeCall yE_becomeCall ∈ gw_tbl := tb_T2 (i := 19) rfl rfl
theorem mlR_134 : Cond.methodLink "FunctionRows" 134 yV_at ∈ gw_tbl := tb_T3 (i := 85) rfl rfl
theorem imV_at : Cond.instanceMethod yV_at ∈ gw_tbl := tb_T2 (i := 72) rfl rfl
theorem seV_at : Cond.selects "FunctionRows$Value" yV_at yV_at ∈ gw_tbl := tb_T2 (i := 73) rfl rfl
theorem mlR_137 : Cond.methodLink "FunctionRows" 137 yR_isVariable ∈ gw_tbl := tb_T3 (i := 90) rfl rfl
theorem stR_isVariable : Cond.static yR_isVariable ∈ gw_tbl := tb_T3 (i := 91) rfl rfl
theorem mlR_140 : Cond.methodLink "FunctionRows" 140 yV_setError ∈ gw_tbl := tb_T3 (i := 97) rfl rfl
theorem imV_setError : Cond.instanceMethod yV_setError ∈ gw_tbl := tb_T2 (i := 126) rfl rfl
theorem seV_setError : Cond.selects "FunctionRows$Value" yV_setError yV_setError ∈ gw_tbl := tb_T2 (i := 127) rfl rfl
theorem mlE_50 : Cond.methodLink "FunctionRows$Expression" 50 yE_isCall ∈ gw_tbl := tb_T2 (i := 33) rfl rfl
theorem imE_isCall : Cond.instanceMethod yE_isCall ∈ gw_tbl := tb_T2 (i := 34) rfl rfl
theorem seE_isCall : Cond.selects "FunctionRows$Expression" yE_isCall yE_isCall ∈ gw_tbl := tb_T2 (i := 35) rfl rfl
theorem inU : Cond.initialized "FunctionRows$Truths" ∈ gw_tbl := tb_T1 (i := 7) (by decide +kernel) (by decide +kernel)
theorem mlE_61 : Cond.methodLink "FunctionRows$Expression" 61 yU_truth ∈ gw_tbl := tb_T2 (i := 46) rfl rfl
theorem stU_truth : Cond.static yU_truth ∈ gw_tbl := tb_T2 (i := 47) rfl rfl
theorem inS : Cond.initialized "FunctionRows$Search" ∈ gw_tbl := tb_T1 (i := 3) (by decide +kernel) (by decide +kernel)
theorem mlS_87 : Cond.methodLink "FunctionRows$Search" 87 yS_newState ∈ gw_tbl := tb_T2 (i := 60) rfl rfl
theorem imS_newState : Cond.instanceMethod yS_newState ∈ gw_tbl := tb_T2 (i := 62) rfl rfl
theorem seS_newState : Cond.selects "FunctionRows$Search" yS_newState yS_newState ∈ gw_tbl := tb_S (i := 3) rfl rfl
theorem mlS_67 : Cond.methodLink "FunctionRows$Search" 67 yS_connect ∈ gw_tbl := tb_T2 (i := 83) rfl rfl
theorem imS_connect : Cond.instanceMethod yS_connect ∈ gw_tbl := tb_T2 (i := 85) rfl rfl
theorem seS_connect : Cond.selects "FunctionRows$Search" yS_connect yS_connect ∈ gw_tbl := tb_S (i := 7) rfl rfl
theorem mlS_94 : Cond.methodLink "FunctionRows$Search" 94 yV_at ∈ gw_tbl := tb_T2 (i := 71) rfl rfl
theorem mlT_66 : Cond.methodLink "FunctionRows$Texts" 66 yV_startText ∈ gw_tbl := tb_T2 (i := 154) rfl rfl
theorem mlT_74 : Cond.methodLink "FunctionRows$Texts" 74 yV_at ∈ gw_tbl := tb_T2 (i := 166) rfl rfl
theorem mlT_78 : Cond.methodLink "FunctionRows$Texts" 78 yV_append ∈ gw_tbl := tb_T2 (i := 167) rfl rfl
theorem mlU_43 : Cond.methodLink "FunctionRows$Truths" 43 yU_truth ∈ gw_tbl := tb_T2 (i := 206) rfl rfl
theorem mlU_61 : Cond.methodLink "FunctionRows$Truths" 61 yV_at ∈ gw_tbl := tb_T3 (i := 70) rfl rfl
theorem stR_isWhole : Cond.static yR_isWhole ∈ gw_tbl := tb_T1 (i := 215) rfl rfl
theorem mlV_33 : Cond.methodLink "FunctionRows$Value" 33 Lib.Math.min.name ∈ gw_tbl := tb_T2 (i := 159) rfl rfl
theorem mlV_39 : Cond.methodLink "FunctionRows$Value" 39 Lib.Math.max.name ∈ gw_tbl := tb_T2 (i := 160) rfl rfl
theorem mlV_42 : Cond.methodLink "FunctionRows$Value" 42 yV_at ∈ gw_tbl := tb_T2 (i := 161) rfl rfl
theorem mlV_46 : Cond.methodLink "FunctionRows$Value" 46 yV_append ∈ gw_tbl := tb_T2 (i := 162) rfl rfl
theorem klV_50 : Cond.constantLong "FunctionRows$Value" 50 (10) ∈ gw_tbl := tb_T3 (i := 46) (by decide +kernel) (by decide +kernel)
theorem mlR_60 : Cond.methodLink "FunctionRows" 60 yR_isWhole ∈ gw_tbl := tb_T1 (i := 214) rfl rfl
theorem mlR_64 : Cond.methodLink "FunctionRows" 64 yV_setWhole ∈ gw_tbl := tb_T1 (i := 219) rfl rfl
theorem imV_setWhole : Cond.instanceMethod yV_setWhole ∈ gw_tbl := tb_T1 (i := 220) rfl rfl
theorem seV_setWhole : Cond.selects "FunctionRows$Value" yV_setWhole yV_setWhole ∈ gw_tbl := tb_T1 (i := 221) rfl rfl
theorem mlC_58 : Cond.methodLink "FunctionRows$Casts" 58 yV_at ∈ gw_tbl := tb_T2 (i := 219) rfl rfl
theorem klC_65 : Cond.constantLong "FunctionRows$Casts" 65 (10) ∈ gw_tbl := tb_T2 (i := 220) (by decide +kernel) (by decide +kernel)
theorem klC_67 : Cond.constantLong "FunctionRows$Casts" 67 (48) ∈ gw_tbl := tb_T2 (i := 221) (by decide +kernel) (by decide +kernel)
theorem mlC_34 : Cond.methodLink "FunctionRows$Casts" 34 yV_setWhole ∈ gw_tbl := tb_T2 (i := 211) rfl rfl
theorem mlC_31 : Cond.methodLink "FunctionRows$Casts" 31 yV_setError ∈ gw_tbl := tb_T2 (i := 210) rfl rfl
theorem mlS_124 : Cond.methodLink "FunctionRows$Search" 124 yS_enter ∈ gw_tbl := tb_T2 (i := 79) rfl rfl
theorem imS_enter : Cond.instanceMethod yS_enter ∈ gw_tbl := tb_T2 (i := 81) rfl rfl
theorem seS_enter : Cond.selects "FunctionRows$Search" yS_enter yS_enter ∈ gw_tbl := tb_S (i := 6) rfl rfl
theorem mlS_127 : Cond.methodLink "FunctionRows$Search" 127 yS_repeat ∈ gw_tbl := tb_T2 (i := 91) rfl rfl
theorem imS_repeat : Cond.instanceMethod yS_repeat ∈ gw_tbl := tb_T2 (i := 93) rfl rfl
theorem seS_repeat : Cond.selects "FunctionRows$Search" yS_repeat yS_repeat ∈ gw_tbl := tb_S (i := 9) rfl rfl
theorem mlS_109 : Cond.methodLink "FunctionRows$Search" 109 yS_placesOf ∈ gw_tbl := tb_T2 (i := 99) rfl rfl
theorem stS_placesOf : Cond.static yS_placesOf ∈ gw_tbl := tb_T2 (i := 100) rfl rfl
theorem mlS_131 : Cond.methodLink "FunctionRows$Search" 131 yS_isItem ∈ gw_tbl := tb_T2 (i := 110) rfl rfl
theorem stS_isItem : Cond.static yS_isItem ∈ gw_tbl := tb_T2 (i := 111) rfl rfl
theorem mlT_15 : Cond.methodLink "FunctionRows$Texts" 15 yV_setError ∈ gw_tbl := tb_T2 (i := 143) rfl rfl
theorem mlT_54 : Cond.methodLink "FunctionRows$Texts" 54 Lib.MathLoose.max_long.x ∈ gw_tbl := tb_T2 (i := 148) rfl rfl
theorem ms_lmax : Cond.static Lib.MathLoose.max_long.x ∈ gw_tbl := tb_T2 (i := 149) rfl rfl
theorem mc_lmax : Cond.code Lib.MathLoose.max_long.x Lib.MathLoose.max_long.code 4 (some .long) ∈ gw_tbl := tb_T2 (i := 150) rfl rfl
theorem mlT_60 : Cond.methodLink "FunctionRows$Texts" 60 Lib.MathLoose.min_long.x ∈ gw_tbl := tb_T2 (i := 151) rfl rfl
theorem ms_lmin : Cond.static Lib.MathLoose.min_long.x ∈ gw_tbl := tb_T2 (i := 152) rfl rfl
theorem mc_lmin : Cond.code Lib.MathLoose.min_long.x Lib.MathLoose.min_long.code 4 (some .long) ∈ gw_tbl := tb_T2 (i := 153) rfl rfl
theorem mlT_70 : Cond.methodLink "FunctionRows$Texts" 70 yV_appendPart ∈ gw_tbl := tb_T2 (i := 155) rfl rfl
theorem imV_appendPart : Cond.instanceMethod yV_appendPart ∈ gw_tbl := tb_T2 (i := 156) rfl rfl
theorem seV_appendPart : Cond.selects "FunctionRows$Value" yV_appendPart yV_appendPart ∈ gw_tbl := tb_T2 (i := 157) rfl rfl
theorem inT : Cond.initialized "FunctionRows$Texts" ∈ gw_tbl := tb_T1 (i := 8) (by decide +kernel) (by decide +kernel)
theorem mlT_102 : Cond.methodLink "FunctionRows$Texts" 102 yT_isPlain ∈ gw_tbl := tb_T2 (i := 177) rfl rfl
theorem stT_isPlain : Cond.static yT_isPlain ∈ gw_tbl := tb_T2 (i := 54) rfl rfl
theorem mlT_94 : Cond.methodLink "FunctionRows$Texts" 94 yV_hasAt ∈ gw_tbl := tb_T2 (i := 178) rfl rfl
theorem imV_hasAt : Cond.instanceMethod yV_hasAt ∈ gw_tbl := tb_T2 (i := 179) rfl rfl
theorem seV_hasAt : Cond.selects "FunctionRows$Value" yV_hasAt yV_hasAt ∈ gw_tbl := tb_T2 (i := 180) rfl rfl
theorem mlU_53 : Cond.methodLink "FunctionRows$Truths" 53 yV_hasAt ∈ gw_tbl := tb_T3 (i := 63) rfl rfl
theorem mlU_57 : Cond.methodLink "FunctionRows$Truths" 57 yU_isBefore ∈ gw_tbl := tb_T3 (i := 67) rfl rfl
theorem stU_isBefore : Cond.static yU_isBefore ∈ gw_tbl := tb_T3 (i := 68) rfl rfl
theorem mlV_52 : Cond.methodLink "FunctionRows$Value" 52 yV_appendPart ∈ gw_tbl := tb_T2 (i := 202) rfl rfl
theorem mlV_56 : Cond.methodLink "FunctionRows$Value" 56 yV_hasAt ∈ gw_tbl := tb_T2 (i := 189) rfl rfl
theorem mlH_36 : Cond.methodLink "FunctionRows$Wholes" 36 Lib.MathLoose.abs_long.x ∈ gw_tbl := tb_T2 (i := 133) rfl rfl
theorem ms_labs : Cond.static Lib.MathLoose.abs_long.x ∈ gw_tbl := tb_T2 (i := 134) rfl rfl
theorem mc_labs : Cond.code Lib.MathLoose.abs_long.x Lib.MathLoose.abs_long.code 2 (some .long) ∈ gw_tbl := tb_T2 (i := 135) rfl rfl
theorem klH_42 : Cond.constantLong "FunctionRows$Wholes" 42 (1000000000000000) ∈ gw_tbl := tb_T2 (i := 136) (by decide +kernel) (by decide +kernel)
theorem mlH_15 : Cond.methodLink "FunctionRows$Wholes" 15 yV_setError ∈ gw_tbl := tb_T2 (i := 125) rfl rfl
theorem mlH_22 : Cond.methodLink "FunctionRows$Wholes" 22 yV_setWhole ∈ gw_tbl := tb_T2 (i := 129) rfl rfl
theorem mlR_115 : Cond.methodLink "FunctionRows" 115 yV_copy ∈ gw_tbl := tb_T3 (i := 71) rfl rfl
theorem imV_copy : Cond.instanceMethod yV_copy ∈ gw_tbl := tb_T2 (i := 199) rfl rfl
theorem seV_copy : Cond.selects "FunctionRows$Value" yV_copy yV_copy ∈ gw_tbl := tb_T2 (i := 200) rfl rfl
theorem mlC_15 : Cond.methodLink "FunctionRows$Casts" 15 yV_copy ∈ gw_tbl := tb_T2 (i := 198) rfl rfl
theorem mlC_49 : Cond.methodLink "FunctionRows$Casts" 49 yT_isPlain ∈ gw_tbl := tb_T2 (i := 215) rfl rfl
theorem inC : Cond.initialized "FunctionRows$Casts" ∈ gw_tbl := tb_T1 (i := 10) (by decide +kernel) (by decide +kernel)
theorem mlC_55 : Cond.methodLink "FunctionRows$Casts" 55 yC_readDigits ∈ gw_tbl := tb_T2 (i := 216) rfl rfl
theorem stC_readDigits : Cond.static yC_readDigits ∈ gw_tbl := tb_T2 (i := 217) rfl rfl
theorem mlS_98 : Cond.methodLink "FunctionRows$Search" 98 yS_openGroup ∈ gw_tbl := tb_T2 (i := 75) rfl rfl
theorem imS_openGroup : Cond.instanceMethod yS_openGroup ∈ gw_tbl := tb_T2 (i := 77) rfl rfl
theorem seS_openGroup : Cond.selects "FunctionRows$Search" yS_openGroup yS_openGroup ∈ gw_tbl := tb_S (i := 5) rfl rfl
theorem mlS_102 : Cond.methodLink "FunctionRows$Search" 102 yS_closeGroup ∈ gw_tbl := tb_T2 (i := 87) rfl rfl
theorem imS_closeGroup : Cond.instanceMethod yS_closeGroup ∈ gw_tbl := tb_T2 (i := 89) rfl rfl
theorem seS_closeGroup : Cond.selects "FunctionRows$Search" yS_closeGroup yS_closeGroup ∈ gw_tbl := tb_S (i := 8) rfl rfl
theorem mlS_105 : Cond.methodLink "FunctionRows$Search" 105 yS_anchor ∈ gw_tbl := tb_T2 (i := 95) rfl rfl
theorem imS_anchor : Cond.instanceMethod yS_anchor ∈ gw_tbl := tb_T2 (i := 97) rfl rfl
theorem seS_anchor : Cond.selects "FunctionRows$Search" yS_anchor yS_anchor ∈ gw_tbl := tb_S (i := 10) rfl rfl
theorem mlS_113 : Cond.methodLink "FunctionRows$Search" 113 yS_atom ∈ gw_tbl := tb_T2 (i := 102) rfl rfl
theorem imS_atom : Cond.instanceMethod yS_atom ∈ gw_tbl := tb_T2 (i := 104) rfl rfl
theorem seS_atom : Cond.selects "FunctionRows$Search" yS_atom yS_atom ∈ gw_tbl := tb_S (i := 11) rfl rfl
theorem mlS_117 : Cond.methodLink "FunctionRows$Search" 117 yS_readItems ∈ gw_tbl := tb_T2 (i := 106) rfl rfl
theorem imS_readItems : Cond.instanceMethod yS_readItems ∈ gw_tbl := tb_T2 (i := 108) rfl rfl
theorem seS_readItems : Cond.selects "FunctionRows$Search" yS_readItems yS_readItems ∈ gw_tbl := tb_S (i := 12) rfl rfl
theorem mlS_121 : Cond.methodLink "FunctionRows$Search" 121 yS_readEscaped ∈ gw_tbl := tb_T2 (i := 113) rfl rfl
theorem imS_readEscaped : Cond.instanceMethod yS_readEscaped ∈ gw_tbl := tb_T2 (i := 115) rfl rfl
theorem seS_readEscaped : Cond.selects "FunctionRows$Search" yS_readEscaped yS_readEscaped ∈ gw_tbl := tb_S (i := 13) rfl rfl
theorem mlT_81 : Cond.methodLink "FunctionRows$Texts" 81 yV_find ∈ gw_tbl := tb_T2 (i := 185) rfl rfl
theorem imV_find : Cond.instanceMethod yV_find ∈ gw_tbl := tb_T2 (i := 186) rfl rfl
theorem seV_find : Cond.selects "FunctionRows$Value" yV_find yV_find ∈ gw_tbl := tb_T2 (i := 187) rfl rfl
theorem mlT_85 : Cond.methodLink "FunctionRows$Texts" 85 yU_truth ∈ gw_tbl := tb_T2 (i := 190) rfl rfl
theorem mlT_91 : Cond.methodLink "FunctionRows$Texts" 91 yV_setTruth ∈ gw_tbl := tb_T2 (i := 191) rfl rfl
theorem mlT_98 : Cond.methodLink "FunctionRows$Texts" 98 yT_split ∈ gw_tbl := tb_T2 (i := 192) rfl rfl
theorem stT_split : Cond.static yT_split ∈ gw_tbl := tb_T2 (i := 193) rfl rfl
theorem mlU_9 : Cond.methodLink "FunctionRows$Truths" 9 yU_of ∈ gw_tbl := tb_T3 (i := 50) rfl rfl
theorem stU_of : Cond.static yU_of ∈ gw_tbl := tb_T2 (i := 204) rfl rfl
theorem mlU_15 : Cond.methodLink "FunctionRows$Truths" 15 yU_other ∈ gw_tbl := tb_T3 (i := 51) rfl rfl
theorem stU_other : Cond.static yU_other ∈ gw_tbl := tb_T3 (i := 52) rfl rfl
theorem mlU_19 : Cond.methodLink "FunctionRows$Truths" 19 yU_both ∈ gw_tbl := tb_T3 (i := 54) rfl rfl
theorem stU_both : Cond.static yU_both ∈ gw_tbl := tb_T3 (i := 55) rfl rfl
theorem mlU_23 : Cond.methodLink "FunctionRows$Truths" 23 yU_either ∈ gw_tbl := tb_T3 (i := 57) rfl rfl
theorem stU_either : Cond.static yU_either ∈ gw_tbl := tb_T3 (i := 58) rfl rfl
theorem mlU_26 : Cond.methodLink "FunctionRows$Truths" 26 yU_same ∈ gw_tbl := tb_T3 (i := 60) rfl rfl
theorem stU_same : Cond.static yU_same ∈ gw_tbl := tb_T3 (i := 61) rfl rfl
theorem mlU_30 : Cond.methodLink "FunctionRows$Truths" 30 yU_less ∈ gw_tbl := tb_T3 (i := 64) rfl rfl
theorem stU_less : Cond.static yU_less ∈ gw_tbl := tb_T3 (i := 65) rfl rfl
theorem inH : Cond.initialized "FunctionRows$Wholes" ∈ gw_tbl := tb_T1 (i := 9) (by decide +kernel) (by decide +kernel)
theorem mlH_26 : Cond.methodLink "FunctionRows$Wholes" 26 yH_multiply ∈ gw_tbl := tb_T2 (i := 130) rfl rfl
theorem stH_multiply : Cond.static yH_multiply ∈ gw_tbl := tb_T2 (i := 131) rfl rfl
theorem mlH_32 : Cond.methodLink "FunctionRows$Wholes" 32 yH_divide ∈ gw_tbl := tb_T2 (i := 137) rfl rfl
theorem stH_divide : Cond.static yH_divide ∈ gw_tbl := tb_T2 (i := 138) rfl rfl
theorem mlC_19 : Cond.methodLink "FunctionRows$Casts" 19 yU_of ∈ gw_tbl := tb_T2 (i := 203) rfl rfl
theorem mlC_25 : Cond.methodLink "FunctionRows$Casts" 25 yC_choose ∈ gw_tbl := tb_T2 (i := 207) rfl rfl
theorem stC_choose : Cond.static yC_choose ∈ gw_tbl := tb_T2 (i := 208) rfl rfl
theorem mlC_38 : Cond.methodLink "FunctionRows$Casts" 38 yC_toNumber ∈ gw_tbl := tb_T2 (i := 212) rfl rfl
theorem stC_toNumber : Cond.static yC_toNumber ∈ gw_tbl := tb_T2 (i := 213) rfl rfl
theorem mlC_42 : Cond.methodLink "FunctionRows$Casts" 42 yC_toWords ∈ gw_tbl := tb_T2 (i := 222) rfl rfl
theorem stC_toWords : Cond.static yC_toWords ∈ gw_tbl := tb_T2 (i := 223) rfl rfl
theorem mlS_39 : Cond.methodLink "FunctionRows$Search" 39 yT_isPlain ∈ gw_tbl := tb_T2 (i := 53) rfl rfl
theorem mlS_45 : Cond.methodLink "FunctionRows$Search" 45 yS_begin ∈ gw_tbl := tb_T2 (i := 56) rfl rfl
theorem imS_begin : Cond.instanceMethod yS_begin ∈ gw_tbl := tb_T2 (i := 58) rfl rfl
theorem seS_begin : Cond.selects "FunctionRows$Search" yS_begin yS_begin ∈ gw_tbl := tb_S (i := 2) rfl rfl
theorem mlS_54 : Cond.methodLink "FunctionRows$Search" 54 yS_read ∈ gw_tbl := tb_T2 (i := 67) rfl rfl
theorem imS_read : Cond.instanceMethod yS_read ∈ gw_tbl := tb_T2 (i := 69) rfl rfl
theorem seS_read : Cond.selects "FunctionRows$Search" yS_read yS_read ∈ gw_tbl := tb_S (i := 4) rfl rfl
theorem mlS_71 : Cond.methodLink "FunctionRows$Search" 71 yS_spread ∈ gw_tbl := tb_T2 (i := 117) rfl rfl
theorem imS_spread : Cond.instanceMethod yS_spread ∈ gw_tbl := tb_T2 (i := 119) rfl rfl
theorem seS_spread : Cond.selects "FunctionRows$Search" yS_spread yS_spread ∈ gw_tbl := tb_S (i := 14) rfl rfl
theorem mlS_75 : Cond.methodLink "FunctionRows$Search" 75 yU_truth ∈ gw_tbl := tb_T2 (i := 121) rfl rfl
theorem mlT_21 : Cond.methodLink "FunctionRows$Texts" 21 yV_setWhole ∈ gw_tbl := tb_T2 (i := 144) rfl rfl
theorem mlT_25 : Cond.methodLink "FunctionRows$Texts" 25 yT_part ∈ gw_tbl := tb_T2 (i := 145) rfl rfl
theorem stT_part : Cond.static yT_part ∈ gw_tbl := tb_T2 (i := 146) rfl rfl
theorem mlT_31 : Cond.methodLink "FunctionRows$Texts" 31 yT_resize ∈ gw_tbl := tb_T2 (i := 163) rfl rfl
theorem stT_resize : Cond.static yT_resize ∈ gw_tbl := tb_T2 (i := 164) rfl rfl
theorem mlT_35 : Cond.methodLink "FunctionRows$Texts" 35 yT_join ∈ gw_tbl := tb_T2 (i := 168) rfl rfl
theorem stT_join : Cond.static yT_join ∈ gw_tbl := tb_T2 (i := 169) rfl rfl
theorem mlT_39 : Cond.methodLink "FunctionRows$Texts" 39 yT_tagLetter ∈ gw_tbl := tb_T2 (i := 171) rfl rfl
theorem stT_tagLetter : Cond.static yT_tagLetter ∈ gw_tbl := tb_T2 (i := 172) rfl rfl
theorem mlT_43 : Cond.methodLink "FunctionRows$Texts" 43 yT_turn ∈ gw_tbl := tb_T2 (i := 174) rfl rfl
theorem stT_turn : Cond.static yT_turn ∈ gw_tbl := tb_T2 (i := 175) rfl rfl
theorem mlT_46 : Cond.methodLink "FunctionRows$Texts" 46 yT_seek ∈ gw_tbl := tb_T2 (i := 182) rfl rfl
theorem stT_seek : Cond.static yT_seek ∈ gw_tbl := tb_T2 (i := 183) rfl rfl
theorem mlR_166 : Cond.methodLink "FunctionRows" 166 yE_given ∈ gw_tbl := tb_T2 (i := 42) rfl rfl
theorem imE_given : Cond.instanceMethod yE_given ∈ gw_tbl := tb_T2 (i := 43) rfl rfl
theorem seE_given : Cond.selects "FunctionRows$Expression" yE_given yE_given ∈ gw_tbl := tb_T2 (i := 44) rfl rfl
theorem mlR_170 : Cond.methodLink "FunctionRows" 170 yS_goes ∈ gw_tbl := tb_T2 (i := 49) rfl rfl
theorem imS_goes : Cond.instanceMethod yS_goes ∈ gw_tbl := tb_T2 (i := 50) rfl rfl
theorem seS_goes : Cond.selects "FunctionRows$Search" yS_goes yS_goes ∈ gw_tbl := tb_T2 (i := 51) rfl rfl
theorem mlR_174 : Cond.methodLink "FunctionRows" 174 yH_reckon ∈ gw_tbl := tb_T2 (i := 122) rfl rfl
theorem stH_reckon : Cond.static yH_reckon ∈ gw_tbl := tb_T2 (i := 123) rfl rfl
theorem mlR_179 : Cond.methodLink "FunctionRows" 179 yT_reckon ∈ gw_tbl := tb_T2 (i := 140) rfl rfl
theorem stT_reckon : Cond.static yT_reckon ∈ gw_tbl := tb_T2 (i := 141) rfl rfl
theorem mlR_184 : Cond.methodLink "FunctionRows" 184 yC_reckon ∈ gw_tbl := tb_T2 (i := 195) rfl rfl
theorem stC_reckon : Cond.static yC_reckon ∈ gw_tbl := tb_T2 (i := 196) rfl rfl
theorem mlR_187 : Cond.methodLink "FunctionRows" 187 yU_reckon ∈ gw_tbl := tb_T3 (i := 47) rfl rfl
theorem stU_reckon : Cond.static yU_reckon ∈ gw_tbl := tb_T3 (i := 48) rfl rfl
theorem mlR_101 : Cond.methodLink "FunctionRows" 101 yE_wantOperands ∈ gw_tbl := tb_T2 (i := 29) rfl rfl
theorem imE_wantOperands : Cond.instanceMethod yE_wantOperands ∈ gw_tbl := tb_T2 (i := 30) rfl rfl
theorem seE_wantOperands : Cond.selects "FunctionRows$Expression" yE_wantOperands yE_wantOperands ∈ gw_tbl := tb_T2 (i := 31) rfl rfl
theorem mlR_104 : Cond.methodLink "FunctionRows" 104 yE_isCall ∈ gw_tbl := tb_T2 (i := 37) rfl rfl
theorem mlR_108 : Cond.methodLink "FunctionRows" 108 yR_reckon ∈ gw_tbl := tb_T2 (i := 38) rfl rfl
theorem imR_reckon : Cond.instanceMethod yR_reckon ∈ gw_tbl := tb_T2 (i := 40) rfl rfl
theorem seR_reckon : Cond.selects "FunctionRows" yR_reckon yR_reckon ∈ gw_tbl := tb_S (i := 1) rfl rfl
