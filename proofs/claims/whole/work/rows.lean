section
-- ===== PART A: goes FIRST, ahead of the names: the tables' words, and 'selects' of the private methods out of them =====
/-- a private method of a class that the tables say can be made, by its rows of tables_1 -/
def lw_okq (q : MethodName × Nat) : Prop := (q.1.cls ≠ "java/lang/invoke/MethodHandle" ∧ q.1.cls ≠ "java/lang/invoke/VarHandle") ∧ Cond.instantiable q.1.cls q.2 ∈ tables_1 ∧ Cond.privateMethod q.1 ∈ tables_1 ∧ Cond.instanceMethod q.1 ∈ tables_1
theorem lw_p0 : lw_okq (⟨"FunctionRows", "isExpression", "(I)Z"⟩, 7) := ⟨⟨by decide +kernel, by decide +kernel⟩, List.mem_of_getElem? (i := 16) (by decide +kernel), List.mem_of_getElem? (i := 254) (by decide +kernel), List.mem_of_getElem? (i := 255) (by decide +kernel)⟩
theorem lw_p1 : lw_okq (⟨"FunctionRows", "reckon", "(LFunctionRows$Expression;)V"⟩, 7) := ⟨⟨by decide +kernel, by decide +kernel⟩, List.mem_of_getElem? (i := 16) (by decide +kernel), List.mem_of_getElem? (i := 279) (by decide +kernel), List.mem_of_getElem? (i := 280) (by decide +kernel)⟩
theorem lw_p2 : lw_okq (⟨"FunctionRows$Search", "begin", "()V"⟩, 14) := ⟨⟨by decide +kernel, by decide +kernel⟩, List.mem_of_getElem? (i := 70) (by decide +kernel), List.mem_of_getElem? (i := 297) (by decide +kernel), List.mem_of_getElem? (i := 298) (by decide +kernel)⟩
theorem lw_p3 : lw_okq (⟨"FunctionRows$Search", "newState", "()I"⟩, 14) := ⟨⟨by decide +kernel, by decide +kernel⟩, List.mem_of_getElem? (i := 70) (by decide +kernel), List.mem_of_getElem? (i := 301) (by decide +kernel), List.mem_of_getElem? (i := 302) (by decide +kernel)⟩
theorem lw_p4 : lw_okq (⟨"FunctionRows$Search", "read", "(LFunctionRows$Value;LFunctionRows$Value;)Z"⟩, 14) := ⟨⟨by decide +kernel, by decide +kernel⟩, List.mem_of_getElem? (i := 70) (by decide +kernel), List.mem_of_getElem? (i := 308) (by decide +kernel), List.mem_of_getElem? (i := 309) (by decide +kernel)⟩
theorem lw_p5 : lw_okq (⟨"FunctionRows$Search", "openGroup", "()Z"⟩, 14) := ⟨⟨by decide +kernel, by decide +kernel⟩, List.mem_of_getElem? (i := 70) (by decide +kernel), List.mem_of_getElem? (i := 316) (by decide +kernel), List.mem_of_getElem? (i := 317) (by decide +kernel)⟩
theorem lw_p6 : lw_okq (⟨"FunctionRows$Search", "enter", "()I"⟩, 14) := ⟨⟨by decide +kernel, by decide +kernel⟩, List.mem_of_getElem? (i := 70) (by decide +kernel), List.mem_of_getElem? (i := 320) (by decide +kernel), List.mem_of_getElem? (i := 321) (by decide +kernel)⟩
theorem lw_p7 : lw_okq (⟨"FunctionRows$Search", "connect", "(IIII)V"⟩, 14) := ⟨⟨by decide +kernel, by decide +kernel⟩, List.mem_of_getElem? (i := 70) (by decide +kernel), List.mem_of_getElem? (i := 324) (by decide +kernel), List.mem_of_getElem? (i := 325) (by decide +kernel)⟩
theorem lw_p8 : lw_okq (⟨"FunctionRows$Search", "closeGroup", "(LFunctionRows$Value;)Z"⟩, 14) := ⟨⟨by decide +kernel, by decide +kernel⟩, List.mem_of_getElem? (i := 70) (by decide +kernel), List.mem_of_getElem? (i := 328) (by decide +kernel), List.mem_of_getElem? (i := 329) (by decide +kernel)⟩
theorem lw_p9 : lw_okq (⟨"FunctionRows$Search", "repeat", "(IILFunctionRows$Value;)V"⟩, 14) := ⟨⟨by decide +kernel, by decide +kernel⟩, List.mem_of_getElem? (i := 70) (by decide +kernel), List.mem_of_getElem? (i := 332) (by decide +kernel), List.mem_of_getElem? (i := 333) (by decide +kernel)⟩
theorem lw_p10 : lw_okq (⟨"FunctionRows$Search", "anchor", "(I)Z"⟩, 14) := ⟨⟨by decide +kernel, by decide +kernel⟩, List.mem_of_getElem? (i := 70) (by decide +kernel), List.mem_of_getElem? (i := 336) (by decide +kernel), List.mem_of_getElem? (i := 337) (by decide +kernel)⟩
theorem lw_p11 : lw_okq (⟨"FunctionRows$Search", "atom", "(ILFunctionRows$Value;)Z"⟩, 14) := ⟨⟨by decide +kernel, by decide +kernel⟩, List.mem_of_getElem? (i := 70) (by decide +kernel), List.mem_of_getElem? (i := 343) (by decide +kernel), List.mem_of_getElem? (i := 344) (by decide +kernel)⟩
theorem lw_p12 : lw_okq (⟨"FunctionRows$Search", "readItems", "(LFunctionRows$Value;LFunctionRows$Value;)I"⟩, 14) := ⟨⟨by decide +kernel, by decide +kernel⟩, List.mem_of_getElem? (i := 70) (by decide +kernel), List.mem_of_getElem? (i := 347) (by decide +kernel), List.mem_of_getElem? (i := 348) (by decide +kernel)⟩
theorem lw_p13 : lw_okq (⟨"FunctionRows$Search", "readEscaped", "(LFunctionRows$Value;LFunctionRows$Value;)I"⟩, 14) := ⟨⟨by decide +kernel, by decide +kernel⟩, List.mem_of_getElem? (i := 70) (by decide +kernel), List.mem_of_getElem? (i := 354) (by decide +kernel), List.mem_of_getElem? (i := 355) (by decide +kernel)⟩
theorem lw_p14 : lw_okq (⟨"FunctionRows$Search", "spread", "(LFunctionRows$Value;)V"⟩, 14) := ⟨⟨by decide +kernel, by decide +kernel⟩, List.mem_of_getElem? (i := 70) (by decide +kernel), List.mem_of_getElem? (i := 358) (by decide +kernel), List.mem_of_getElem? (i := 359) (by decide +kernel)⟩
theorem lw_p15 : lw_okq (⟨"FunctionRowsModel", "add", "(IJ)I"⟩, 17) := ⟨⟨by decide +kernel, by decide +kernel⟩, List.mem_of_getElem? (i := 595) (by decide +kernel), List.mem_of_getElem? (i := 670) (by decide +kernel), List.mem_of_getElem? (i := 671) (by decide +kernel)⟩
def lw_privs_1 : List (MethodName × Nat) := [(⟨"FunctionRows", "isExpression", "(I)Z"⟩, 7), (⟨"FunctionRows", "reckon", "(LFunctionRows$Expression;)V"⟩, 7), (⟨"FunctionRows$Search", "begin", "()V"⟩, 14), (⟨"FunctionRows$Search", "newState", "()I"⟩, 14), (⟨"FunctionRows$Search", "read", "(LFunctionRows$Value;LFunctionRows$Value;)Z"⟩, 14), (⟨"FunctionRows$Search", "openGroup", "()Z"⟩, 14), (⟨"FunctionRows$Search", "enter", "()I"⟩, 14), (⟨"FunctionRows$Search", "connect", "(IIII)V"⟩, 14), (⟨"FunctionRows$Search", "closeGroup", "(LFunctionRows$Value;)Z"⟩, 14), (⟨"FunctionRows$Search", "repeat", "(IILFunctionRows$Value;)V"⟩, 14), (⟨"FunctionRows$Search", "anchor", "(I)Z"⟩, 14), (⟨"FunctionRows$Search", "atom", "(ILFunctionRows$Value;)Z"⟩, 14), (⟨"FunctionRows$Search", "readItems", "(LFunctionRows$Value;LFunctionRows$Value;)I"⟩, 14), (⟨"FunctionRows$Search", "readEscaped", "(LFunctionRows$Value;LFunctionRows$Value;)I"⟩, 14), (⟨"FunctionRows$Search", "spread", "(LFunctionRows$Value;)V"⟩, 14), (⟨"FunctionRowsModel", "add", "(IJ)I"⟩, 17)]
theorem lw_r1 : ∀ q ∈ lw_privs_1, lw_okq q := List.forall_mem_cons.mpr ⟨lw_p0, List.forall_mem_cons.mpr ⟨lw_p1, List.forall_mem_cons.mpr ⟨lw_p2, List.forall_mem_cons.mpr ⟨lw_p3, List.forall_mem_cons.mpr ⟨lw_p4, List.forall_mem_cons.mpr ⟨lw_p5, List.forall_mem_cons.mpr ⟨lw_p6, List.forall_mem_cons.mpr ⟨lw_p7, List.forall_mem_cons.mpr ⟨lw_p8, List.forall_mem_cons.mpr ⟨lw_p9, List.forall_mem_cons.mpr ⟨lw_p10, List.forall_mem_cons.mpr ⟨lw_p11, List.forall_mem_cons.mpr ⟨lw_p12, List.forall_mem_cons.mpr ⟨lw_p13, List.forall_mem_cons.mpr ⟨lw_p14, List.forall_mem_cons.mpr ⟨lw_p15, fun _ h => absurd h List.not_mem_nil⟩⟩⟩⟩⟩⟩⟩⟩⟩⟩⟩⟩⟩⟩⟩⟩
theorem lw_p16 : lw_okq (⟨"FunctionRowsModel", "isExpression", "(I)Z"⟩, 17) := ⟨⟨by decide +kernel, by decide +kernel⟩, List.mem_of_getElem? (i := 595) (by decide +kernel), List.mem_of_getElem? (i := 698) (by decide +kernel), List.mem_of_getElem? (i := 699) (by decide +kernel)⟩
theorem lw_p17 : lw_okq (⟨"FunctionRowsModel", "reckon", "(I)V"⟩, 17) := ⟨⟨by decide +kernel, by decide +kernel⟩, List.mem_of_getElem? (i := 595) (by decide +kernel), List.mem_of_getElem? (i := 706) (by decide +kernel), List.mem_of_getElem? (i := 707) (by decide +kernel)⟩
theorem lw_p18 : lw_okq (⟨"FunctionRowsModel", "copy", "(II)V"⟩, 17) := ⟨⟨by decide +kernel, by decide +kernel⟩, List.mem_of_getElem? (i := 595) (by decide +kernel), List.mem_of_getElem? (i := 710) (by decide +kernel), List.mem_of_getElem? (i := 711) (by decide +kernel)⟩
theorem lw_p19 : lw_okq (⟨"FunctionRowsModel", "set", "(IIJ)V"⟩, 17) := ⟨⟨by decide +kernel, by decide +kernel⟩, List.mem_of_getElem? (i := 595) (by decide +kernel), List.mem_of_getElem? (i := 714) (by decide +kernel), List.mem_of_getElem? (i := 715) (by decide +kernel)⟩
theorem lw_p20 : lw_okq (⟨"FunctionRowsModel", "truths", "(IIII)V"⟩, 17) := ⟨⟨by decide +kernel, by decide +kernel⟩, List.mem_of_getElem? (i := 595) (by decide +kernel), List.mem_of_getElem? (i := 718) (by decide +kernel), List.mem_of_getElem? (i := 719) (by decide +kernel)⟩
theorem lw_p21 : lw_okq (⟨"FunctionRowsModel", "truth", "(I)I"⟩, 17) := ⟨⟨by decide +kernel, by decide +kernel⟩, List.mem_of_getElem? (i := 595) (by decide +kernel), List.mem_of_getElem? (i := 722) (by decide +kernel), List.mem_of_getElem? (i := 723) (by decide +kernel)⟩
theorem lw_p22 : lw_okq (⟨"FunctionRowsModel", "setTruth", "(II)V"⟩, 17) := ⟨⟨by decide +kernel, by decide +kernel⟩, List.mem_of_getElem? (i := 595) (by decide +kernel), List.mem_of_getElem? (i := 726) (by decide +kernel), List.mem_of_getElem? (i := 727) (by decide +kernel)⟩
theorem lw_p23 : lw_okq (⟨"FunctionRowsModel", "same", "(II)I"⟩, 17) := ⟨⟨by decide +kernel, by decide +kernel⟩, List.mem_of_getElem? (i := 595) (by decide +kernel), List.mem_of_getElem? (i := 730) (by decide +kernel), List.mem_of_getElem? (i := 731) (by decide +kernel)⟩
theorem lw_p24 : lw_okq (⟨"FunctionRowsModel", "length", "(I)I"⟩, 17) := ⟨⟨by decide +kernel, by decide +kernel⟩, List.mem_of_getElem? (i := 595) (by decide +kernel), List.mem_of_getElem? (i := 734) (by decide +kernel), List.mem_of_getElem? (i := 735) (by decide +kernel)⟩
theorem lw_p25 : lw_okq (⟨"FunctionRowsModel", "byteAt", "(II)I"⟩, 17) := ⟨⟨by decide +kernel, by decide +kernel⟩, List.mem_of_getElem? (i := 595) (by decide +kernel), List.mem_of_getElem? (i := 738) (by decide +kernel), List.mem_of_getElem? (i := 739) (by decide +kernel)⟩
theorem lw_p26 : lw_okq (⟨"FunctionRowsModel", "less", "(II)I"⟩, 17) := ⟨⟨by decide +kernel, by decide +kernel⟩, List.mem_of_getElem? (i := 595) (by decide +kernel), List.mem_of_getElem? (i := 742) (by decide +kernel), List.mem_of_getElem? (i := 743) (by decide +kernel)⟩
theorem lw_p27 : lw_okq (⟨"FunctionRowsModel", "arithmetic", "(IIJJ)V"⟩, 17) := ⟨⟨by decide +kernel, by decide +kernel⟩, List.mem_of_getElem? (i := 595) (by decide +kernel), List.mem_of_getElem? (i := 746) (by decide +kernel), List.mem_of_getElem? (i := 747) (by decide +kernel)⟩
theorem lw_p28 : lw_okq (⟨"FunctionRowsModel", "setWhole", "(IJ)V"⟩, 17) := ⟨⟨by decide +kernel, by decide +kernel⟩, List.mem_of_getElem? (i := 595) (by decide +kernel), List.mem_of_getElem? (i := 750) (by decide +kernel), List.mem_of_getElem? (i := 751) (by decide +kernel)⟩
theorem lw_p29 : lw_okq (⟨"FunctionRowsModel", "texts", "(IIIII)V"⟩, 17) := ⟨⟨by decide +kernel, by decide +kernel⟩, List.mem_of_getElem? (i := 595) (by decide +kernel), List.mem_of_getElem? (i := 754) (by decide +kernel), List.mem_of_getElem? (i := 755) (by decide +kernel)⟩
theorem lw_p30 : lw_okq (⟨"FunctionRowsModel", "setPart", "(IIIII)V"⟩, 17) := ⟨⟨by decide +kernel, by decide +kernel⟩, List.mem_of_getElem? (i := 595) (by decide +kernel), List.mem_of_getElem? (i := 760) (by decide +kernel), List.mem_of_getElem? (i := 761) (by decide +kernel)⟩
theorem lw_p31 : lw_okq (⟨"FunctionRowsModel", "sayAll", "(II)V"⟩, 17) := ⟨⟨by decide +kernel, by decide +kernel⟩, List.mem_of_getElem? (i := 595) (by decide +kernel), List.mem_of_getElem? (i := 764) (by decide +kernel), List.mem_of_getElem? (i := 765) (by decide +kernel)⟩
def lw_privs_2 : List (MethodName × Nat) := [(⟨"FunctionRowsModel", "isExpression", "(I)Z"⟩, 17), (⟨"FunctionRowsModel", "reckon", "(I)V"⟩, 17), (⟨"FunctionRowsModel", "copy", "(II)V"⟩, 17), (⟨"FunctionRowsModel", "set", "(IIJ)V"⟩, 17), (⟨"FunctionRowsModel", "truths", "(IIII)V"⟩, 17), (⟨"FunctionRowsModel", "truth", "(I)I"⟩, 17), (⟨"FunctionRowsModel", "setTruth", "(II)V"⟩, 17), (⟨"FunctionRowsModel", "same", "(II)I"⟩, 17), (⟨"FunctionRowsModel", "length", "(I)I"⟩, 17), (⟨"FunctionRowsModel", "byteAt", "(II)I"⟩, 17), (⟨"FunctionRowsModel", "less", "(II)I"⟩, 17), (⟨"FunctionRowsModel", "arithmetic", "(IIJJ)V"⟩, 17), (⟨"FunctionRowsModel", "setWhole", "(IJ)V"⟩, 17), (⟨"FunctionRowsModel", "texts", "(IIIII)V"⟩, 17), (⟨"FunctionRowsModel", "setPart", "(IIIII)V"⟩, 17), (⟨"FunctionRowsModel", "sayAll", "(II)V"⟩, 17)]
theorem lw_r2 : ∀ q ∈ lw_privs_2, lw_okq q := List.forall_mem_cons.mpr ⟨lw_p16, List.forall_mem_cons.mpr ⟨lw_p17, List.forall_mem_cons.mpr ⟨lw_p18, List.forall_mem_cons.mpr ⟨lw_p19, List.forall_mem_cons.mpr ⟨lw_p20, List.forall_mem_cons.mpr ⟨lw_p21, List.forall_mem_cons.mpr ⟨lw_p22, List.forall_mem_cons.mpr ⟨lw_p23, List.forall_mem_cons.mpr ⟨lw_p24, List.forall_mem_cons.mpr ⟨lw_p25, List.forall_mem_cons.mpr ⟨lw_p26, List.forall_mem_cons.mpr ⟨lw_p27, List.forall_mem_cons.mpr ⟨lw_p28, List.forall_mem_cons.mpr ⟨lw_p29, List.forall_mem_cons.mpr ⟨lw_p30, List.forall_mem_cons.mpr ⟨lw_p31, fun _ h => absurd h List.not_mem_nil⟩⟩⟩⟩⟩⟩⟩⟩⟩⟩⟩⟩⟩⟩⟩⟩
theorem lw_p32 : lw_okq (⟨"FunctionRowsModel", "say", "(II)V"⟩, 17) := ⟨⟨by decide +kernel, by decide +kernel⟩, List.mem_of_getElem? (i := 595) (by decide +kernel), List.mem_of_getElem? (i := 768) (by decide +kernel), List.mem_of_getElem? (i := 769) (by decide +kernel)⟩
theorem lw_p33 : lw_okq (⟨"FunctionRowsModel", "places", "(IIII)V"⟩, 17) := ⟨⟨by decide +kernel, by decide +kernel⟩, List.mem_of_getElem? (i := 595) (by decide +kernel), List.mem_of_getElem? (i := 777) (by decide +kernel), List.mem_of_getElem? (i := 778) (by decide +kernel)⟩
theorem lw_p34 : lw_okq (⟨"FunctionRowsModel", "placeOf", "(III)I"⟩, 17) := ⟨⟨by decide +kernel, by decide +kernel⟩, List.mem_of_getElem? (i := 595) (by decide +kernel), List.mem_of_getElem? (i := 781) (by decide +kernel), List.mem_of_getElem? (i := 782) (by decide +kernel)⟩
theorem lw_p35 : lw_okq (⟨"FunctionRowsModel", "stands", "(III)Z"⟩, 17) := ⟨⟨by decide +kernel, by decide +kernel⟩, List.mem_of_getElem? (i := 595) (by decide +kernel), List.mem_of_getElem? (i := 785) (by decide +kernel), List.mem_of_getElem? (i := 786) (by decide +kernel)⟩
theorem lw_p36 : lw_okq (⟨"FunctionRowsModel", "others", "(IIIII)V"⟩, 17) := ⟨⟨by decide +kernel, by decide +kernel⟩, List.mem_of_getElem? (i := 595) (by decide +kernel), List.mem_of_getElem? (i := 789) (by decide +kernel), List.mem_of_getElem? (i := 790) (by decide +kernel)⟩
theorem lw_p37 : lw_okq (⟨"FunctionRowsModel", "asNumber", "(II)V"⟩, 17) := ⟨⟨by decide +kernel, by decide +kernel⟩, List.mem_of_getElem? (i := 595) (by decide +kernel), List.mem_of_getElem? (i := 793) (by decide +kernel), List.mem_of_getElem? (i := 794) (by decide +kernel)⟩
theorem lw_p38 : lw_okq (⟨"FunctionRowsModel", "words", "(II)V"⟩, 17) := ⟨⟨by decide +kernel, by decide +kernel⟩, List.mem_of_getElem? (i := 595) (by decide +kernel), List.mem_of_getElem? (i := 801) (by decide +kernel), List.mem_of_getElem? (i := 802) (by decide +kernel)⟩
theorem lw_p39 : lw_okq (⟨"FunctionRowsModel", "sayNumber", "(IJ)V"⟩, 17) := ⟨⟨by decide +kernel, by decide +kernel⟩, List.mem_of_getElem? (i := 595) (by decide +kernel), List.mem_of_getElem? (i := 805) (by decide +kernel), List.mem_of_getElem? (i := 806) (by decide +kernel)⟩
theorem lw_p40 : lw_okq (⟨"FunctionRowsModel", "last", "(IIIII)V"⟩, 17) := ⟨⟨by decide +kernel, by decide +kernel⟩, List.mem_of_getElem? (i := 595) (by decide +kernel), List.mem_of_getElem? (i := 809) (by decide +kernel), List.mem_of_getElem? (i := 810) (by decide +kernel)⟩
theorem lw_p41 : lw_okq (⟨"FunctionRowsModel", "goes", "(III)V"⟩, 17) := ⟨⟨by decide +kernel, by decide +kernel⟩, List.mem_of_getElem? (i := 595) (by decide +kernel), List.mem_of_getElem? (i := 813) (by decide +kernel), List.mem_of_getElem? (i := 814) (by decide +kernel)⟩
theorem lw_p42 : lw_okq (⟨"FunctionRowsModel", "alternatives", "(I)I"⟩, 17) := ⟨⟨by decide +kernel, by decide +kernel⟩, List.mem_of_getElem? (i := 595) (by decide +kernel), List.mem_of_getElem? (i := 817) (by decide +kernel), List.mem_of_getElem? (i := 818) (by decide +kernel)⟩
theorem lw_p43 : lw_okq (⟨"FunctionRowsModel", "pieces", "(I)I"⟩, 17) := ⟨⟨by decide +kernel, by decide +kernel⟩, List.mem_of_getElem? (i := 595) (by decide +kernel), List.mem_of_getElem? (i := 821) (by decide +kernel), List.mem_of_getElem? (i := 822) (by decide +kernel)⟩
theorem lw_p44 : lw_okq (⟨"FunctionRowsModel", "here", "()I"⟩, 17) := ⟨⟨by decide +kernel, by decide +kernel⟩, List.mem_of_getElem? (i := 595) (by decide +kernel), List.mem_of_getElem? (i := 825) (by decide +kernel), List.mem_of_getElem? (i := 826) (by decide +kernel)⟩
theorem lw_p45 : lw_okq (⟨"FunctionRowsModel", "piece", "(I)I"⟩, 17) := ⟨⟨by decide +kernel, by decide +kernel⟩, List.mem_of_getElem? (i := 595) (by decide +kernel), List.mem_of_getElem? (i := 829) (by decide +kernel), List.mem_of_getElem? (i := 830) (by decide +kernel)⟩
theorem lw_p46 : lw_okq (⟨"FunctionRowsModel", "atom", "(I)I"⟩, 17) := ⟨⟨by decide +kernel, by decide +kernel⟩, List.mem_of_getElem? (i := 595) (by decide +kernel), List.mem_of_getElem? (i := 833) (by decide +kernel), List.mem_of_getElem? (i := 834) (by decide +kernel)⟩
theorem lw_p47 : lw_okq (⟨"FunctionRowsModel", "step", "(IZI)I"⟩, 17) := ⟨⟨by decide +kernel, by decide +kernel⟩, List.mem_of_getElem? (i := 595) (by decide +kernel), List.mem_of_getElem? (i := 837) (by decide +kernel), List.mem_of_getElem? (i := 838) (by decide +kernel)⟩
def lw_privs_3 : List (MethodName × Nat) := [(⟨"FunctionRowsModel", "say", "(II)V"⟩, 17), (⟨"FunctionRowsModel", "places", "(IIII)V"⟩, 17), (⟨"FunctionRowsModel", "placeOf", "(III)I"⟩, 17), (⟨"FunctionRowsModel", "stands", "(III)Z"⟩, 17), (⟨"FunctionRowsModel", "others", "(IIIII)V"⟩, 17), (⟨"FunctionRowsModel", "asNumber", "(II)V"⟩, 17), (⟨"FunctionRowsModel", "words", "(II)V"⟩, 17), (⟨"FunctionRowsModel", "sayNumber", "(IJ)V"⟩, 17), (⟨"FunctionRowsModel", "last", "(IIIII)V"⟩, 17), (⟨"FunctionRowsModel", "goes", "(III)V"⟩, 17), (⟨"FunctionRowsModel", "alternatives", "(I)I"⟩, 17), (⟨"FunctionRowsModel", "pieces", "(I)I"⟩, 17), (⟨"FunctionRowsModel", "here", "()I"⟩, 17), (⟨"FunctionRowsModel", "piece", "(I)I"⟩, 17), (⟨"FunctionRowsModel", "atom", "(I)I"⟩, 17), (⟨"FunctionRowsModel", "step", "(IZI)I"⟩, 17)]
theorem lw_r3 : ∀ q ∈ lw_privs_3, lw_okq q := List.forall_mem_cons.mpr ⟨lw_p32, List.forall_mem_cons.mpr ⟨lw_p33, List.forall_mem_cons.mpr ⟨lw_p34, List.forall_mem_cons.mpr ⟨lw_p35, List.forall_mem_cons.mpr ⟨lw_p36, List.forall_mem_cons.mpr ⟨lw_p37, List.forall_mem_cons.mpr ⟨lw_p38, List.forall_mem_cons.mpr ⟨lw_p39, List.forall_mem_cons.mpr ⟨lw_p40, List.forall_mem_cons.mpr ⟨lw_p41, List.forall_mem_cons.mpr ⟨lw_p42, List.forall_mem_cons.mpr ⟨lw_p43, List.forall_mem_cons.mpr ⟨lw_p44, List.forall_mem_cons.mpr ⟨lw_p45, List.forall_mem_cons.mpr ⟨lw_p46, List.forall_mem_cons.mpr ⟨lw_p47, fun _ h => absurd h List.not_mem_nil⟩⟩⟩⟩⟩⟩⟩⟩⟩⟩⟩⟩⟩⟩⟩⟩
theorem lw_p48 : lw_okq (⟨"FunctionRowsModel", "items", "(I)I"⟩, 17) := ⟨⟨by decide +kernel, by decide +kernel⟩, List.mem_of_getElem? (i := 595) (by decide +kernel), List.mem_of_getElem? (i := 841) (by decide +kernel), List.mem_of_getElem? (i := 842) (by decide +kernel)⟩
theorem lw_p49 : lw_okq (⟨"FunctionRowsModel", "isItem", "()Z"⟩, 17) := ⟨⟨by decide +kernel, by decide +kernel⟩, List.mem_of_getElem? (i := 595) (by decide +kernel), List.mem_of_getElem? (i := 845) (by decide +kernel), List.mem_of_getElem? (i := 846) (by decide +kernel)⟩
def lw_privs_4 : List (MethodName × Nat) := [(⟨"FunctionRowsModel", "items", "(I)I"⟩, 17), (⟨"FunctionRowsModel", "isItem", "()Z"⟩, 17)]
theorem lw_r4 : ∀ q ∈ lw_privs_4, lw_okq q := List.forall_mem_cons.mpr ⟨lw_p48, List.forall_mem_cons.mpr ⟨lw_p49, fun _ h => absurd h List.not_mem_nil⟩⟩
def lw_privs : List (MethodName × Nat) := lw_privs_1 ++ (lw_privs_2 ++ (lw_privs_3 ++ (lw_privs_4)))
def lw_tbl : List Cond := k2_sels lw_privs ++ tables_1
theorem lw_privs_ok : ∀ q ∈ lw_privs, lw_okq q := by
  show ∀ q ∈ lw_privs_1 ++ (lw_privs_2 ++ (lw_privs_3 ++ (lw_privs_4))), lw_okq q
  exact List.forall_mem_append.mpr ⟨lw_r1, List.forall_mem_append.mpr ⟨lw_r2, List.forall_mem_append.mpr ⟨lw_r3, lw_r4⟩⟩⟩
end
section
/-! A PURE MACHINE over places: values are ints, longs, and references to places (kind, index); an instruction is a function of states (with an oracle for its branches and calls); 'qm_px' runs them, and 'qm_run' says that the JVM's walk W follows it. -/
abbrev qm_v : Type := Int32 ⊕ (Int64 ⊕ Option (Nat × Nat))
abbrev qI (x : Int32) : qm_v := .inl x
abbrev qL (x : Int64) : qm_v := .inr (.inl x)
abbrev qR (k i : Nat) : qm_v := .inr (.inr (some (k, i)))
abbrev qN : qm_v := .inr (.inr none)
def qm_cv (Λ : Nat → Nat → Nat) : qm_v → Value
  | .inl x => .int x
  | .inr (.inl x) => .long x
  | .inr (.inr none) => .null
  | .inr (.inr (some q)) => .ref (Λ q.1 q.2)
def qm_ok (V : Nat → Nat → Prop) : qm_v → Prop
  | .inr (.inr (some q)) => V q.1 q.2
  | _ => True
abbrev qm_S (G : Type) : Type := List (Option qm_v) × List qm_v × G
abbrev qm_O (G : Type) : Type := List Nat × List (Option (Nat × Nat)) × List (Option qm_v × G)
abbrev qm_R (G : Type) : Type := List Prop × Option (Option Nat) × qm_S G × qm_O G
abbrev qm_op (G : Type) : Type := qm_O G → qm_S G → qm_R G
def qm_all : List Prop → Prop
  | [] => True
  | [c] => c
  | c :: d :: r => c ∧ qm_all (d :: r)
theorem qm_all_cons {c : Prop} {r : List Prop} (h : qm_all (c :: r)) : c ∧ qm_all r := by
  cases r with
  | nil => exact ⟨h, trivial⟩
  | cons d r => exact h
theorem qm_all_app : ∀ {a b : List Prop}, qm_all (a ++ b) → qm_all a ∧ qm_all b
  | [], _, h => ⟨trivial, h⟩
  | [c], _, h => qm_all_cons h
  | c :: d :: r, b, h => by
    obtain ⟨h1, h2⟩ := qm_all_cons (r := (d :: r) ++ b) h
    obtain ⟨h3, h4⟩ := qm_all_app (a := d :: r) h2
    exact ⟨⟨h1, h3⟩, h4⟩
/-- locals -/
def qm_nth : List (Option qm_v) → Nat → Option qm_v
  | [], _ => none
  | a :: _, 0 => a
  | _ :: l, n + 1 => qm_nth l n
def qm_kl : Option qm_v → Option qm_v
  | some (.inr (.inl _)) => none
  | x => x
def qm_st1 : List (Option qm_v) → Nat → qm_v → List (Option qm_v)
  | [], _, _ => []
  | _ :: l, 0, v => some v :: l
  | a :: l, 1, v => qm_kl a :: qm_st1 l 0 v
  | a :: l, n + 2, v => a :: qm_st1 l (n + 1) v
def qm_st2 : List (Option qm_v) → Nat → qm_v → List (Option qm_v)
  | [], _, _ => []
  | [_], _, _ => []
  | _ :: _ :: l, 0, v => some v :: none :: l
  | a :: b :: l, 1, v => qm_kl a :: qm_st2 (b :: l) 0 v
  | a :: b :: l, n + 2, v => a :: qm_st2 (b :: l) (n + 1) v
def qm_ll (Λ : Nat → Nat → Nat) : Nat → List (Option qm_v) → List (Nat × Value)
  | _, [] => []
  | i, none :: l => qm_ll Λ (i + 1) l
  | i, some v :: l => (i, qm_cv Λ v) :: qm_ll Λ (i + 1) l
theorem qm_ll_mem {Λ : Nat → Nat → Nat} : ∀ {L : List (Option qm_v)} {i k : Nat} {v : qm_v}, qm_nth L k = some v → (i + k, qm_cv Λ v) ∈ qm_ll Λ i L
  | [], _, _, _, h => by cases h
  | none :: l, i, 0, v, h => by cases h
  | some u :: l, i, 0, v, h => by cases h; exact List.mem_cons_self
  | none :: l, i, k + 1, v, h => by
    have := qm_ll_mem (Λ := Λ) (L := l) (i := i + 1) (k := k) (v := v) h
    rw [show i + 1 + k = i + (k + 1) by omega] at this
    exact this
  | some u :: l, i, k + 1, v, h => by
    have := qm_ll_mem (Λ := Λ) (L := l) (i := i + 1) (k := k) (v := v) h
    rw [show i + 1 + k = i + (k + 1) by omega] at this
    exact List.mem_cons_of_mem _ this
theorem qm_ll_of {Λ : Nat → Nat → Nat} : ∀ {L : List (Option qm_v)} {i : Nat} {q : Nat × Value}, q ∈ qm_ll Λ i L → ∃ k v, q = (i + k, qm_cv Λ v) ∧ qm_nth L k = some v
  | [], _, _, h => by cases h
  | none :: l, i, q, h => by
    obtain ⟨k, v, h1, h2⟩ := qm_ll_of (L := l) (i := i + 1) h
    exact ⟨k + 1, v, by rw [h1]; congr 1; omega, h2⟩
  | some u :: l, i, q, h => by
    rcases List.mem_cons.mp h with h | h
    · exact ⟨0, u, h, rfl⟩
    · obtain ⟨k, v, h1, h2⟩ := qm_ll_of (L := l) (i := i + 1) h
      exact ⟨k + 1, v, by rw [h1]; congr 1; omega, h2⟩
def qm_lo (Λ : Nat → Nat → Nat) (nL : Nat) (ls : Array Slot) (L : List (Option qm_v)) : Prop := lv_has ls nL (qm_ll Λ 0 L) ∧ L.length = nL
theorem qm_lo.at {Λ : Nat → Nat → Nat} {nL : Nat} {ls : Array Slot} {L : List (Option qm_v)} (h : qm_lo Λ nL ls L) {k : Nat} {v : qm_v} (hk : qm_nth L k = some v) : ls[k]? = some (.val (qm_cv Λ v)) := by
  have := h.1.2.2 _ (qm_ll_mem (Λ := Λ) (i := 0) hk)
  rw [Nat.zero_add] at this
  exact this
theorem qm_st1_len : ∀ (L : List (Option qm_v)) (k : Nat) (v : qm_v), (qm_st1 L k v).length = L.length
  | [], _, _ => rfl
  | _ :: _, 0, _ => rfl
  | a :: l, 1, v => by show (qm_st1 l 0 v).length + 1 = _; rw [qm_st1_len l 0 v]; rfl
  | a :: l, n + 2, v => by show (qm_st1 l (n + 1) v).length + 1 = _; rw [qm_st1_len l (n + 1) v]; rfl
theorem qm_kl_of {a : Option qm_v} {u : qm_v} (h : qm_kl a = some u) : a = some u ∧ ∀ x, u ≠ .inr (.inl x) := by
  rcases a with _ | ⟨x | ⟨x | x⟩⟩
  · cases h
  · cases h; exact ⟨rfl, fun _ q => by cases q⟩
  · cases h
  · cases h; exact ⟨rfl, fun _ q => by cases q⟩
theorem qm_st1_nth : ∀ {L : List (Option qm_v)} {k i : Nat} {v u : qm_v}, qm_nth (qm_st1 L k v) i = some u → (i = k ∧ u = v) ∨ (i ≠ k ∧ qm_nth L i = some u ∧ (i + 1 = k → ∀ x, u ≠ .inr (.inl x)))
  | [], _, _, _, _, h => by cases h
  | a :: l, 0, 0, v, u, h => by cases h; exact Or.inl ⟨rfl, rfl⟩
  | a :: l, 0, i + 1, v, u, h => Or.inr ⟨by omega, h, fun q => by omega⟩
  | a :: l, 1, 0, v, u, h => by
    obtain ⟨h1, h2⟩ := qm_kl_of h
    exact Or.inr ⟨by omega, h1, fun _ => h2⟩
  | a :: l, 1, i + 1, v, u, h => by
    rcases qm_st1_nth (L := l) (k := 0) (i := i) h with ⟨h1, h2⟩ | ⟨h1, h2, h3⟩
    · exact Or.inl ⟨by omega, h2⟩
    · exact Or.inr ⟨by omega, h2, fun q => h3 (by omega)⟩
  | a :: l, n + 2, 0, v, u, h => Or.inr ⟨by omega, h, fun q => by omega⟩
  | a :: l, n + 2, i + 1, v, u, h => by
    rcases qm_st1_nth (L := l) (k := n + 1) (i := i) h with ⟨h1, h2⟩ | ⟨h1, h2, h3⟩
    · exact Or.inl ⟨by omega, h2⟩
    · exact Or.inr ⟨by omega, h2, fun q => h3 (by omega)⟩
theorem qm_st2_len : ∀ (L : List (Option qm_v)) (k : Nat) (v : qm_v), k + 1 < L.length → (qm_st2 L k v).length = L.length
  | [], _, _, h => by simp at h
  | [_], _, _, h => by simp at h
  | _ :: _ :: _, 0, _, _ => rfl
  | a :: b :: l, 1, v, h => by
    show (qm_st2 (b :: l) 0 v).length + 1 = _
    rw [qm_st2_len (b :: l) 0 v (by simp at h ⊢; omega)]; rfl
  | a :: b :: l, n + 2, v, h => by
    show (qm_st2 (b :: l) (n + 1) v).length + 1 = _
    rw [qm_st2_len (b :: l) (n + 1) v (by simp at h ⊢; omega)]; rfl
theorem qm_st2_nth : ∀ {L : List (Option qm_v)} {k i : Nat} {v u : qm_v}, qm_nth (qm_st2 L k v) i = some u → (i = k ∧ u = v) ∨ (i ≠ k ∧ i ≠ k + 1 ∧ qm_nth L i = some u ∧ (i + 1 = k → ∀ x, u ≠ .inr (.inl x)))
  | [], _, _, _, _, h => by cases h
  | [_], _, _, _, _, h => by cases h
  | a :: b :: l, 0, 0, v, u, h => by cases h; exact Or.inl ⟨rfl, rfl⟩
  | a :: b :: l, 0, 1, v, u, h => by cases h
  | a :: b :: l, 0, i + 2, v, u, h => Or.inr ⟨by omega, by omega, h, fun q => by omega⟩
  | a :: b :: l, 1, 0, v, u, h => by
    obtain ⟨h1, h2⟩ := qm_kl_of h
    exact Or.inr ⟨by omega, by omega, h1, fun _ => h2⟩
  | a :: b :: l, 1, i + 1, v, u, h => by
    rcases qm_st2_nth (L := b :: l) (k := 0) (i := i) h with ⟨h1, h2⟩ | ⟨h1, h2, h3, h4⟩
    · exact Or.inl ⟨by omega, h2⟩
    · exact Or.inr ⟨by omega, by omega, h3, fun q => h4 (by omega)⟩
  | a :: b :: l, n + 2, 0, v, u, h => Or.inr ⟨by omega, by omega, h, fun q => by omega⟩
  | a :: b :: l, n + 2, i + 1, v, u, h => by
    rcases qm_st2_nth (L := b :: l) (k := n + 1) (i := i) h with ⟨h1, h2⟩ | ⟨h1, h2, h3, h4⟩
    · exact Or.inl ⟨by omega, h2⟩
    · exact Or.inr ⟨by omega, by omega, h3, fun q => h4 (by omega)⟩
theorem qm_cat {Λ : Nat → Nat → Nat} {u : qm_v} (h : ∀ x, u ≠ .inr (.inl x)) : (qm_cv Λ u).category = 1 := by
  rcases u with x | ⟨x | ⟨_ | x⟩⟩
  · rfl
  · exact absurd rfl (h x)
  · rfl
  · rfl
theorem qm_lo.st1 {Λ : Nat → Nat → Nat} {nL : Nat} {ls ls' : Array Slot} {L : List (Option qm_v)} {k : Nat} {v : qm_v} (h : qm_lo Λ nL ls L) (h' : lv_has ls' nL ((k, qm_cv Λ v) :: (qm_ll Λ 0 L).filter (fun q => !(q.1 == k) && !(q.1 + 1 == k && q.2.category == 2)))) : qm_lo Λ nL ls' (qm_st1 L k v) := by
  refine ⟨⟨h'.1, h'.2.1, fun q hq => ?_⟩, (qm_st1_len L k v).trans h.2⟩
  obtain ⟨i, u, rfl, hn⟩ := qm_ll_of hq
  refine h'.2.2 _ ?_
  rw [Nat.zero_add]
  rcases qm_st1_nth hn with ⟨rfl, rfl⟩ | ⟨h1, h2, h3⟩
  · exact List.mem_cons_self
  · refine List.mem_cons_of_mem _ (List.mem_filter.mpr ⟨?_, ?_⟩)
    · have := qm_ll_mem (Λ := Λ) (i := 0) h2
      rw [Nat.zero_add] at this
      exact this
    · by_cases hk : i + 1 = k
      · have hc := qm_cat (Λ := Λ) (h3 hk)
        simp [h1, hc]
      · simp [h1, hk]
theorem qm_lo.st2 {Λ : Nat → Nat → Nat} {nL : Nat} {ls ls' : Array Slot} {L : List (Option qm_v)} {k : Nat} {v : qm_v} (h : qm_lo Λ nL ls L) (hk1 : k + 1 < nL) (h' : lv_has ls' nL ((k, qm_cv Λ v) :: (qm_ll Λ 0 L).filter (fun q => !(q.1 == k) && (!(q.1 == k + 1) && !(q.1 + 1 == k && q.2.category == 2))))) : qm_lo Λ nL ls' (qm_st2 L k v) := by
  refine ⟨⟨h'.1, h'.2.1, fun q hq => ?_⟩, (qm_st2_len L k v (by rw [h.2]; exact hk1)).trans h.2⟩
  obtain ⟨i, u, rfl, hn⟩ := qm_ll_of hq
  refine h'.2.2 _ ?_
  rw [Nat.zero_add]
  rcases qm_st2_nth hn with ⟨rfl, rfl⟩ | ⟨h1, h1b, h2, h3⟩
  · exact List.mem_cons_self
  · refine List.mem_cons_of_mem _ (List.mem_filter.mpr ⟨?_, ?_⟩)
    · have := qm_ll_mem (Λ := Λ) (i := 0) h2
      rw [Nat.zero_add] at this
      exact this
    · by_cases hk : i + 1 = k
      · have hc := qm_cat (Λ := Λ) (h3 hk)
        simp [h1, h1b, hc]
      · simp [h1, h1b, hk]
end
section
/-- where a jump goes -/
def qm_sk {G : Type} : List (Nat × qm_op G) → Nat → List (Nat × qm_op G)
  | [], _ => []
  | (pc, f) :: k, t => match Nat.beq pc t with
    | true => (pc, f) :: k
    | false => qm_sk k t
def qm_hd {G : Type} : List (Nat × qm_op G) → Nat
  | [] => 99999
  | (pc, _) :: _ => pc
def qm_px {G : Type} (code : List (Nat × qm_op G)) (stop : Nat) : Nat → List (Nat × qm_op G) → qm_O G → qm_S G → List Prop × List (Nat × qm_op G) × qm_S G
  | 0, _, _, s => ([False], [], s)
  | _ + 1, [], _, s => ([False], [], s)
  | n + 1, (_, f) :: k, o, s => match f o s with
    | (c, some none, s', _) => (c, [], s')
    | (c, none, s', o') => match k with
      | [] => ([False], [], s')
      | x :: k => match Nat.beq x.1 stop with
        | true => (c, x :: k, s')
        | false => match qm_px code stop n (x :: k) o' s' with
          | (c2, r) => (c ++ c2, r)
    | (c, some (some t), s', o') => match qm_sk code t with
      | [] => ([False], [], s')
      | x :: k => match Nat.beq t stop with
        | true => (c, x :: k, s')
        | false => match qm_px code stop n (x :: k) o' s' with
          | (c2, r) => (c ++ c2, r)
section QMR
variable {G : Type}
/-- the state of the pure machine is the JVM's -/
def qm_at (Λ : Nat → Nat → Nat) (V : Nat → Nat → Prop) (hold : State → G → Heap → Prop) (A : Nat → Prop) (nL : Nat) (s : State) (t : qm_S G) (H : Heap) (locs : List Loc) (ls : Array Slot) : Prop :=
  hold s t.2.2 H ∧ (∀ k v, qm_nth t.1 k = some v → qm_ok V v) ∧ (∀ v ∈ t.2.1, qm_ok V v) ∧ qm_lo Λ nL ls t.1 ∧ va_S A s.heap H locs
def qm_W (Λ : Nat → Nat → Nat) (V : Nat → Nat → Prop) (hold : State → G → Heap → Prop) (A : Nat → Prop) (nL : Nat) (p : Program) (l : Launch) (e : Env) (R : Room) (s : State) (m : MethodId) (args : Array Value) (below : List Frame) (meth : Method) (c : Code) (Q : State → Prop) (pc : Nat) (t : qm_S G) : Prop :=
  ∀ (H : Heap) (locs : List Loc) (ls : Array Slot), qm_at Λ V hold A nL s t H locs ls → W p l e R s m args below meth c H locs 0 0 Q (F0 m pc ls (t.2.1.map (qm_cv Λ)))
def qm_Qc (Λ : Nat → Nat → Nat) (V : Nat → Nat → Prop) (hold : State → G → Heap → Prop) (A : Nat → Prop) (Fq : Option qm_v → G → Prop) : Array Value → State → Outcome → State → Prop := fun _ st oc t =>
  ∃ (r : Option qm_v) (g : G), oc = .returned (r.map (qm_cv Λ)) ∧ Fq r g ∧ (∀ v, r = some v → qm_ok V v) ∧ hold t g t.heap ∧ va_F A st t
/-- what a walk of a method's body stands on -/
def qm_C (Λ : Nat → Nat → Nat) (V : Nat → Nat → Prop) (hold : State → G → Heap → Prop) (A : Nat → Prop) (Fq : Option qm_v → G → Prop) (cc : ByteArray) (nL : Nat) (own : String) (Ts : List Cond) (ret : Option FieldType) (p : Program) (s : State) (m : MethodId) (args : Array Value) (below : List Frame) (meth : Method) (c : Code) (Q : State → Prop) : Prop :=
  CallFix p m c cc nL s args Ts own ∧ meth.sig.returnType = ret ∧ meth.locks = false ∧ Q = MQ below (qm_Qc Λ V hold A Fq) args s 0 0 A
/-- an instruction is right at pc, with nx behind it -/
def qm_K (Λ : Nat → Nat → Nat) (V : Nat → Nat → Prop) (hold : State → G → Heap → Prop) (A : Nat → Prop) (l : Launch) (R : Room) (cc : ByteArray) (nL : Nat) (own : String) (Ts : List Cond) (ret : Option FieldType) (pc nx : Nat) (f : qm_op G) : Prop :=
  ∀ (Fq : Option qm_v → G → Prop) (p : Program) (e : Env) (s : State) (m : MethodId) (args : Array Value) (below : List Frame) (meth : Method) (c : Code) (Q : State → Prop), qm_C Λ V hold A Fq cc nL own Ts ret p s m args below meth c Q →
    ∀ (o : qm_O G) (t : qm_S G), qm_all (f o t).1 →
    (match (f o t).2.1 with
      | none => qm_W Λ V hold A nL p l e R s m args below meth c Q nx (f o t).2.2.1
      | some none => Fq (f o t).2.2.1.2.1.head? (f o t).2.2.1.2.2
      | some (some tg) => qm_W Λ V hold A nL p l e R s m args below meth c Q tg (f o t).2.2.1) →
    qm_W Λ V hold A nL p l e R s m args below meth c Q pc t
def qm_cok (K : Nat → Nat → qm_op G → Prop) : List (Nat × qm_op G) → Prop
  | [] => True
  | [x] => K x.1 0 x.2
  | x :: y :: r => K x.1 y.1 x.2 ∧ qm_cok K (y :: r)
theorem qm_cok_sk {K : Nat → Nat → qm_op G → Prop} : ∀ {code : List (Nat × qm_op G)} {t : Nat}, qm_cok K code → qm_cok K (qm_sk code t)
  | [], _, h => h
  | (pc, f) :: k, t, h => by
    unfold qm_sk
    cases hb : Nat.beq pc t with
    | true => exact h
    | false =>
      cases k with
      | nil => exact trivial
      | cons y r => exact qm_cok_sk (code := y :: r) h.2
theorem qm_sk_hd : ∀ {code : List (Nat × qm_op G)} {t : Nat} {x : Nat × qm_op G} {k : List (Nat × qm_op G)}, qm_sk code t = x :: k → x.1 = t
  | [], _, _, _, h => by cases h
  | (pc, f) :: k, t, x, k2, h => by
    unfold qm_sk at h
    cases hb : Nat.beq pc t with
    | true => rw [hb] at h; cases h; exact Nat.eq_of_beq_eq_true hb
    | false => rw [hb] at h; exact qm_sk_hd h
variable {Λ : Nat → Nat → Nat} {V : Nat → Nat → Prop} {hold : State → G → Heap → Prop} {A : Nat → Prop} {Fq : Option qm_v → G → Prop} {l : Launch} {R : Room} {cc : ByteArray} {nL : Nat} {own : String} {Ts : List Cond} {ret : Option FieldType}
variable {p : Program} {e : Env} {s : State} {m : MethodId} {args : Array Value} {below : List Frame} {meth : Method} {c : Code} {Q : State → Prop}
/-- where the pure machine stands -/
def qm_Z (Λ : Nat → Nat → Nat) (V : Nat → Nat → Prop) (hold : State → G → Heap → Prop) (A : Nat → Prop) (Fq : Option qm_v → G → Prop) (nL : Nat) (p : Program) (l : Launch) (e : Env) (R : Room) (s : State) (m : MethodId) (args : Array Value) (below : List Frame) (meth : Method) (c : Code) (Q : State → Prop) : List (Nat × qm_op G) → qm_S G → Prop
  | [], t => Fq t.2.1.head? t.2.2
  | x :: _, t => qm_W Λ V hold A nL p l e R s m args below meth c Q x.1 t
theorem qm_run {code : List (Nat × qm_op G)} (hc : qm_cok (qm_K Λ V hold A l R cc nL own Ts ret) code) (C : qm_C Λ V hold A Fq cc nL own Ts ret p s m args below meth c Q) (stop : Nat) :
    ∀ (n : Nat) (k : List (Nat × qm_op G)) (o : qm_O G) (t : qm_S G), qm_cok (qm_K Λ V hold A l R cc nL own Ts ret) k → k ≠ [] → qm_all (qm_px code stop n k o t).1 → qm_Z Λ V hold A Fq nL p l e R s m args below meth c Q (qm_px code stop n k o t).2.1 (qm_px code stop n k o t).2.2 → qm_Z Λ V hold A Fq nL p l e R s m args below meth c Q k t := by
  intro n
  induction n with
  | zero => intro k o t _ _ h _; exact h.elim
  | succ n ih =>
    intro k o t hk hne h hz
    cases k with
    | nil => exact absurd rfl hne
    | cons x k =>
      obtain ⟨pc, f⟩ := x
      have hK : qm_K Λ V hold A l R cc nL own Ts ret pc (match k with | [] => 0 | y :: _ => y.1) f := by
        cases k with
        | nil => exact hk
        | cons y r => exact hk.1
      have hk2 : qm_cok (qm_K Λ V hold A l R cc nL own Ts ret) k := by
        cases k with
        | nil => exact trivial
        | cons y r => exact hk.2
      show qm_W Λ V hold A nL p l e R s m args below meth c Q pc t
      have hK := hK Fq p e s m args below meth c Q C o t
      unfold qm_px at h hz
      rcases hf : f o t with ⟨cs, j, t', o'⟩
      rw [hf] at h hz hK
      rcases j with _ | _ | tg
      · cases k with
        | nil => exact h.elim
        | cons y r =>
          dsimp only at h hz hK
          cases hb : Nat.beq y.1 stop with
          | true =>
            rw [hb] at h hz
            exact hK h hz
          | false =>
            rw [hb] at h hz
            dsimp only at h hz
            obtain ⟨h1, h2⟩ := qm_all_app h
            exact hK h1 (ih (y :: r) o' t' hk2 (by simp) h2 hz)
      · exact hK h hz
      · dsimp only at h hz hK
        rcases hs : qm_sk code tg with _ | ⟨y, r⟩
        · rw [hs] at h; exact h.elim
        · rw [hs] at h hz
          dsimp only at h hz
          have hy := qm_sk_hd hs
          cases hb : Nat.beq tg stop with
          | true =>
            rw [hb] at h hz
            refine hK h ?_
            rw [← hy]
            exact hz
          | false =>
            rw [hb] at h hz
            dsimp only at h hz
            obtain ⟨h1, h2⟩ := qm_all_app h
            refine hK h1 ?_
            rw [← hy]
            exact ih (y :: r) o' t' (hs ▸ qm_cok_sk hc) (by simp) h2 hz
/-- what is to be shown of a run: its conditions, and the place where it ends -/
def qm_cj : List Prop → Prop → Prop
  | [], z => z
  | c :: r, z => c ∧ qm_cj r z
theorem qm_cj_of : ∀ {cs : List Prop} {z : Prop}, qm_cj cs z → qm_all cs ∧ z
  | [], _, h => ⟨trivial, h⟩
  | [_], _, h => h
  | _ :: d :: r, _, h => by
    obtain ⟨h1, h2⟩ := qm_cj_of (cs := d :: r) h.2
    exact ⟨⟨h.1, h1⟩, h2⟩
theorem qm_step {code : List (Nat × qm_op G)} (hc : qm_cok (qm_K Λ V hold A l R cc nL own Ts ret) code) (C : qm_C Λ V hold A Fq cc nL own Ts ret p s m args below meth c Q) (pc stop n : Nat) (o : qm_O G) {t : qm_S G} (h : qm_cj (qm_px code stop n (qm_sk code pc) o t).1 (qm_Z Λ V hold A Fq nL p l e R s m args below meth c Q (qm_px code stop n (qm_sk code pc) o t).2.1 (qm_px code stop n (qm_sk code pc) o t).2.2)) : qm_W Λ V hold A nL p l e R s m args below meth c Q pc t := by
  obtain ⟨h1, h2⟩ := qm_cj_of h
  rcases hs : qm_sk code pc with _ | ⟨x, k⟩
  · rw [hs] at h1
    cases n <;> exact h1.elim
  · have hy := qm_sk_hd hs
    have h3 := qm_run hc C stop n (qm_sk code pc) o t (qm_cok_sk hc) (by rw [hs]; simp) h1 h2
    rw [hs] at h3
    rw [← hy]
    exact h3
end QMR
end
section
section QMO
variable {G : Type} {Λ : Nat → Nat → Nat} {V : Nat → Nat → Prop} {hold : State → G → Heap → Prop} {A : Nat → Prop} {l : Launch} {R : Room} {cc : ByteArray} {nL : Nat} {own : String} {Ts : List Cond} {ret : Option FieldType}
/-- an instruction that works on the stack alone -/
def o_stk (F : List qm_v → Option (List Prop × List qm_v)) : qm_op G := fun o t => match F t.2.1 with
  | some (cs, S) => (cs, none, (t.1, S, t.2.2), o)
  | none => ([False], none, t, o)
def qm_row (Λ : Nat → Nat → Nat) (l : Launch) (R : Room) (cc : ByteArray) (nL : Nat) (own : String) (Ts : List Cond) (pc nx : Nat) (S S' : List qm_v) : Prop :=
  ∀ (p : Program) (e : Env) (s : State) (m : MethodId) (args : Array Value) (below : List Frame) (meth : Method) (c : Code) (H : Heap) (locs : List Loc) (Q : State → Prop) (ls : Array Slot), CallFix p m c cc nL s args Ts own → ls.size = nL →
    W p l e R s m args below meth c H locs 0 0 Q (F0 m nx ls (S'.map (qm_cv Λ))) → W p l e R s m args below meth c H locs 0 0 Q (F0 m pc ls (S.map (qm_cv Λ)))
theorem os_stk {F : List qm_v → Option (List Prop × List qm_v)} {pc nx : Nat} (hF : ∀ (S : List qm_v) (cs : List Prop) (S' : List qm_v), F S = some (cs, S') → qm_all cs → ((∀ v ∈ S, qm_ok V v) → ∀ v ∈ S', qm_ok V v) ∧ qm_row Λ l R cc nL own Ts pc nx S S') : qm_K Λ V hold A l R cc nL own Ts ret pc nx (o_stk F) := by
  intro Fq p e s m args below meth c Q C o t hc hn H locs ls hA
  unfold o_stk at hc hn
  rcases hf : F t.2.1 with _ | ⟨cs, S⟩
  · rw [hf] at hc; exact hc.elim
  · rw [hf] at hc hn
    obtain ⟨h1, h2⟩ := hF _ _ _ hf hc
    obtain ⟨a1, a2, a3, a4, a5⟩ := hA
    exact h2 p e s m args below meth c H locs Q ls C.1 a4.1.1 (hn H locs ls ⟨a1, a2, h1 a3, a4, a5⟩)
theorem qm_fa2 {v : qm_v} {S : List qm_v} (h : ∀ u ∈ v :: S, qm_ok V u) : qm_ok V v ∧ ∀ u ∈ S, qm_ok V u := ⟨h v List.mem_cons_self, fun u hu => h u (List.mem_cons_of_mem _ hu)⟩
theorem qm_fa {v : qm_v} {S : List qm_v} (h : qm_ok V v) (hS : ∀ u ∈ S, qm_ok V u) : ∀ u ∈ v :: S, qm_ok V u := fun u hu => by
  rcases List.mem_cons.mp hu with rfl | hu
  · exact h
  · exact hS u hu
/-- two ints to an int -/
def f_bi (f : Int32 → Int32 → Int32) : List qm_v → Option (List Prop × List qm_v)
  | .inl y :: .inl x :: S => some ([], .inl (f x y) :: S)
  | _ => none
def f_di (f : Int32 → Int32 → Int32) : List qm_v → Option (List Prop × List qm_v)
  | .inl y :: .inl x :: S => some ([¬ y = 0], .inl (f x y) :: S)
  | _ => none
def f_bl (f : Int64 → Int64 → Int64) : List qm_v → Option (List Prop × List qm_v)
  | .inr (.inl y) :: .inr (.inl x) :: S => some ([], .inr (.inl (f x y)) :: S)
  | _ => none
def f_dl (f : Int64 → Int64 → Int64) : List qm_v → Option (List Prop × List qm_v)
  | .inr (.inl y) :: .inr (.inl x) :: S => some ([¬ y = 0], .inr (.inl (f x y)) :: S)
  | _ => none
def f_sl (f : Int64 → Int32 → Int64) : List qm_v → Option (List Prop × List qm_v)
  | .inl y :: .inr (.inl x) :: S => some ([], .inr (.inl (f x y)) :: S)
  | _ => none
def f_cmp : List qm_v → Option (List Prop × List qm_v)
  | .inr (.inl y) :: .inr (.inl x) :: S => some ([], .inl (lg_cmp x y) :: S)
  | _ => none
def f_ui (f : Int32 → Int32) : List qm_v → Option (List Prop × List qm_v)
  | .inl x :: S => some ([], .inl (f x) :: S)
  | _ => none
def f_ul (f : Int64 → Int64) : List qm_v → Option (List Prop × List qm_v)
  | .inr (.inl x) :: S => some ([], .inr (.inl (f x)) :: S)
  | _ => none
def f_il (f : Int32 → Int64) : List qm_v → Option (List Prop × List qm_v)
  | .inl x :: S => some ([], .inr (.inl (f x)) :: S)
  | _ => none
def f_li (f : Int64 → Int32) : List qm_v → Option (List Prop × List qm_v)
  | .inr (.inl x) :: S => some ([], .inl (f x) :: S)
  | _ => none
def f_c (v : qm_v) : List qm_v → Option (List Prop × List qm_v) := fun S => some ([], v :: S)
def qm_c1 : qm_v → Bool
  | .inr (.inl _) => false
  | _ => true
def f_dup : List qm_v → Option (List Prop × List qm_v)
  | v :: S => match qm_c1 v with
    | true => some ([], v :: v :: S)
    | false => none
  | _ => none
def f_pop : List qm_v → Option (List Prop × List qm_v)
  | v :: S => match qm_c1 v with
    | true => some ([], S)
    | false => none
  | _ => none
def f_dupx1 : List qm_v → Option (List Prop × List qm_v)
  | v :: w :: S => match qm_c1 v, qm_c1 w with
    | true, true => some ([], v :: w :: v :: S)
    | _, _ => none
  | _ => none
def f_dup2 : List qm_v → Option (List Prop × List qm_v)
  | v :: w :: S => match qm_c1 v, qm_c1 w with
    | true, true => some ([], v :: w :: v :: w :: S)
    | _, _ => none
  | _ => none
theorem qm_c1_cat {v : qm_v} (h : qm_c1 v = true) : (qm_cv Λ v).category = 1 := by
  rcases v with x | ⟨x | ⟨_ | x⟩⟩
  · rfl
  · cases h
  · rfl
  · rfl
theorem os_bi {f : Int32 → Int32 → Int32} {pc nx : Nat} (h : ∀ (x y : Int32) (S : List qm_v), qm_row Λ l R cc nL own Ts pc nx (qI y :: qI x :: S) (qI (f x y) :: S)) : qm_K Λ V hold A l R cc nL own Ts ret pc nx (o_stk (f_bi f)) := by
  refine os_stk fun S cs S' hf hc => ?_
  rcases S with _ | ⟨y | y, _ | ⟨x | x, S⟩⟩ <;> cases hf
  exact ⟨fun k => qm_fa trivial (qm_fa2 (qm_fa2 k).2).2, h x y S⟩
theorem os_di {f : Int32 → Int32 → Int32} {pc nx : Nat} (h : ∀ (x y : Int32) (S : List qm_v), ¬ y = 0 → qm_row Λ l R cc nL own Ts pc nx (qI y :: qI x :: S) (qI (f x y) :: S)) : qm_K Λ V hold A l R cc nL own Ts ret pc nx (o_stk (f_di f)) := by
  refine os_stk fun S cs S' hf hc => ?_
  rcases S with _ | ⟨y | y, _ | ⟨x | x, S⟩⟩ <;> cases hf
  exact ⟨fun k => qm_fa trivial (qm_fa2 (qm_fa2 k).2).2, h x y S hc⟩
theorem os_bl {f : Int64 → Int64 → Int64} {pc nx : Nat} (h : ∀ (x y : Int64) (S : List qm_v), qm_row Λ l R cc nL own Ts pc nx (qL y :: qL x :: S) (qL (f x y) :: S)) : qm_K Λ V hold A l R cc nL own Ts ret pc nx (o_stk (f_bl f)) := by
  refine os_stk fun S cs S' hf hc => ?_
  rcases S with _ | ⟨y | y | y, _ | ⟨x | x | x, S⟩⟩ <;> cases hf
  exact ⟨fun k => qm_fa trivial (qm_fa2 (qm_fa2 k).2).2, h x y S⟩
theorem os_dl {f : Int64 → Int64 → Int64} {pc nx : Nat} (h : ∀ (x y : Int64) (S : List qm_v), ¬ y = 0 → qm_row Λ l R cc nL own Ts pc nx (qL y :: qL x :: S) (qL (f x y) :: S)) : qm_K Λ V hold A l R cc nL own Ts ret pc nx (o_stk (f_dl f)) := by
  refine os_stk fun S cs S' hf hc => ?_
  rcases S with _ | ⟨y | y | y, _ | ⟨x | x | x, S⟩⟩ <;> cases hf
  exact ⟨fun k => qm_fa trivial (qm_fa2 (qm_fa2 k).2).2, h x y S hc⟩
theorem os_sl {f : Int64 → Int32 → Int64} {pc nx : Nat} (h : ∀ (x : Int64) (y : Int32) (S : List qm_v), qm_row Λ l R cc nL own Ts pc nx (qI y :: qL x :: S) (qL (f x y) :: S)) : qm_K Λ V hold A l R cc nL own Ts ret pc nx (o_stk (f_sl f)) := by
  refine os_stk fun S cs S' hf hc => ?_
  rcases S with _ | ⟨y | y | y, _ | ⟨x | x | x, S⟩⟩ <;> cases hf
  exact ⟨fun k => qm_fa trivial (qm_fa2 (qm_fa2 k).2).2, h x y S⟩
theorem os_cmp {pc : Nat} (hd : decode cc pc = .ok (.lcmp, 1)) : qm_K Λ V hold A l R cc nL own Ts ret pc (pc + 1) (o_stk f_cmp) := by
  refine os_stk fun S cs S' hf hc => ?_
  rcases S with _ | ⟨y | y | y, _ | ⟨x | x | x, S⟩⟩ <;> cases hf
  exact ⟨fun k => qm_fa trivial (qm_fa2 (qm_fa2 k).2).2, fun p e s m args below meth c H locs Q ls C _ k => W.lcmp C.1 C.2.1 hd k⟩
theorem os_ui {f : Int32 → Int32} {pc nx : Nat} (h : ∀ (x : Int32) (S : List qm_v), qm_row Λ l R cc nL own Ts pc nx (qI x :: S) (qI (f x) :: S)) : qm_K Λ V hold A l R cc nL own Ts ret pc nx (o_stk (f_ui f)) := by
  refine os_stk fun S cs S' hf hc => ?_
  rcases S with _ | ⟨x | x, S⟩ <;> cases hf
  exact ⟨fun k => qm_fa trivial (qm_fa2 k).2, h x S⟩
theorem os_ul {f : Int64 → Int64} {pc nx : Nat} (h : ∀ (x : Int64) (S : List qm_v), qm_row Λ l R cc nL own Ts pc nx (qL x :: S) (qL (f x) :: S)) : qm_K Λ V hold A l R cc nL own Ts ret pc nx (o_stk (f_ul f)) := by
  refine os_stk fun S cs S' hf hc => ?_
  rcases S with _ | ⟨x | x | x, S⟩ <;> cases hf
  exact ⟨fun k => qm_fa trivial (qm_fa2 k).2, h x S⟩
theorem os_cil {f : Int32 → Int64} {pc nx : Nat} (h : ∀ (x : Int32) (S : List qm_v), qm_row Λ l R cc nL own Ts pc nx (qI x :: S) (qL (f x) :: S)) : qm_K Λ V hold A l R cc nL own Ts ret pc nx (o_stk (f_il f)) := by
  refine os_stk fun S cs S' hf hc => ?_
  rcases S with _ | ⟨x | x, S⟩ <;> cases hf
  exact ⟨fun k => qm_fa trivial (qm_fa2 k).2, h x S⟩
theorem os_cli {f : Int64 → Int32} {pc nx : Nat} (h : ∀ (x : Int64) (S : List qm_v), qm_row Λ l R cc nL own Ts pc nx (qL x :: S) (qI (f x) :: S)) : qm_K Λ V hold A l R cc nL own Ts ret pc nx (o_stk (f_li f)) := by
  refine os_stk fun S cs S' hf hc => ?_
  rcases S with _ | ⟨x | x | x, S⟩ <;> cases hf
  exact ⟨fun k => qm_fa trivial (qm_fa2 k).2, h x S⟩
theorem os_c {v : qm_v} {pc nx : Nat} (hv : qm_ok V v) (h : ∀ S : List qm_v, qm_row Λ l R cc nL own Ts pc nx S (v :: S)) : qm_K Λ V hold A l R cc nL own Ts ret pc nx (o_stk (f_c v)) := by
  refine os_stk fun S cs S' hf hc => ?_
  cases hf
  exact ⟨fun k => qm_fa hv k, h S⟩
theorem os_dup {pc : Nat} (hd : decode cc pc = .ok (.dup, 1)) : qm_K Λ V hold A l R cc nL own Ts ret pc (pc + 1) (o_stk f_dup) := by
  refine os_stk fun S cs S' hf hc => ?_
  rcases S with _ | ⟨v, S⟩
  · cases hf
  · unfold f_dup at hf
    dsimp only at hf
    cases hv : qm_c1 v <;> rw [hv] at hf <;> cases hf
    exact ⟨fun k => qm_fa (qm_fa2 k).1 k, fun p e s m args below meth c H locs Q ls C _ k => lv_dup C.1 C.2.1 hd (qm_c1_cat hv) k⟩
theorem os_pop {pc : Nat} (hd : decode cc pc = .ok (.pop, 1)) : qm_K Λ V hold A l R cc nL own Ts ret pc (pc + 1) (o_stk f_pop) := by
  refine os_stk fun S cs S' hf hc => ?_
  rcases S with _ | ⟨v, S⟩
  · cases hf
  · unfold f_pop at hf
    dsimp only at hf
    cases hv : qm_c1 v <;> rw [hv] at hf <;> cases hf
    exact ⟨fun k => (qm_fa2 k).2, fun p e s m args below meth c H locs Q ls C _ k => lv_pop C.1 C.2.1 hd (qm_c1_cat hv) k⟩
theorem os_dupx1 {pc : Nat} (hd : decode cc pc = .ok (.dup_x1, 1)) : qm_K Λ V hold A l R cc nL own Ts ret pc (pc + 1) (o_stk f_dupx1) := by
  refine os_stk fun S cs S' hf hc => ?_
  rcases S with _ | ⟨v, _ | ⟨w, S⟩⟩
  · cases hf
  · cases hf
  · unfold f_dupx1 at hf
    dsimp only at hf
    cases hv : qm_c1 v <;> cases hw : qm_c1 w <;> rw [hv, hw] at hf <;> cases hf
    exact ⟨fun k => qm_fa (qm_fa2 k).1 (qm_fa (qm_fa2 (qm_fa2 k).2).1 (qm_fa (qm_fa2 k).1 (qm_fa2 (qm_fa2 k).2).2)), fun p e s m args below meth c H locs Q ls C _ k => lv_dup_x1 C.1 C.2.1 hd (qm_c1_cat hv) (qm_c1_cat hw) k⟩
theorem os_dup2 {pc : Nat} (hd : decode cc pc = .ok (.dup2, 1)) : qm_K Λ V hold A l R cc nL own Ts ret pc (pc + 1) (o_stk f_dup2) := by
  refine os_stk fun S cs S' hf hc => ?_
  rcases S with _ | ⟨v, _ | ⟨w, S⟩⟩
  · cases hf
  · cases hf
  · unfold f_dup2 at hf
    dsimp only at hf
    cases hv : qm_c1 v <;> cases hw : qm_c1 w <;> rw [hv, hw] at hf <;> cases hf
    exact ⟨fun k => qm_fa (qm_fa2 k).1 (qm_fa (qm_fa2 (qm_fa2 k).2).1 k), fun p e s m args below meth c H locs Q ls C _ k => lv_dup2_11 C.1 C.2.1 hd (qm_c1_cat hv) (qm_c1_cat hw) k⟩
-- loads and stores
def o_il (k : Nat) : qm_op G := fun o t => match qm_nth t.1 k with
  | some (.inl x) => ([], none, (t.1, .inl x :: t.2.1, t.2.2), o)
  | _ => ([False], none, t, o)
def o_ll (k : Nat) : qm_op G := fun o t => match qm_nth t.1 k with
  | some (.inr (.inl x)) => ([], none, (t.1, .inr (.inl x) :: t.2.1, t.2.2), o)
  | _ => ([False], none, t, o)
def o_al (k : Nat) : qm_op G := fun o t => match qm_nth t.1 k with
  | some (.inr (.inr x)) => ([], none, (t.1, .inr (.inr x) :: t.2.1, t.2.2), o)
  | _ => ([False], none, t, o)
theorem os_il' {pc nx k : Nat} (h : ∀ (p : Program) (e : Env) (s : State) (m : MethodId) (args : Array Value) (below : List Frame) (meth : Method) (c : Code) (H : Heap) (locs : List Loc) (Q : State → Prop) (ls : Array Slot) (x : Int32) (rest : List Value), CallFix p m c cc nL s args Ts own → ls[k]? = some (.val (.int x)) → W p l e R s m args below meth c H locs 0 0 Q (F0 m nx ls (.int x :: rest)) → W p l e R s m args below meth c H locs 0 0 Q (F0 m pc ls rest)) : qm_K Λ V hold A l R cc nL own Ts ret pc nx (o_il k) := by
  intro Fq p e s m args below meth c Q C o t hc hn H locs ls hA
  unfold o_il at hc hn
  obtain ⟨a1, a2, a3, a4, a5⟩ := hA
  rcases hf : qm_nth t.1 k with _ | x | x <;> rw [hf] at hc hn
  · exact hc.elim
  · exact h p e s m args below meth c H locs Q ls x _ C.1 (a4.at hf) (hn H locs ls ⟨a1, a2, qm_fa trivial a3, a4, a5⟩)
  · exact hc.elim
theorem os_ll' {pc nx k : Nat} (h : ∀ (p : Program) (e : Env) (s : State) (m : MethodId) (args : Array Value) (below : List Frame) (meth : Method) (c : Code) (H : Heap) (locs : List Loc) (Q : State → Prop) (ls : Array Slot) (x : Int64) (rest : List Value), CallFix p m c cc nL s args Ts own → ls[k]? = some (.val (.long x)) → W p l e R s m args below meth c H locs 0 0 Q (F0 m nx ls (.long x :: rest)) → W p l e R s m args below meth c H locs 0 0 Q (F0 m pc ls rest)) : qm_K Λ V hold A l R cc nL own Ts ret pc nx (o_ll k) := by
  intro Fq p e s m args below meth c Q C o t hc hn H locs ls hA
  unfold o_ll at hc hn
  obtain ⟨a1, a2, a3, a4, a5⟩ := hA
  rcases hf : qm_nth t.1 k with _ | x | x | x <;> rw [hf] at hc hn
  · exact hc.elim
  · exact hc.elim
  · exact h p e s m args below meth c H locs Q ls x _ C.1 (a4.at hf) (hn H locs ls ⟨a1, a2, qm_fa trivial a3, a4, a5⟩)
  · exact hc.elim
theorem os_al' {pc nx k : Nat} (h : ∀ (p : Program) (e : Env) (s : State) (m : MethodId) (args : Array Value) (below : List Frame) (meth : Method) (c : Code) (H : Heap) (locs : List Loc) (Q : State → Prop) (ls : Array Slot) (x : Option (Nat × Nat)) (rest : List Value), CallFix p m c cc nL s args Ts own → ls[k]? = some (.val (qm_cv Λ (.inr (.inr x)))) → W p l e R s m args below meth c H locs 0 0 Q (F0 m nx ls (qm_cv Λ (.inr (.inr x)) :: rest)) → W p l e R s m args below meth c H locs 0 0 Q (F0 m pc ls rest)) : qm_K Λ V hold A l R cc nL own Ts ret pc nx (o_al k) := by
  intro Fq p e s m args below meth c Q C o t hc hn H locs ls hA
  unfold o_al at hc hn
  obtain ⟨a1, a2, a3, a4, a5⟩ := hA
  rcases hf : qm_nth t.1 k with _ | x | x | x <;> rw [hf] at hc hn
  · exact hc.elim
  · exact hc.elim
  · exact hc.elim
  · exact h p e s m args below meth c H locs Q ls x _ C.1 (a4.at hf) (hn H locs ls ⟨a1, a2, qm_fa (a2 k _ hf) a3, a4, a5⟩)
theorem os_il_n {pc k : Nat} {j : Fin 4} (hd : decode cc pc = .ok (.iload_n j, 1)) (hj : (j : Nat) = k) : qm_K Λ V hold A l R cc nL own Ts ret pc (pc + 1) (o_il k) := os_il' fun p e s m args below meth c H locs Q ls x rest C hl k => lv_iload_n C.1 C.2.1 hd hj hl k
theorem os_il {pc k : Nat} (hd : decode cc pc = .ok (.iload k, 2)) : qm_K Λ V hold A l R cc nL own Ts ret pc (pc + 2) (o_il k) := os_il' fun p e s m args below meth c H locs Q ls x rest C hl k => lv_iload C.1 C.2.1 hd hl k
theorem os_ll_n {pc k : Nat} {j : Fin 4} (hd : decode cc pc = .ok (.lload_n j, 1)) (hj : (j : Nat) = k) : qm_K Λ V hold A l R cc nL own Ts ret pc (pc + 1) (o_ll k) := os_ll' fun p e s m args below meth c H locs Q ls x rest C hl k => lv_lload_n C.1 C.2.1 hd hj hl k
theorem os_ll {pc k : Nat} (hd : decode cc pc = .ok (.lload k, 2)) : qm_K Λ V hold A l R cc nL own Ts ret pc (pc + 2) (o_ll k) := os_ll' fun p e s m args below meth c H locs Q ls x rest C hl k => lv_lload C.1 C.2.1 hd hl k
theorem os_al_n {pc k : Nat} {j : Fin 4} (hd : decode cc pc = .ok (.aload_n j, 1)) (hj : (j : Nat) = k) : qm_K Λ V hold A l R cc nL own Ts ret pc (pc + 1) (o_al k) := os_al' fun p e s m args below meth c H locs Q ls x rest C hl k => by
  rcases x with _ | x
  · exact lv_aload_nN C.1 C.2.1 hd hj hl k
  · exact lv_aload_n C.1 C.2.1 hd hj hl k
theorem os_al {pc k : Nat} (hd : decode cc pc = .ok (.aload k, 2)) : qm_K Λ V hold A l R cc nL own Ts ret pc (pc + 2) (o_al k) := os_al' fun p e s m args below meth c H locs Q ls x rest C hl k => by
  rcases x with _ | x
  · exact lv_aloadN C.1 C.2.1 hd hl k
  · exact lv_aload C.1 C.2.1 hd hl k
def o_is (k : Nat) : qm_op G := fun o t => match t.2.1 with
  | .inl x :: S => ([], none, (qm_st1 t.1 k (.inl x), S, t.2.2), o)
  | _ => ([False], none, t, o)
def o_ls (k : Nat) : qm_op G := fun o t => match t.2.1 with
  | .inr (.inl x) :: S => ([], none, (qm_st2 t.1 k (.inr (.inl x)), S, t.2.2), o)
  | _ => ([False], none, t, o)
def o_as (k : Nat) : qm_op G := fun o t => match t.2.1 with
  | .inr (.inr x) :: S => ([], none, (qm_st1 t.1 k (.inr (.inr x)), S, t.2.2), o)
  | _ => ([False], none, t, o)
theorem qm_st1_ok {L : List (Option qm_v)} {k : Nat} {v : qm_v} (h : ∀ k v, qm_nth L k = some v → qm_ok V v) (hv : qm_ok V v) : ∀ i u, qm_nth (qm_st1 L k v) i = some u → qm_ok V u := fun i u hu => by
  rcases qm_st1_nth hu with ⟨-, rfl⟩ | ⟨-, h2, -⟩
  · exact hv
  · exact h i u h2
theorem qm_st2_ok {L : List (Option qm_v)} {k : Nat} {v : qm_v} (h : ∀ k v, qm_nth L k = some v → qm_ok V v) (hv : qm_ok V v) : ∀ i u, qm_nth (qm_st2 L k v) i = some u → qm_ok V u := fun i u hu => by
  rcases qm_st2_nth hu with ⟨-, rfl⟩ | ⟨-, -, h2, -⟩
  · exact hv
  · exact h i u h2
theorem os_is_n {pc k : Nat} {j : Fin 4} (hd : decode cc pc = .ok (.istore_n j, 1)) (hj : (j : Nat) = k) (hk : k < nL) : qm_K Λ V hold A l R cc nL own Ts ret pc (pc + 1) (o_is k) := by
  intro Fq p e s m args below meth c Q C o t hc hn H locs ls hA
  obtain ⟨L, S, g⟩ := t
  rcases S with _ | ⟨x | x, S⟩
  · exact hc.elim
  · obtain ⟨a1, a2, a3, a4, a5⟩ := hA
    exact lv_istore_n C.1.1 C.1.2.1 hd hj a4.1 hk rfl fun ls' hl' => hn H locs ls' ⟨a1, qm_st1_ok a2 trivial, (qm_fa2 a3).2, a4.st1 (v := .inl x) hl', a5⟩
  · exact hc.elim
theorem os_is {pc k : Nat} (hd : decode cc pc = .ok (.istore k, 2)) (hk : k < nL) : qm_K Λ V hold A l R cc nL own Ts ret pc (pc + 2) (o_is k) := by
  intro Fq p e s m args below meth c Q C o t hc hn H locs ls hA
  obtain ⟨L, S, g⟩ := t
  rcases S with _ | ⟨x | x, S⟩
  · exact hc.elim
  · obtain ⟨a1, a2, a3, a4, a5⟩ := hA
    exact lv_istore C.1.1 C.1.2.1 hd a4.1 hk rfl fun ls' hl' => hn H locs ls' ⟨a1, qm_st1_ok a2 trivial, (qm_fa2 a3).2, a4.st1 (v := .inl x) hl', a5⟩
  · exact hc.elim
theorem os_ls_n {pc k : Nat} {j : Fin 4} (hd : decode cc pc = .ok (.lstore_n j, 1)) (hj : (j : Nat) = k) (hk : k + 1 < nL) : qm_K Λ V hold A l R cc nL own Ts ret pc (pc + 1) (o_ls k) := by
  intro Fq p e s m args below meth c Q C o t hc hn H locs ls hA
  obtain ⟨L, S, g⟩ := t
  rcases S with _ | ⟨x | x | x, S⟩
  · exact hc.elim
  · exact hc.elim
  · obtain ⟨a1, a2, a3, a4, a5⟩ := hA
    exact lv_lstore_n C.1.1 C.1.2.1 hd hj a4.1 hk rfl fun ls' hl' => hn H locs ls' ⟨a1, qm_st2_ok a2 trivial, (qm_fa2 a3).2, a4.st2 (v := .inr (.inl x)) hk hl', a5⟩
  · exact hc.elim
theorem os_ls {pc k : Nat} (hd : decode cc pc = .ok (.lstore k, 2)) (hk : k + 1 < nL) : qm_K Λ V hold A l R cc nL own Ts ret pc (pc + 2) (o_ls k) := by
  intro Fq p e s m args below meth c Q C o t hc hn H locs ls hA
  obtain ⟨L, S, g⟩ := t
  rcases S with _ | ⟨x | x | x, S⟩
  · exact hc.elim
  · exact hc.elim
  · obtain ⟨a1, a2, a3, a4, a5⟩ := hA
    exact lv_lstore C.1.1 C.1.2.1 hd a4.1 hk rfl fun ls' hl' => hn H locs ls' ⟨a1, qm_st2_ok a2 trivial, (qm_fa2 a3).2, a4.st2 (v := .inr (.inl x)) hk hl', a5⟩
  · exact hc.elim
theorem os_as_n {pc k : Nat} {j : Fin 4} (hd : decode cc pc = .ok (.astore_n j, 1)) (hj : (j : Nat) = k) (hk : k < nL) : qm_K Λ V hold A l R cc nL own Ts ret pc (pc + 1) (o_as k) := by
  intro Fq p e s m args below meth c Q C o t hc hn H locs ls hA
  obtain ⟨L, S, g⟩ := t
  rcases S with _ | ⟨x | x | x, S⟩
  · exact hc.elim
  · exact hc.elim
  · exact hc.elim
  · obtain ⟨a1, a2, a3, a4, a5⟩ := hA
    rcases x with _ | x
    · exact lv_astore_nN C.1.1 C.1.2.1 hd hj a4.1 hk rfl fun ls' hl' => hn H locs ls' ⟨a1, qm_st1_ok a2 trivial, (qm_fa2 a3).2, a4.st1 (v := .inr (.inr none)) hl', a5⟩
    · exact lv_astore_n C.1.1 C.1.2.1 hd hj a4.1 hk rfl fun ls' hl' => hn H locs ls' ⟨a1, qm_st1_ok a2 (qm_fa2 a3).1, (qm_fa2 a3).2, a4.st1 (v := .inr (.inr (some x))) hl', a5⟩
theorem os_as {pc k : Nat} (hd : decode cc pc = .ok (.astore k, 2)) (hk : k < nL) : qm_K Λ V hold A l R cc nL own Ts ret pc (pc + 2) (o_as k) := by
  intro Fq p e s m args below meth c Q C o t hc hn H locs ls hA
  obtain ⟨L, S, g⟩ := t
  rcases S with _ | ⟨x | x | x, S⟩
  · exact hc.elim
  · exact hc.elim
  · exact hc.elim
  · obtain ⟨a1, a2, a3, a4, a5⟩ := hA
    rcases x with _ | x
    · exact lv_astoreN C.1.1 C.1.2.1 hd a4.1 hk rfl fun ls' hl' => hn H locs ls' ⟨a1, qm_st1_ok a2 trivial, (qm_fa2 a3).2, a4.st1 (v := .inr (.inr none)) hl', a5⟩
    · exact lv_astore C.1.1 C.1.2.1 hd a4.1 hk rfl fun ls' hl' => hn H locs ls' ⟨a1, qm_st1_ok a2 (qm_fa2 a3).1, (qm_fa2 a3).2, a4.st1 (v := .inr (.inr (some x))) hl', a5⟩
def o_inc (k : Nat) (d : Int32) : qm_op G := fun o t => match qm_nth t.1 k with
  | some (.inl x) => ([], none, (qm_st1 t.1 k (.inl (x + d)), t.2.1, t.2.2), o)
  | _ => ([False], none, t, o)
theorem os_inc {pc k : Nat} {n : Int} {d : Int32} (hd : decode cc pc = .ok (.iinc k n, 3)) (hv : Int32.ofInt n = d) (hk : k < nL) : qm_K Λ V hold A l R cc nL own Ts ret pc (pc + 3) (o_inc k d) := by
  intro Fq p e s m args below meth c Q C o t hc hn H locs ls hA
  unfold o_inc at hc hn
  obtain ⟨a1, a2, a3, a4, a5⟩ := hA
  rcases hf : qm_nth t.1 k with _ | x | x <;> rw [hf] at hc hn
  · exact hc.elim
  · have hm := qm_ll_mem (Λ := Λ) (i := 0) hf
    rw [Nat.zero_add] at hm
    obtain ⟨k0, hk0⟩ := List.getElem?_of_mem hm
    exact lv_iinc (v := x + d) C.1.1 C.1.2.1 hd a4.1 hk0 (by rw [hv]) hk rfl fun ls' hl' => hn H locs ls' ⟨a1, qm_st1_ok a2 trivial, a3, a4.st1 (v := .inl (x + d)) hl', a5⟩
  · exact hc.elim
-- branches
def o_br (T : List qm_v → Option (Prop × Prop × List qm_v)) (tg : Nat) : qm_op G := fun o t => match o.1 with
  | 0 :: ds => match T t.2.1 with
    | some (_, cf, S) => ([cf], none, (t.1, S, t.2.2), (ds, o.2))
    | none => ([False], none, t, o)
  | (_ + 1) :: ds => match T t.2.1 with
    | some (ct, _, S) => ([ct], some (some tg), (t.1, S, t.2.2), (ds, o.2))
    | none => ([False], none, t, o)
  | [] => ([False], none, t, o)
theorem os_br {T : List qm_v → Option (Prop × Prop × List qm_v)} {tg pc nx : Nat} (hT : ∀ (S : List qm_v) (ct cf : Prop) (S' : List qm_v), T S = some (ct, cf, S') → ((∀ v ∈ S, qm_ok V v) → ∀ v ∈ S', qm_ok V v) ∧ (ct → qm_row Λ l R cc nL own Ts pc tg S S') ∧ (cf → qm_row Λ l R cc nL own Ts pc nx S S')) : qm_K Λ V hold A l R cc nL own Ts ret pc nx (o_br T tg) := by
  intro Fq p e s m args below meth c Q C o t hc hn H locs ls hA
  obtain ⟨d, o2⟩ := o
  obtain ⟨L, S, g⟩ := t
  obtain ⟨a1, a2, a3, a4, a5⟩ := hA
  rcases d with _ | ⟨_ | d, ds⟩
  · exact hc.elim
  · unfold o_br at hc hn
    dsimp only at hc hn
    rcases hf : T S with _ | ⟨ct, cf, S'⟩ <;> rw [hf] at hc hn
    · exact hc.elim
    · obtain ⟨h1, -, h3⟩ := hT _ _ _ _ hf
      exact h3 hc p e s m args below meth c H locs Q ls C.1 a4.1.1 (hn H locs ls ⟨a1, a2, h1 a3, a4, a5⟩)
  · unfold o_br at hc hn
    dsimp only at hc hn
    rcases hf : T S with _ | ⟨ct, cf, S'⟩ <;> rw [hf] at hc hn
    · exact hc.elim
    · obtain ⟨h1, h2, -⟩ := hT _ _ _ _ hf
      exact h2 hc p e s m args below meth c H locs Q ls C.1 a4.1.1 (hn H locs ls ⟨a1, a2, h1 a3, a4, a5⟩)
/-- two ints compared; an int with 0 -/
def t_ii (f g : Int32 → Int32 → Prop) : List qm_v → Option (Prop × Prop × List qm_v)
  | .inl y :: .inl x :: S => some (f x y, g x y, S)
  | _ => none
def t_i (f g : Int32 → Prop) : List qm_v → Option (Prop × Prop × List qm_v)
  | .inl x :: S => some (f x, g x, S)
  | _ => none
def t_nul : List qm_v → Option (Prop × Prop × List qm_v)
  | .inr (.inr none) :: S => some (True, False, S)
  | .inr (.inr (some _)) :: S => some (False, True, S)
  | _ => none
def t_nnul : List qm_v → Option (Prop × Prop × List qm_v)
  | .inr (.inr none) :: S => some (False, True, S)
  | .inr (.inr (some _)) :: S => some (True, False, S)
  | _ => none
theorem os_ii {f g : Int32 → Int32 → Prop} {tg pc nx : Nat} (h1 : ∀ (x y : Int32) (S : List qm_v), f x y → qm_row Λ l R cc nL own Ts pc tg (qI y :: qI x :: S) S) (h2 : ∀ (x y : Int32) (S : List qm_v), g x y → qm_row Λ l R cc nL own Ts pc nx (qI y :: qI x :: S) S) : qm_K Λ V hold A l R cc nL own Ts ret pc nx (o_br (t_ii f g) tg) := by
  refine os_br fun S ct cf S' hf => ?_
  rcases S with _ | ⟨y | y, _ | ⟨x | x, S⟩⟩ <;> cases hf
  exact ⟨fun k => (qm_fa2 (qm_fa2 k).2).2, h1 x y _, h2 x y _⟩
theorem os_i {f g : Int32 → Prop} {tg pc nx : Nat} (h1 : ∀ (x : Int32) (S : List qm_v), f x → qm_row Λ l R cc nL own Ts pc tg (qI x :: S) S) (h2 : ∀ (x : Int32) (S : List qm_v), g x → qm_row Λ l R cc nL own Ts pc nx (qI x :: S) S) : qm_K Λ V hold A l R cc nL own Ts ret pc nx (o_br (t_i f g) tg) := by
  refine os_br fun S ct cf S' hf => ?_
  rcases S with _ | ⟨x | x, S⟩ <;> cases hf
  exact ⟨fun k => (qm_fa2 k).2, h1 x _, h2 x _⟩
theorem os_null {tg pc : Nat} {off : Int} (hd : decode cc pc = .ok (.ifnull off, 3)) (ht : (pc : Int) + off = (tg : Int)) : qm_K Λ V hold A l R cc nL own Ts ret pc (pc + 3) (o_br t_nul tg) := by
  refine os_br fun S ct cf S' hf => ?_
  rcases S with _ | ⟨x | x | _ | x, S⟩ <;> cases hf
  · exact ⟨fun k => (qm_fa2 k).2, fun _ p e s m args below meth c H locs Q ls C _ k => lv_ifnullN C.1 C.2.1 hd ht k, fun h => h.elim⟩
  · exact ⟨fun k => (qm_fa2 k).2, fun h => h.elim, fun _ p e s m args below meth c H locs Q ls C _ k => lv_ifnull C.1 C.2.1 hd k⟩
theorem os_nonnull {tg pc : Nat} {off : Int} (hd : decode cc pc = .ok (.ifnonnull off, 3)) (ht : (pc : Int) + off = (tg : Int)) : qm_K Λ V hold A l R cc nL own Ts ret pc (pc + 3) (o_br t_nnul tg) := by
  refine os_br fun S ct cf S' hf => ?_
  rcases S with _ | ⟨x | x | _ | x, S⟩ <;> cases hf
  · exact ⟨fun k => (qm_fa2 k).2, fun h => h.elim, fun _ p e s m args below meth c H locs Q ls C _ k => lv_ifnonnullN C.1 C.2.1 hd k⟩
  · exact ⟨fun k => (qm_fa2 k).2, fun _ p e s m args below meth c H locs Q ls C _ k => lv_ifnonnull C.1 C.2.1 hd ht k, fun h => h.elim⟩
def o_go (tg : Nat) : qm_op G := fun o t => ([], some (some tg), t, o)
theorem os_go {tg pc nx : Nat} {off : Int} (hd : decode cc pc = .ok (.goto off, 3)) (ht : (pc : Int) + off = (tg : Int)) : qm_K Λ V hold A l R cc nL own Ts ret pc nx (o_go tg) := by
  intro Fq p e s m args below meth c Q C o t hc hn H locs ls hA
  exact lv_goto C.1.1 C.1.2.1 hd ht (hn H locs ls hA)
/-- a switch: the oracle says which case, 0 the default -/
def o_sw (cs : List (Int32 × Nat)) (df : Nat) : qm_op G := fun o t => match t.2.1 with
  | .inl x :: S => match o.1 with
    | 0 :: ds => ([∀ q ∈ cs, ¬ x = q.1], some (some df), (t.1, S, t.2.2), (ds, o.2))
    | (n + 1) :: ds => match cs[n]? with
      | some q => ([x = q.1], some (some q.2), (t.1, S, t.2.2), (ds, o.2))
      | none => ([False], none, t, o)
    | [] => ([False], none, t, o)
  | _ => ([False], none, t, o)
theorem os_sw {cs : List (Int32 × Nat)} {df pc nx : Nat} (h1 : ∀ (x : Int32) (S : List qm_v), (∀ q ∈ cs, ¬ x = q.1) → qm_row Λ l R cc nL own Ts pc df (qI x :: S) S) (h2 : ∀ q ∈ cs, ∀ S : List qm_v, qm_row Λ l R cc nL own Ts pc q.2 (qI q.1 :: S) S) : qm_K Λ V hold A l R cc nL own Ts ret pc nx (o_sw cs df) := by
  intro Fq p e s m args below meth c Q C o t hc hn H locs ls hA
  obtain ⟨d, o2⟩ := o
  obtain ⟨L, S, g⟩ := t
  obtain ⟨a1, a2, a3, a4, a5⟩ := hA
  rcases S with _ | ⟨x | x, S⟩
  · exact hc.elim
  · rcases d with _ | ⟨_ | d, ds⟩
    · exact hc.elim
    · exact h1 x S hc p e s m args below meth c H locs Q ls C.1 a4.1.1 (hn H locs ls ⟨a1, a2, (qm_fa2 a3).2, a4, a5⟩)
    · unfold o_sw at hc hn
      dsimp only at hc hn
      rcases hf : cs[d]? with _ | q <;> rw [hf] at hc hn
      · exact hc.elim
      · have hq : x = q.1 := hc
        subst hq
        exact h2 q (List.mem_of_getElem? hf) S p e s m args below meth c H locs Q ls C.1 a4.1.1 (hn H locs ls ⟨a1, a2, (qm_fa2 a3).2, a4, a5⟩)
  · exact hc.elim
/-- a tableswitch by its table: lo, the offsets; cs names the places that aren't the default's -/
theorem os_table {cs : List (Int32 × Nat)} {df pc nx len : Nat} {dflt lo hi : Int} {offs : Array Int} (hd : decode cc pc = .ok (.tableswitch dflt lo hi offs, len)) (hdf : (pc : Int) + dflt = (df : Int)) (hlo : -2147483648 ≤ lo ∧ hi ≤ 2147483647 ∧ (offs.size : Int) = hi - lo + 1)
    (hcs : (cs.all fun q => decide (lo ≤ q.1.toInt) && decide (q.1.toInt ≤ hi) && match offs[(q.1.toInt - lo).toNat]? with | some off => decide ((pc : Int) + off = (q.2 : Int)) | none => false) = true)
    (hall : ((List.range offs.size).all fun n => (cs.any fun q => decide (q.1.toInt = lo + n)) || (match offs[n]? with | some off => decide (off = dflt) | none => false)) = true) : qm_K Λ V hold A l R cc nL own Ts ret pc nx (o_sw cs df) := by
  refine os_sw (fun x S hx p e s m args below meth c H locs Q ls C _ k => ?_) (fun q hq S p e s m args below meth c H locs Q ls C _ k => ?_)
  · by_cases h1 : x.toInt < lo
    · exact lv_tableOut C.1 C.2.1 hd (Or.inl h1) hdf k
    · by_cases h2 : hi < x.toInt
      · exact lv_tableOut C.1 C.2.1 hd (Or.inr h2) hdf k
      · have hn : (x.toInt - lo).toNat < offs.size := by omega
        have h3 := List.all_eq_true.mp hall _ (List.mem_range.mpr hn)
        rw [Bool.or_eq_true] at h3
        rcases h3 with h3 | h3
        · obtain ⟨q, hq, hqe⟩ := List.any_eq_true.mp h3
          have hqe := of_decide_eq_true hqe
          exact absurd (Int32.toInt_inj.mp (show x.toInt = q.1.toInt by rw [hqe]; omega)) (hx q hq)
        · rcases ho : offs[(x.toInt - lo).toNat]? with _ | off <;> rw [ho] at h3
          · cases h3
          · have := of_decide_eq_true h3
            subst this
            exact lv_tableIn C.1 C.2.1 hd h1 h2 ho hdf k
  · have h3 := List.all_eq_true.mp hcs q hq
    rw [Bool.and_eq_true, Bool.and_eq_true] at h3
    obtain ⟨⟨h4, h5⟩, h6⟩ := h3
    have h4 := of_decide_eq_true h4
    have h5 := of_decide_eq_true h5
    rcases ho : offs[(q.1.toInt - lo).toNat]? with _ | off <;> rw [ho] at h6
    · cases h6
    · exact lv_tableIn C.1 C.2.1 hd (by omega) (by omega) ho (of_decide_eq_true h6) k
theorem qm_lk_out : ∀ {ps : List (Int × Int)} {d x : Int}, (∀ q ∈ ps, ¬ q.1 = x) → Op.lookupswitch.offset ps d x = d
  | [], d, x, _ => rfl
  | (a, o) :: r, d, x, h => by
    rw [Op.lookupswitch.offset_cons, if_neg (h (a, o) List.mem_cons_self)]
    exact qm_lk_out fun q hq => h q (List.mem_cons_of_mem _ hq)
/-- a lookupswitch by its pairs -/
theorem os_look {cs : List (Int32 × Nat)} {df pc nx len : Nat} {dflt : Int} {ps : Array (Int × Int)} (hd : decode cc pc = .ok (.lookupswitch dflt ps, len)) (hp : (ps.toList.zip (ps.toList.drop 1)).all (fun (a, next) => a.1 < next.1) = true) (hdf : (pc : Int) + dflt = (df : Int))
    (hcs : (cs.all fun q => decide ((pc : Int) + Op.lookupswitch.offset ps.toList dflt q.1.toInt = (q.2 : Int))) = true)
    (hall : (ps.toList.all fun z => cs.any fun q => decide (q.1.toInt = z.1)) = true) : qm_K Λ V hold A l R cc nL own Ts ret pc nx (o_sw cs df) := by
  refine os_sw (fun x S hx p e s m args below meth c H locs Q ls C _ k => ?_) (fun q hq S p e s m args below meth c H locs Q ls C _ k => ?_)
  · refine lv_lookup C.1 C.2.1 hd hp (qm_lk_out fun z hz he => ?_) hdf k
    obtain ⟨q, hq, hqe⟩ := List.any_eq_true.mp (List.all_eq_true.mp hall z hz)
    have hqe := of_decide_eq_true hqe
    exact hx q hq (Int32.toInt_inj.mp (by rw [hqe, he]))
  · exact lv_lookup C.1 C.2.1 hd hp rfl (of_decide_eq_true (List.all_eq_true.mp hcs q hq)) k
end QMO
end
section
/-- the heap holds a system's state g: every place that there is holds its cell; 'ex' is what is held beside (statics, texts) -/
def qm_hold {G : Type} (D : va_G) (cl : List vw_C) (tys : List (ClassId × FieldType)) (Λ : Nat → Nat → Nat) (V : Nat → Nat → Prop) (ce : G → Nat → Nat → va_E) (okg : G → Prop) (ex : State → Heap → Prop) : State → G → Heap → Prop := fun s g H =>
  va_K D cl tys s ∧ (∀ k i, V k i → va_at D cl (Λ k i, ce g k i) H) ∧ okg g ∧ ex s H
section QMH
variable {G : Type} {D : va_G} {cl : List vw_C} {tys : List (ClassId × FieldType)} {Λ : Nat → Nat → Nat} {V : Nat → Nat → Prop} {ce : G → Nat → Nat → va_E} {okg : G → Prop} {ex : State → Heap → Prop} {A : Nat → Prop} {l : Launch} {R : Room} {cc : ByteArray} {nL : Nat} {own : String} {Ts : List Cond} {ret : Option FieldType}
/-- places are apart, and lie in A; what is beside stays when A alone changes, and when tables move -/
def qm_sys (Λ : Nat → Nat → Nat) (V : Nat → Nat → Prop) (ex : State → Heap → Prop) (A : Nat → Prop) : Prop :=
  (∀ k i k' i', V k i → V k' i' → Λ k i = Λ k' i' → k = k' ∧ i = i') ∧ (∀ k i, V k i → A (Λ k i)) ∧ (∀ (s : State) (H H1 : Heap), ex s H → (∀ q : Nat, q < H.size → ¬ A q → H1[q]? = H[q]?) → ex s H1) ∧ ∀ (s t : State) (H : Heap), s.vm.Alike t.vm → ex s H → ex t H
theorem qm_hold.moved (hsys : qm_sys Λ V ex A) {s t : State} {g : G} {H : Heap} (hv : s.vm.Alike t.vm) (h : qm_hold D cl tys Λ V ce okg ex s g H) : qm_hold D cl tys Λ V ce okg ex t g H := ⟨va_K.moved hv h.1, h.2.1, h.2.2.1, hsys.2.2.2 s t H hv h.2.2.2⟩
theorem qm_one {D : va_G} {cl : List vw_C} {a : Nat} {e : va_E} {H : Heap} (h : va_at D cl (a, e) H) : va_P D cl [(a, e)] H := by
  intro k q hk
  have hz : k < 1 := (List.getElem?_eq_some_iff.mp hk).1
  rw [show k = 0 by omega] at hk
  cases hk
  exact h
/-- a cell is written: the heap holds the new state -/
theorem qm_hold.set (hsys : qm_sys Λ V ex A) {s : State} {g g' : G} {H H1 : Heap} {kd i : Nat} (h : qm_hold D cl tys Λ V ce okg ex s g H) (hV : V kd i) (hg : okg g') (hat : va_at D cl (Λ kd i, ce g' kd i) H1) (hz : H1.size = H.size) (oq : ∀ q : Nat, q ≠ Λ kd i → H1[q]? = H[q]?) (ho : ∀ k j, V k j → (k ≠ kd ∨ j ≠ i) → ce g' k j = ce g k j) : qm_hold D cl tys Λ V ce okg ex s g' H1 := by
  refine ⟨h.1, fun k j hkj => ?_, hg, hsys.2.2.1 s H H1 h.2.2.2 (fun q _ hq => oq q (fun e => hq (e ▸ hsys.2.1 kd i hV)))⟩
  by_cases he : k = kd ∧ j = i
  · obtain ⟨rfl, rfl⟩ := he
    exact hat
  · have hne : k ≠ kd ∨ j ≠ i := by
      by_cases hk : k = kd
      · exact Or.inr fun hj => he ⟨hk, hj⟩
      · exact Or.inl hk
    rw [ho k j hkj hne]
    exact (h.2.1 k j hkj).kept (oq _ (fun e => he (hsys.1 k j kd i hkj hV e)))
def o_get (kd : Nat) (fd : G → Nat → qm_v) : qm_op G := fun o t => match t.2.1 with
  | .inr (.inr (some (k, i))) :: S => match Nat.beq k kd with
    | true => ([], none, (t.1, fd t.2.2 i :: S, t.2.2), o)
    | false => ([False], none, t, o)
  | _ => ([False], none, t, o)
theorem os_get {kd f ci N pc idx : Nat} {C : String} {T : u_T} {fd : G → Nat → qm_v} (hd : decode cc pc = .ok (.getfield idx, 3)) (hc : cl[ci]? = some (C, T, N)) (hin : ∀ w ∈ u_ws C T N, w ∈ Ts) (hf : f < N) (hlk : Cond.fieldLink own idx (T f).1 (T f).2.1 (T f).2.2.1 ∈ Ts)
    (hce : ∀ (g : G) (i : Nat), V kd i → okg g → ∃ fs, ce g kd i = .inr (ci, fs) ∧ fs[f]? = some (qm_cv Λ (fd g i)) ∧ qm_ok V (fd g i)) : qm_K Λ V (qm_hold D cl tys Λ V ce okg ex) A l R cc nL own Ts ret pc (pc + 3) (o_get kd fd) := by
  intro Fq p e s m args below meth c Q C0 o t hc1 hn H locs ls hA
  obtain ⟨L, S, g⟩ := t
  obtain ⟨a1, a2, a3, a4, a5⟩ := hA
  rcases S with _ | ⟨x | x | _ | ⟨k, i⟩, S⟩
  · exact hc1.elim
  · exact hc1.elim
  · exact hc1.elim
  · exact hc1.elim
  · unfold o_get at hc1 hn
    dsimp only at hc1 hn
    cases hb : Nat.beq k kd <;> rw [hb] at hc1 hn
    · exact hc1.elim
    · have hk := Nat.eq_of_beq_eq_true hb
      subst hk
      obtain ⟨b1, b2⟩ := qm_fa2 a3
      obtain ⟨fs, e1, e2, e3⟩ := hce g i b1 a1.2.2.1
      have hat := a1.2.1 k i b1
      rw [e1] at hat
      exact va_get C0.1.1 C0.1.2.1 C0.1.2.2.2.2 hin C0.1.2.2.2.1 a1.1 (qm_one hat) 0 rfl hc f hf (C0.1.2.2.2.2 _ hlk) (fun _ h9 => h9) e2 hd (hn H locs ls ⟨a1, a2, qm_fa e3 b2, a4, a5⟩)
/-- a field that may hold null: the oracle says what it holds -/
def o_getq (kd : Nat) (fd : G → Nat → Option (Nat × Nat)) : qm_op G := fun o t => match t.2.1 with
  | .inr (.inr (some (k, i))) :: S => match Nat.beq k kd with
    | true => match o.2.1 with
      | r :: rs => ([fd t.2.2 i = r], none, (t.1, .inr (.inr r) :: S, t.2.2), (o.1, rs, o.2.2))
      | [] => ([False], none, t, o)
    | false => ([False], none, t, o)
  | _ => ([False], none, t, o)
theorem os_getq {kd f ci N pc idx : Nat} {C : String} {T : u_T} {fd : G → Nat → Option (Nat × Nat)} (hd : decode cc pc = .ok (.getfield idx, 3)) (hc : cl[ci]? = some (C, T, N)) (hin : ∀ w ∈ u_ws C T N, w ∈ Ts) (hf : f < N) (hlk : Cond.fieldLink own idx (T f).1 (T f).2.1 (T f).2.2.1 ∈ Ts)
    (hce : ∀ (g : G) (i : Nat), V kd i → okg g → ∃ fs, ce g kd i = .inr (ci, fs) ∧ fs[f]? = some (qm_cv Λ (.inr (.inr (fd g i)))) ∧ qm_ok V (.inr (.inr (fd g i)))) : qm_K Λ V (qm_hold D cl tys Λ V ce okg ex) A l R cc nL own Ts ret pc (pc + 3) (o_getq kd fd) := by
  intro Fq p e s m args below meth c Q C0 o t hc1 hn H locs ls hA
  obtain ⟨L, S, g⟩ := t
  obtain ⟨o1, o2, o3⟩ := o
  obtain ⟨a1, a2, a3, a4, a5⟩ := hA
  rcases S with _ | ⟨x | x | _ | ⟨k, i⟩, S⟩
  · exact hc1.elim
  · exact hc1.elim
  · exact hc1.elim
  · exact hc1.elim
  · unfold o_getq at hc1 hn
    dsimp only at hc1 hn
    cases hb : Nat.beq k kd <;> rw [hb] at hc1 hn
    · exact hc1.elim
    · have hk := Nat.eq_of_beq_eq_true hb
      subst hk
      obtain ⟨b1, b2⟩ := qm_fa2 a3
      rcases o2 with _ | ⟨r, rs⟩
      · exact hc1.elim
      · have hr : fd g i = r := hc1
        obtain ⟨fs, e1, e2, e3⟩ := hce g i b1 a1.2.2.1
        rw [hr] at e2 e3
        have hat := a1.2.1 k i b1
        rw [e1] at hat
        exact va_get C0.1.1 C0.1.2.1 C0.1.2.2.2.2 hin C0.1.2.2.2.1 a1.1 (qm_one hat) 0 rfl hc f hf (C0.1.2.2.2.2 _ hlk) (fun _ h9 => h9) e2 hd (hn H locs ls ⟨a1, a2, qm_fa e3 b2, a4, a5⟩)
def o_put (kd : Nat) (sf : G → Nat → qm_v → Option (List Prop × G)) : qm_op G := fun o t => match t.2.1 with
  | v :: .inr (.inr (some (k, i))) :: S => match Nat.beq k kd with
    | true => match sf t.2.2 i v with
      | some (cs, g) => (cs, none, (t.1, S, g), o)
      | none => ([False], none, t, o)
    | false => ([False], none, t, o)
  | _ => ([False], none, t, o)
theorem os_put (hsys : qm_sys Λ V ex A) {kd f ci N pc idx : Nat} {C : String} {T : u_T} {ty0 : Nat → FieldType} {ty : FieldType} {sf : G → Nat → qm_v → Option (List Prop × G)} (hd : decode cc pc = .ok (.putfield idx, 3)) (hc : cl[ci]? = some (C, T, N)) (hin : ∀ w ∈ u_ws C T N, w ∈ Ts) (hty : ∀ k, k < N → parseFieldDescriptor (T k).2.2.1 = some (ty0 k)) (hnm : ∀ a, a < N → ∀ b, b < N → a ≠ b → (T a).2.1 ≠ (T b).2.1) (hf : f < N) (hlk : Cond.fieldLink own idx (T f).1 (T f).2.1 (T f).2.2.1 ∈ Ts) (hfin : (T f).2.2.2 = false) (hdt : parseFieldDescriptor (T f).2.2.1 = some ty)
    (hsf : ∀ (g : G) (i : Nat) (v : qm_v) (cs : List Prop) (g' : G), V kd i → okg g → qm_ok V v → sf g i v = some (cs, g') → qm_all cs → okg g' ∧ (∃ fs, ce g kd i = .inr (ci, fs) ∧ f < fs.length ∧ ce g' kd i = .inr (ci, fs.set f (qm_cv Λ v))) ∧ (∀ k j, V k j → (k ≠ kd ∨ j ≠ i) → ce g' k j = ce g k j) ∧ narrow ty (qm_cv Λ v) = qm_cv Λ v ∧ fits ty (qm_cv Λ v) = true) : qm_K Λ V (qm_hold D cl tys Λ V ce okg ex) A l R cc nL own Ts ret pc (pc + 3) (o_put kd sf) := by
  intro Fq p e s m args below meth c Q C0 o t hc1 hn H locs ls hA
  obtain ⟨L, S, g⟩ := t
  obtain ⟨a1, a2, a3, a4, a5⟩ := hA
  rcases S with _ | ⟨v, _ | ⟨x | x | _ | ⟨k, i⟩, S⟩⟩
  · exact hc1.elim
  · exact hc1.elim
  · exact hc1.elim
  · exact hc1.elim
  · exact hc1.elim
  · unfold o_put at hc1 hn
    dsimp only at hc1 hn
    cases hb : Nat.beq k kd <;> rw [hb] at hc1 hn
    · exact hc1.elim
    · dsimp only at hc1 hn
      have hk := Nat.eq_of_beq_eq_true hb
      subst hk
      obtain ⟨b1, b2⟩ := qm_fa2 a3
      obtain ⟨b2, b3⟩ := qm_fa2 b2
      rcases hs : sf g i v with _ | ⟨cs, g'⟩ <;> rw [hs] at hc1 hn
      · exact hc1.elim
      · obtain ⟨e1, ⟨fs, e2, e3, e4⟩, e5, e6, e7⟩ := hsf g i v cs g' b2 a1.2.2.1 b1 hs hc1
        have hat := a1.2.1 k i b2
        rw [e2] at hat
        have hts := C0.1.2.2.2.2
        have hap := va_apart (own := own) hts hin ty0 hty hnm a1.1 hc
        obtain ⟨r, h1, cell, q1, q2, q3, q4⟩ := hat
        have hr : r = (C, T, N) := Option.some.inj (h1.symm.trans hc)
        subst hr
        obtain ⟨hS, hfc, kC, hkC, hkind⟩ := a1.1.1 ci _ hc
        obtain ⟨cf, kf, fi, fl, hi, hsl⟩ := hS f hf
        have hlay := hts _ (hin _ (u_in_lay hf))
        unfold u_lay at hlay
        rw [if_neg (by rw [hfin]; decide)] at hlay
        have hst := (u_facts hfc hkC (u_lays hts hin hf) hi).1
        have h6 := u_store hfc hkC hkind hlay hi hdt e6 e7
        refine W.putK C0.1.1 C0.1.2.1 (f := fl) ⟨C0.1.2.2.2.1, hts _ hlk, ⟨_, _, _, hi⟩, hst⟩ (by rw [q2]; exact h6) q1 q3 (by rw [hsl]; exact k2_hasslot (q4 f hf)) rfl rfl hd fun H' z1 z2 z3 => ?_
        rw [hsl] at z1 ⊢
        refine hn H' _ ls ⟨a1.set hsys b2 e1 ?_ z2 z3 e5, a2, b3, a4, a5.put z2 z3 (hsys.2.1 k i b2)⟩
        rw [e4]
        exact ⟨_, hc, t_OB.to (V := updV (vp_V fs) f (qm_cv Λ v)) ⟨_, z1, q2, q3, t_set q4 hap hf _⟩ (fun j _ => vp_updV_set e3 _ j)⟩
-- arrays of numbers
def o_ald (kd : Nat) (ln : G → Nat → Nat) (rd : G → Nat → Nat → Int32) : qm_op G := fun o t => match t.2.1 with
  | .inl x :: .inr (.inr (some (k, i))) :: S => match Nat.beq k kd with
    | true => ([vp_in x (ln t.2.2 i)], none, (t.1, .inl (rd t.2.2 i x.toNatClampNeg) :: S, t.2.2), o)
    | false => ([False], none, t, o)
  | _ => ([False], none, t, o)
theorem os_ald' {kd pc : Nat} {ln : G → Nat → Nat} {rd : G → Nat → Nat → Int32}
    (hrow : ∀ (p : Program) (e : Env) (s : State) (m : MethodId) (args : Array Value) (below : List Frame) (meth : Method) (c : Code) (H : Heap) (locs : List Loc) (Q : State → Prop) (ls : Array Slot) (g : G) (i : Nat) (x : Int32) (rest : List Value), CallFix p m c cc nL s args Ts own → V kd i → va_K D cl tys s → okg g → va_at D cl (Λ kd i, ce g kd i) H → vp_in x (ln g i) → W p l e R s m args below meth c H locs 0 0 Q (F0 m (pc + 1) ls (.int (rd g i x.toNatClampNeg) :: rest)) → W p l e R s m args below meth c H locs 0 0 Q (F0 m pc ls (.int x :: .ref (Λ kd i) :: rest))) : qm_K Λ V (qm_hold D cl tys Λ V ce okg ex) A l R cc nL own Ts ret pc (pc + 1) (o_ald kd ln rd) := by
  intro Fq p e s m args below meth c Q C0 o t hc1 hn H locs ls hA
  obtain ⟨L, S, g⟩ := t
  obtain ⟨a1, a2, a3, a4, a5⟩ := hA
  rcases S with _ | ⟨x | x, _ | ⟨z | z | _ | ⟨k, i⟩, S⟩⟩
  case cons.inl.cons.inr.inr.some =>
    unfold o_ald at hc1 hn
    dsimp only at hc1 hn
    cases hb : Nat.beq k kd <;> rw [hb] at hc1 hn
    · exact hc1.elim
    · have hk := Nat.eq_of_beq_eq_true hb
      subst hk
      obtain ⟨-, b2⟩ := qm_fa2 a3
      obtain ⟨b2, b3⟩ := qm_fa2 b2
      exact hrow p e s m args below meth c H locs Q ls g i x _ C0.1 b2 a1.1 a1.2.2.1 (a1.2.1 k i b2) hc1 (hn H locs ls ⟨a1, a2, qm_fa trivial b3, a4, a5⟩)
  all_goals exact hc1.elim
theorem os_iald {kd pc t0 : Nat} {cA : ClassId} {ln : G → Nat → Nat} {rd : G → Nat → Nat → Int32} (hd : decode cc pc = .ok (.iaload, 1)) (ht : tys[t0]? = some (cA, .int)) (hce : ∀ (g : G) (i : Nat), V kd i → ce g kd i = .inl (cA, ln g i, .inl (rd g i))) : qm_K Λ V (qm_hold D cl tys Λ V ce okg ex) A l R cc nL own Ts ret pc (pc + 1) (o_ald kd ln rd) :=
  os_ald' fun p e s m args below meth c H locs Q ls g i x rest C hV hK _ hat hin k => by
    rw [hce g i hV] at hat
    exact va_iald C.1 C.2.1 hK (qm_one hat) 0 t0 rfl ht hin hd k
theorem os_bald {kd pc t0 : Nat} {cA : ClassId} {ln : G → Nat → Nat} {rd : G → Nat → Nat → Int32} (hd : decode cc pc = .ok (.baload, 1)) (ht : tys[t0]? = some (cA, .byte)) (hce : ∀ (g : G) (i : Nat), V kd i → ce g kd i = .inl (cA, ln g i, .inl (rd g i))) : qm_K Λ V (qm_hold D cl tys Λ V ce okg ex) A l R cc nL own Ts ret pc (pc + 1) (o_ald kd ln rd) :=
  os_ald' fun p e s m args below meth c H locs Q ls g i x rest C hV hK _ hat hin k => by
    rw [hce g i hV] at hat
    exact va_bald C.1 C.2.1 hK (qm_one hat) 0 t0 rfl ht hin hd k
def o_ast (kd : Nat) (ln : G → Nat → Nat) (wr : G → Nat → Nat → Int32 → G) : qm_op G := fun o t => match t.2.1 with
  | .inl v :: .inl x :: .inr (.inr (some (k, i))) :: S => match Nat.beq k kd with
    | true => ([vp_in x (ln t.2.2 i)], none, (t.1, S, wr t.2.2 i x.toNatClampNeg v), o)
    | false => ([False], none, t, o)
  | _ => ([False], none, t, o)
theorem os_ast' (hsys : qm_sys Λ V ex A) {kd pc : Nat} {ln : G → Nat → Nat} {wr : G → Nat → Nat → Int32 → G} (hok : ∀ (g : G) (i j : Nat) (v : Int32), V kd i → okg g → okg (wr g i j v) ∧ ∀ k j2, V k j2 → (k ≠ kd ∨ j2 ≠ i) → ce (wr g i j v) k j2 = ce g k j2)
    (hrow : ∀ (p : Program) (e : Env) (s : State) (m : MethodId) (args : Array Value) (below : List Frame) (meth : Method) (c : Code) (H : Heap) (locs : List Loc) (Q : State → Prop) (ls : Array Slot) (g : G) (i : Nat) (x v : Int32) (rest : List Value), CallFix p m c cc nL s args Ts own → V kd i → va_K D cl tys s → va_at D cl (Λ kd i, ce g kd i) H → vp_in x (ln g i) → (∀ H1 : Heap, va_at D cl (Λ kd i, ce (wr g i x.toNatClampNeg v) kd i) H1 → H1.size = H.size → (∀ q : Nat, q ≠ Λ kd i → H1[q]? = H[q]?) → W p l e R s m args below meth c H1 (locs ++ [⟨Λ kd i, x.toNatClampNeg⟩]) 0 0 Q (F0 m (pc + 1) ls rest)) → W p l e R s m args below meth c H locs 0 0 Q (F0 m pc ls (.int v :: .int x :: .ref (Λ kd i) :: rest))) : qm_K Λ V (qm_hold D cl tys Λ V ce okg ex) A l R cc nL own Ts ret pc (pc + 1) (o_ast kd ln wr) := by
  intro Fq p e s m args below meth c Q C0 o t hc1 hn H locs ls hA
  obtain ⟨L, S, g⟩ := t
  obtain ⟨a1, a2, a3, a4, a5⟩ := hA
  rcases S with _ | ⟨v | v, _ | ⟨x | x, _ | ⟨z | z | _ | ⟨k, i⟩, S⟩⟩⟩
  case cons.inl.cons.inl.cons.inr.inr.some =>
    unfold o_ast at hc1 hn
    dsimp only at hc1 hn
    cases hb : Nat.beq k kd <;> rw [hb] at hc1 hn
    · exact hc1.elim
    · have hk := Nat.eq_of_beq_eq_true hb
      subst hk
      obtain ⟨-, b2⟩ := qm_fa2 a3
      obtain ⟨-, b2⟩ := qm_fa2 b2
      obtain ⟨b2, b3⟩ := qm_fa2 b2
      obtain ⟨c1, c2⟩ := hok g i x.toNatClampNeg v b2 a1.2.2.1
      exact hrow p e s m args below meth c H locs Q ls g i x v _ C0.1 b2 a1.1 (a1.2.1 k i b2) hc1 fun H1 z1 z2 z3 => hn H1 _ ls ⟨a1.set hsys b2 c1 z1 z2 z3 c2, a2, b3, a4, a5.put z2 z3 (hsys.2.1 k i b2)⟩
  all_goals exact hc1.elim
theorem os_iast (hsys : qm_sys Λ V ex A) {kd pc t0 : Nat} {cA : ClassId} {ln : G → Nat → Nat} {rd : G → Nat → Nat → Int32} {wr : G → Nat → Nat → Int32 → G} (hd : decode cc pc = .ok (.iastore, 1)) (ht : tys[t0]? = some (cA, .int)) (hce : ∀ (g : G) (i : Nat), V kd i → ce g kd i = .inl (cA, ln g i, .inl (rd g i))) (hwr : ∀ (g : G) (i j : Nat) (v : Int32), V kd i → ln (wr g i j v) i = ln g i ∧ rd (wr g i j v) i = upd (rd g i) j v)
    (hok : ∀ (g : G) (i j : Nat) (v : Int32), V kd i → okg g → okg (wr g i j v) ∧ ∀ k j2, V k j2 → (k ≠ kd ∨ j2 ≠ i) → ce (wr g i j v) k j2 = ce g k j2) : qm_K Λ V (qm_hold D cl tys Λ V ce okg ex) A l R cc nL own Ts ret pc (pc + 1) (o_ast kd ln wr) :=
  os_ast' hsys hok fun p e s m args below meth c H locs Q ls g i x v rest C hV hK hat hin kk => by
    rw [hce g i hV] at hat
    refine W.iast C.1 C.2.1 hat ((hK.2 t0 _ ht).1 (ln g i) (fun j => .int (rd g i j))) (fun q => by cases q) (by show ¬ (x < 0 ∨ (arrV _ _ _).slots.size ≤ _); rw [arrV_size]; exact hin) rfl rfl hd fun H1 e z oq => kk H1 ?_ z oq
    rw [hce _ i hV, (hwr g i _ v hV).1, (hwr g i _ v hV).2]
    show H1[_]? = some (vp_cell _ _)
    rw [e]
    rw [vp_cell_i, vp_cell_i, arrV_store]
    congr 2
    funext q
    by_cases hq : q = x.toNatClampNeg
    · subst hq
      simp [updV, upd]
    · simp [updV, upd, hq]
theorem os_bast (hsys : qm_sys Λ V ex A) {kd pc t0 : Nat} {cA : ClassId} {ln : G → Nat → Nat} {rd : G → Nat → Nat → Int32} {wr : G → Nat → Nat → Int32 → G} (hd : decode cc pc = .ok (.bastore, 1)) (ht : tys[t0]? = some (cA, .byte)) (hce : ∀ (g : G) (i : Nat), V kd i → ce g kd i = .inl (cA, ln g i, .inl (rd g i))) (hwr : ∀ (g : G) (i j : Nat) (v : Int32), V kd i → ln (wr g i j v) i = ln g i ∧ rd (wr g i j v) i = upd (rd g i) j v.toInt8.toInt32)
    (hok : ∀ (g : G) (i j : Nat) (v : Int32), V kd i → okg g → okg (wr g i j v) ∧ ∀ k j2, V k j2 → (k ≠ kd ∨ j2 ≠ i) → ce (wr g i j v) k j2 = ce g k j2) : qm_K Λ V (qm_hold D cl tys Λ V ce okg ex) A l R cc nL own Ts ret pc (pc + 1) (o_ast kd ln wr) :=
  os_ast' hsys hok fun p e s m args below meth c H locs Q ls g i x v rest C hV hK hat hin kk => by
    rw [hce g i hV] at hat
    refine W.bast C.1 C.2.1 hat ((hK.2 t0 _ ht).1 (ln g i) (fun j => .int (rd g i j))) (fun q => by cases q) (by show ¬ (x < 0 ∨ (arrV _ _ _).slots.size ≤ _); rw [arrV_size]; exact hin) rfl rfl hd fun H1 e z oq => kk H1 ?_ z oq
    rw [hce _ i hV, (hwr g i _ v hV).1, (hwr g i _ v hV).2]
    show H1[_]? = some (vp_cell _ _)
    rw [e]
    rw [vp_cell_i, vp_cell_i, arrV_store]
    congr 2
    funext q
    by_cases hq : q = x.toNatClampNeg
    · subst hq
      simp [updV, upd, vp_nar]
      try rfl
    · simp [updV, upd, hq]
/-- arrays of references -/
def o_aald (kd : Nat) (ln : G → Nat → Nat) (rd : G → Nat → Nat → qm_v) : qm_op G := fun o t => match t.2.1 with
  | .inl x :: .inr (.inr (some (k, i))) :: S => match Nat.beq k kd with
    | true => ([vp_in x (ln t.2.2 i)], none, (t.1, rd t.2.2 i x.toNatClampNeg :: S, t.2.2), o)
    | false => ([False], none, t, o)
  | _ => ([False], none, t, o)
theorem os_aald {kd pc t0 : Nat} {cA : ClassId} {C : String} {ln : G → Nat → Nat} {rd : G → Nat → Nat → qm_v} (hd : decode cc pc = .ok (.aaload, 1)) (ht : tys[t0]? = some (cA, .object C)) (hce : ∀ (g : G) (i : Nat), V kd i → okg g → ∃ f : Nat → Option Nat, ce g kd i = .inl (cA, ln g i, .inr (.inr (.inr (.inr f)))) ∧ ∀ j, j < ln g i → va_rf (f j) = qm_cv Λ (rd g i j) ∧ qm_ok V (rd g i j)) : qm_K Λ V (qm_hold D cl tys Λ V ce okg ex) A l R cc nL own Ts ret pc (pc + 1) (o_aald kd ln rd) := by
  intro Fq p e s m args below meth c Q C0 o t hc1 hn H locs ls hA
  obtain ⟨L, S, g⟩ := t
  obtain ⟨a1, a2, a3, a4, a5⟩ := hA
  rcases S with _ | ⟨x | x, _ | ⟨z | z | _ | ⟨k, i⟩, S⟩⟩
  case cons.inl.cons.inr.inr.some =>
    unfold o_aald at hc1 hn
    dsimp only at hc1 hn
    cases hb : Nat.beq k kd <;> rw [hb] at hc1 hn
    · exact hc1.elim
    · have hk := Nat.eq_of_beq_eq_true hb
      subst hk
      obtain ⟨-, b2⟩ := qm_fa2 a3
      obtain ⟨b2, b3⟩ := qm_fa2 b2
      obtain ⟨f, e1, e2⟩ := hce g i b2 a1.2.2.1
      have hat := a1.2.1 k i b2
      rw [e1] at hat
      have hin : vp_in x (ln g i) := hc1
      obtain ⟨e3, e4⟩ := e2 _ (Nat.not_le.mp fun q => hin (Or.inr q))
      refine va_aldq C0.1.1 C0.1.2.1 a1.1 (qm_one hat) 0 t0 rfl ht hin hd ?_
      rw [e3]
      exact hn H locs ls ⟨a1, a2, qm_fa e4 b3, a4, a5⟩
  all_goals exact hc1.elim
def o_alen (kd : Nat) (ln : G → Nat → Nat) : qm_op G := fun o t => match t.2.1 with
  | .inr (.inr (some (k, i))) :: S => match Nat.beq k kd with
    | true => ([], none, (t.1, .inl (Int32.ofNat (ln t.2.2 i)) :: S, t.2.2), o)
    | false => ([False], none, t, o)
  | _ => ([False], none, t, o)
theorem os_alen {kd pc t0 : Nat} {cA : ClassId} {ty : FieldType} {ln : G → Nat → Nat} (hd : decode cc pc = .ok (.arraylength, 1)) (ht : tys[t0]? = some (cA, ty)) (hce : ∀ (g : G) (i : Nat), V kd i → ∃ x : vp_A, ce g kd i = .inl (cA, x) ∧ x.1 = ln g i) : qm_K Λ V (qm_hold D cl tys Λ V ce okg ex) A l R cc nL own Ts ret pc (pc + 1) (o_alen kd ln) := by
  intro Fq p e s m args below meth c Q C0 o t hc1 hn H locs ls hA
  obtain ⟨L, S, g⟩ := t
  obtain ⟨a1, a2, a3, a4, a5⟩ := hA
  rcases S with _ | ⟨z | z | _ | ⟨k, i⟩, S⟩
  case cons.inr.inr.some =>
    unfold o_alen at hc1 hn
    dsimp only at hc1 hn
    cases hb : Nat.beq k kd <;> rw [hb] at hc1 hn
    · exact hc1.elim
    · have hk := Nat.eq_of_beq_eq_true hb
      subst hk
      obtain ⟨b2, b3⟩ := qm_fa2 a3
      obtain ⟨x, e1, e2⟩ := hce g i b2
      have hat := a1.2.1 k i b2
      rw [e1] at hat
      exact va_alen C0.1.1 C0.1.2.1 a1.1 (qm_one hat) 0 t0 rfl ht (by rw [e2]) hd (hn H locs ls ⟨a1, a2, qm_fa trivial b3, a4, a5⟩)
  all_goals exact hc1.elim
-- arrays of longs
def o_lald (kd : Nat) (ln : G → Nat → Nat) (rd : G → Nat → Nat → Int64) : qm_op G := fun o t => match t.2.1 with
  | .inl x :: .inr (.inr (some (k, i))) :: S => match Nat.beq k kd with
    | true => ([vp_in x (ln t.2.2 i)], none, (t.1, .inr (.inl (rd t.2.2 i x.toNatClampNeg)) :: S, t.2.2), o)
    | false => ([False], none, t, o)
  | _ => ([False], none, t, o)
theorem os_lald {kd pc t0 : Nat} {cA : ClassId} {ln : G → Nat → Nat} {rd : G → Nat → Nat → Int64} (hd : decode cc pc = .ok (.laload, 1)) (ht : tys[t0]? = some (cA, .long)) (hce : ∀ (g : G) (i : Nat), V kd i → ce g kd i = .inl (cA, ln g i, .inr (.inl (rd g i)))) : qm_K Λ V (qm_hold D cl tys Λ V ce okg ex) A l R cc nL own Ts ret pc (pc + 1) (o_lald kd ln rd) := by
  intro Fq p e s m args below meth c Q C0 o t hc1 hn H locs ls hA
  obtain ⟨L, S, g⟩ := t
  obtain ⟨a1, a2, a3, a4, a5⟩ := hA
  rcases S with _ | ⟨x | x, _ | ⟨z | z | _ | ⟨k, i⟩, S⟩⟩
  case cons.inl.cons.inr.inr.some =>
    unfold o_lald at hc1 hn
    dsimp only at hc1 hn
    cases hb : Nat.beq k kd <;> rw [hb] at hc1 hn
    · exact hc1.elim
    · have hk := Nat.eq_of_beq_eq_true hb
      subst hk
      obtain ⟨-, b2⟩ := qm_fa2 a3
      obtain ⟨b2, b3⟩ := qm_fa2 b2
      have hat := a1.2.1 k i b2
      rw [hce g i b2] at hat
      exact va_lald C0.1.1 C0.1.2.1 a1.1 (qm_one hat) 0 t0 rfl ht hc1 hd (hn H locs ls ⟨a1, a2, qm_fa trivial b3, a4, a5⟩)
  all_goals exact hc1.elim
def o_last (kd : Nat) (ln : G → Nat → Nat) (wr : G → Nat → Nat → Int64 → G) : qm_op G := fun o t => match t.2.1 with
  | .inr (.inl v) :: .inl x :: .inr (.inr (some (k, i))) :: S => match Nat.beq k kd with
    | true => ([vp_in x (ln t.2.2 i)], none, (t.1, S, wr t.2.2 i x.toNatClampNeg v), o)
    | false => ([False], none, t, o)
  | _ => ([False], none, t, o)
theorem os_last (hsys : qm_sys Λ V ex A) {kd pc t0 : Nat} {cA : ClassId} {ln : G → Nat → Nat} {rd : G → Nat → Nat → Int64} {wr : G → Nat → Nat → Int64 → G} (hd : decode cc pc = .ok (.lastore, 1)) (ht : tys[t0]? = some (cA, .long)) (hce : ∀ (g : G) (i : Nat), V kd i → ce g kd i = .inl (cA, ln g i, .inr (.inl (rd g i)))) (hwr : ∀ (g : G) (i j : Nat) (v : Int64), V kd i → ln (wr g i j v) i = ln g i ∧ rd (wr g i j v) i = vp_updL (rd g i) j v)
    (hok : ∀ (g : G) (i j : Nat) (v : Int64), V kd i → okg g → okg (wr g i j v) ∧ ∀ k j2, V k j2 → (k ≠ kd ∨ j2 ≠ i) → ce (wr g i j v) k j2 = ce g k j2) : qm_K Λ V (qm_hold D cl tys Λ V ce okg ex) A l R cc nL own Ts ret pc (pc + 1) (o_last kd ln wr) := by
  intro Fq p e s m args below meth c Q C0 o t hc1 hn H locs ls hA
  obtain ⟨L, S, g⟩ := t
  obtain ⟨a1, a2, a3, a4, a5⟩ := hA
  rcases S with _ | ⟨v | v | v, _ | ⟨x | x, _ | ⟨z | z | _ | ⟨k, i⟩, S⟩⟩⟩
  case cons.inr.inl.cons.inl.cons.inr.inr.some =>
    unfold o_last at hc1 hn
    dsimp only at hc1 hn
    cases hb : Nat.beq k kd <;> rw [hb] at hc1 hn
    · exact hc1.elim
    · have hk := Nat.eq_of_beq_eq_true hb
      subst hk
      obtain ⟨-, b2⟩ := qm_fa2 a3
      obtain ⟨-, b2⟩ := qm_fa2 b2
      obtain ⟨b2, b3⟩ := qm_fa2 b2
      obtain ⟨c1, c2⟩ := hok g i x.toNatClampNeg v b2 a1.2.2.1
      have hat := a1.2.1 k i b2
      rw [hce g i b2] at hat
      have hin : vp_in x (ln g i) := hc1
      refine W.last C0.1.1 C0.1.2.1 hat ((a1.1.2 t0 _ ht).1 (ln g i) (fun j => .long (rd g i j))) (fun q => by cases q) (by show ¬ (x < 0 ∨ (arrV _ _ _).slots.size ≤ _); rw [arrV_size]; exact hin) rfl rfl hd fun H1 z1 z2 z3 => hn H1 _ ls ⟨a1.set hsys b2 c1 ?_ z2 z3 c2, a2, b3, a4, a5.put z2 z3 (hsys.2.1 k i b2)⟩
      rw [hce _ i b2, (hwr g i _ v b2).1, (hwr g i _ v b2).2]
      show H1[_]? = some (vp_cell _ _)
      rw [z1]
      rw [vp_cell_l, vp_cell_l, arrV_store]
      congr 2
      funext q
      by_cases hq : q = x.toNatClampNeg
      · subst hq
        simp [updV, vp_updL]
      · simp [updV, vp_updL, hq]
  all_goals exact hc1.elim
end QMH
end
section
section QMC
variable {G : Type} {D : va_G} {cl : List vw_C} {tys : List (ClassId × FieldType)} {Λ : Nat → Nat → Nat} {V : Nat → Nat → Prop} {ce : G → Nat → Nat → va_E} {okg : G → Prop} {ex : State → Heap → Prop} {A : Nat → Prop} {l : Launch} {R : Room} {cc : ByteArray} {nL : Nat} {own : String} {Ts : List Cond} {ret : Option FieldType}
def o_ret0 : qm_op G := fun o t => match t.2.1 with
  | [] => ([], some none, t, o)
  | _ => ([False], none, t, o)
def o_reti : qm_op G := fun o t => match t.2.1 with
  | [.inl x] => ([], some none, (t.1, [.inl x], t.2.2), o)
  | _ => ([False], none, t, o)
def o_retz : qm_op G := fun o t => match t.2.1 with
  | [.inl x] => ([x = 0 ∨ x = 1], some none, (t.1, [.inl x], t.2.2), o)
  | _ => ([False], none, t, o)
def o_retl : qm_op G := fun o t => match t.2.1 with
  | [.inr (.inl x)] => ([], some none, (t.1, [.inr (.inl x)], t.2.2), o)
  | _ => ([False], none, t, o)
def o_reta : qm_op G := fun o t => match t.2.1 with
  | [.inr (.inr x)] => ([], some none, (t.1, [.inr (.inr x)], t.2.2), o)
  | _ => ([False], none, t, o)
theorem qm_hold.out (hsys : qm_sys Λ V ex A) {s t : State} {g : G} {H : Heap} (h : qm_hold D cl tys Λ V ce okg ex s g H) (hv : s.vm.Alike t.vm) (ht : t.heap = H) : qm_hold D cl tys Λ V ce okg ex t g t.heap := by
  rw [ht]; exact h.moved hsys hv
theorem os_ret0 (hsys : qm_sys Λ V ex A) {pc nx : Nat} (hd : decode cc pc = .ok (.return_, 1)) (hr : ret = none) : qm_K Λ V (qm_hold D cl tys Λ V ce okg ex) A l R cc nL own Ts ret pc nx o_ret0 := by
  intro Fq p e s m args below meth c Q C0 o t hc1 hn H locs ls hA
  obtain ⟨L, S, g⟩ := t
  obtain ⟨a1, a2, a3, a4, a5⟩ := hA
  rcases S with _ | ⟨v, S⟩
  · obtain ⟨c1, c2, c3, c4⟩ := C0
    subst c4
    exact W.vret (hlocks := c3) c1.1 c1.2.1 (c2.trans hr) (fun t ht hW => ⟨none, g, rfl, hn, (fun v hv => by cases hv), a1.out hsys hW.alike ht, a5.F ht⟩) a5.2.2 hd
  · exact hc1.elim
theorem os_reti (hsys : qm_sys Λ V ex A) {pc nx : Nat} (hd : decode cc pc = .ok (.ireturn, 1)) (hr : ret = some .int) : qm_K Λ V (qm_hold D cl tys Λ V ce okg ex) A l R cc nL own Ts ret pc nx o_reti := by
  intro Fq p e s m args below meth c Q C0 o t hc1 hn H locs ls hA
  obtain ⟨L, S, g⟩ := t
  obtain ⟨a1, a2, a3, a4, a5⟩ := hA
  rcases S with _ | ⟨x | x, _ | ⟨v, S⟩⟩
  case cons.inl.nil =>
    obtain ⟨c1, c2, c3, c4⟩ := C0
    subst c4
    exact W.iret (hlocks := c3) c1.1 c1.2.1 (c2.trans hr) (fun t ht hW => ⟨some (.inl x), g, rfl, hn, (fun v hv => by cases hv; trivial), a1.out hsys hW.alike ht, a5.F ht⟩) a5.2.2 hd
  all_goals exact hc1.elim
theorem os_retz (hsys : qm_sys Λ V ex A) {pc nx : Nat} (hd : decode cc pc = .ok (.ireturn, 1)) (hr : ret = some .boolean) : qm_K Λ V (qm_hold D cl tys Λ V ce okg ex) A l R cc nL own Ts ret pc nx o_retz := by
  intro Fq p e s m args below meth c Q C0 o t hc1 hn H locs ls hA
  obtain ⟨L, S, g⟩ := t
  obtain ⟨a1, a2, a3, a4, a5⟩ := hA
  rcases S with _ | ⟨x | x, _ | ⟨v, S⟩⟩
  case cons.inl.nil =>
    obtain ⟨c1, c2, c3, c4⟩ := C0
    subst c4
    have hx : narrow .boolean (.int x) = .int x := by
      rcases (show x = 0 ∨ x = 1 from hc1) with rfl | rfl <;> decide +kernel
    exact W.zret (hlocks := c3) c1.1 c1.2.1 (c2.trans hr) hx (fun t ht hW => ⟨some (.inl x), g, rfl, hn, (fun v hv => by cases hv; trivial), a1.out hsys hW.alike ht, a5.F ht⟩) a5.2.2 hd
  all_goals exact hc1.elim
theorem os_retl (hsys : qm_sys Λ V ex A) {pc nx : Nat} (hd : decode cc pc = .ok (.lreturn, 1)) (hr : ret = some .long) : qm_K Λ V (qm_hold D cl tys Λ V ce okg ex) A l R cc nL own Ts ret pc nx o_retl := by
  intro Fq p e s m args below meth c Q C0 o t hc1 hn H locs ls hA
  obtain ⟨L, S, g⟩ := t
  obtain ⟨a1, a2, a3, a4, a5⟩ := hA
  rcases S with _ | ⟨x | x | x, _ | ⟨v, S⟩⟩
  case cons.inr.inl.nil =>
    obtain ⟨c1, c2, c3, c4⟩ := C0
    subst c4
    exact W.lret (hlocks := c3) c1.1 c1.2.1 (c2.trans hr) (fun t ht hW => ⟨some (.inr (.inl x)), g, rfl, hn, (fun v hv => by cases hv; trivial), a1.out hsys hW.alike ht, a5.F ht⟩) a5.2.2 hd
  all_goals exact hc1.elim
theorem os_reta (hsys : qm_sys Λ V ex A) {pc nx : Nat} {rt : FieldType} (hd : decode cc pc = .ok (.areturn, 1)) (hr : ret = some rt) (hrt : (∃ n, rt = .object n) ∨ ∃ t, rt = .array t) : qm_K Λ V (qm_hold D cl tys Λ V ce okg ex) A l R cc nL own Ts ret pc nx o_reta := by
  intro Fq p e s m args below meth c Q C0 o t hc1 hn H locs ls hA
  obtain ⟨L, S, g⟩ := t
  obtain ⟨a1, a2, a3, a4, a5⟩ := hA
  rcases S with _ | ⟨x | x | x, _ | ⟨v, S⟩⟩
  case cons.inr.inr.nil =>
    obtain ⟨c1, c2, c3, c4⟩ := C0
    subst c4
    exact W.aret (v := qm_cv Λ (.inr (.inr x))) (hlocks := c3) c1.1 c1.2.1 (c2.trans hr) hrt (by rcases x with _ | x; exact Or.inl rfl; exact Or.inr ⟨_, rfl⟩) (fun t ht hW => ⟨some (.inr (.inr x)), g, rfl, hn, (fun v hv => by cases hv; exact (qm_fa2 a3).1), a1.out hsys hW.alike ht, a5.F ht⟩) a5.2.2 hd
  all_goals exact hc1.elim
/-- a method's contract: from g with these arguments it answers r and leaves g' -/
def qm_Sd (Λ : Nat → Nat → Nat) (V : Nat → Nat → Prop) (hold : State → G → Heap → Prop) (A : Nat → Prop) (l : Launch) (mt : MethodName × List Cond × Room) (as : List qm_v) (g : G) (r : Option qm_v) (g' : G) : Prop :=
  Met l mt.1 mt.2.1 mt.2.2 (fun v U => v = (as.map (qm_cv Λ)).toArray ∧ hold U g U.heap ∧ ∀ v ∈ as, qm_ok V v) (qm_Qc Λ V hold A (fun r1 g1 => r1 = r ∧ g1 = g')) 0 0 A
def qm_ent : Nat → List qm_v → List (Option qm_v)
  | 0, _ => []
  | n + 1, [] => none :: qm_ent n []
  | 1, v :: _ => [some v]
  | n + 2, .inr (.inl x) :: r => some (.inr (.inl x)) :: none :: qm_ent n r
  | n + 2, .inl x :: r => some (.inl x) :: qm_ent (n + 1) r
  | n + 2, .inr (.inr x) :: r => some (.inr (.inr x)) :: qm_ent (n + 1) r
theorem qm_ent_len : ∀ (n : Nat) (as : List qm_v), (qm_ent n as).length = n
  | 0, _ => by unfold qm_ent; rfl
  | n + 1, [] => by unfold qm_ent; simp [qm_ent_len n []]
  | 1, v :: r => by unfold qm_ent; rfl
  | n + 2, .inr (.inl x) :: r => by unfold qm_ent; simp [qm_ent_len n r]
  | n + 2, .inl x :: r => by unfold qm_ent; simp [qm_ent_len (n + 1) r]
  | n + 2, .inr (.inr x) :: r => by unfold qm_ent; simp [qm_ent_len (n + 1) r]
theorem qm_ent_nil (Λ : Nat → Nat → Nat) : ∀ (n i : Nat), qm_ll Λ i (qm_ent n []) = []
  | 0, _ => by unfold qm_ent; rfl
  | n + 1, i => by unfold qm_ent; unfold qm_ll; exact qm_ent_nil Λ n (i + 1)
theorem qm_ent_in (Λ : Nat → Nat → Nat) : ∀ (n i : Nat) (as : List qm_v), ∀ q ∈ qm_ll Λ i (qm_ent n as), q ∈ lv_args i (as.map (qm_cv Λ))
  | 0, i, as => by unfold qm_ent; intro q hq; cases hq
  | n + 1, i, [] => by rw [qm_ent_nil]; intro q hq; cases hq
  | 1, i, v :: r => by
    unfold qm_ent
    intro q hq
    simp only [qm_ll, List.mem_singleton] at hq
    subst hq
    exact List.mem_cons_self
  | n + 2, i, .inr (.inl x) :: r => by
    unfold qm_ent
    intro q hq
    simp only [qm_ll, List.mem_cons] at hq
    rcases hq with rfl | hq
    · exact List.mem_cons_self
    · exact List.mem_cons_of_mem _ (qm_ent_in Λ n (i + 2) r q hq)
  | n + 2, i, .inl x :: r => by
    unfold qm_ent
    intro q hq
    simp only [qm_ll, List.mem_cons] at hq
    rcases hq with rfl | hq
    · exact List.mem_cons_self
    · exact List.mem_cons_of_mem _ (qm_ent_in Λ (n + 1) (i + 1) r q hq)
  | n + 2, i, .inr (.inr x) :: r => by
    unfold qm_ent
    intro q hq
    simp only [qm_ll, List.mem_cons] at hq
    rcases hq with rfl | hq
    · exact List.mem_cons_self
    · refine List.mem_cons_of_mem _ ?_
      have h := qm_ent_in Λ (n + 1) (i + 1) r q hq
      rcases x with _ | x <;> exact h
theorem qm_ent_ok {V : Nat → Nat → Prop} : ∀ (n : Nat) (as : List qm_v), (∀ v ∈ as, qm_ok V v) → ∀ k v, qm_nth (qm_ent n as) k = some v → qm_ok V v
  | 0, as, _, k, v, h => by unfold qm_ent at h; cases h
  | n + 1, [], _, 0, v, h => by unfold qm_ent at h; cases h
  | n + 1, [], ha, k + 1, v, h => by unfold qm_ent at h; exact qm_ent_ok n [] ha k v h
  | 1, u :: r, ha, 0, v, h => by unfold qm_ent at h; cases h; exact ha _ List.mem_cons_self
  | 1, u :: r, ha, k + 1, v, h => by unfold qm_ent at h; cases h
  | n + 2, .inr (.inl x) :: r, ha, 0, v, h => by unfold qm_ent at h; cases h; trivial
  | n + 2, .inr (.inl x) :: r, ha, 1, v, h => by unfold qm_ent at h; cases h
  | n + 2, .inr (.inl x) :: r, ha, k + 2, v, h => by unfold qm_ent at h; exact qm_ent_ok n r (qm_fa2 ha).2 k v h
  | n + 2, .inl x :: r, ha, 0, v, h => by unfold qm_ent at h; cases h; trivial
  | n + 2, .inl x :: r, ha, k + 1, v, h => by unfold qm_ent at h; exact qm_ent_ok (n + 1) r (qm_fa2 ha).2 k v h
  | n + 2, .inr (.inr x) :: r, ha, 0, v, h => by unfold qm_ent at h; cases h; exact ha _ List.mem_cons_self
  | n + 2, .inr (.inr x) :: r, ha, k + 1, v, h => by unfold qm_ent at h; exact qm_ent_ok (n + 1) r (qm_fa2 ha).2 k v h
/-- a method by its code: the walk of the pure machine from its entry -/
theorem qm_meth (hsys : qm_sys Λ V ex A) {y : MethodName} {ws' : List Cond} {as : List qm_v} {g g' : G} {r : Option qm_v} (hy : plainName y.cls = true) (hyo : y.cls = own) (hws : Ts = Cond.code y cc nL ret :: ws') (hfit : (lg_sl (as.map (qm_cv Λ))).length ≤ nL)
    (body : ∀ (p : Program) (e : Env) (s : State) (m : MethodId) (args : Array Value) (below : List Frame) (meth : Method) (c : Code) (Q : State → Prop), qm_C Λ V (qm_hold D cl tys Λ V ce okg ex) A (fun r1 g1 => r1 = r ∧ g1 = g') cc nL own Ts ret p s m args below meth c Q → (∀ v ∈ as, qm_ok V v) → okg g →
      qm_W Λ V (qm_hold D cl tys Λ V ce okg ex) A nL p l e R s m args below meth c Q 0 (qm_ent nL as, [], g)) : qm_Sd Λ V (qm_hold D cl tys Λ V ce okg ex) A l (y, Ts, R) as g r g' := by
  refine Met.ofW (cc := cc) (maxL := nL) (ret := ret) hy hws ?_
  intro p e s m args below meth c s₁ B hml hv
  obtain ⟨rfl, hH, hok⟩ := hv
  have hts := atoms_spec (ws := Ts) B.pre
  have hown : s.vm.findClass own = some m.cls := hyo ▸ findClass_of_methodNamed B.named
  have hl := lv_entry (as.map (qm_cv Λ)) (n := nL) hfit
  rw [lg_entry_eq]
  generalize (lg_sl (as.map (qm_cv Λ)) ++ List.replicate (nL - (lg_sl (as.map (qm_cv Λ))).length) Slot.unset).toArray = ls at hl ⊢
  exact body p e s m _ below meth c _ ⟨⟨B.exec, B.bytes, hml, hown, hts⟩, B.returns, B.notSynchronized, rfl⟩ hok hH.2.2.1 s.heap [] ls ⟨hH, qm_ent_ok nL as hok, (fun v hv => by cases hv), ⟨⟨hl.1, hl.2.1, fun q hq => hl.2.2 q (qm_ent_in Λ nL 0 as q hq)⟩, qm_ent_len nL as⟩, va_S.rf⟩
-- calls
def qm_pop : Nat → List qm_v → List qm_v → Option (List qm_v × List qm_v)
  | 0, S, acc => some (acc, S)
  | _ + 1, [], _ => none
  | n + 1, v :: S, acc => qm_pop n S (v :: acc)
theorem qm_pop_of : ∀ {n : Nat} {S0 acc as S : List qm_v}, qm_pop n S0 acc = some (as, S) → as.length = n + acc.length ∧ as.reverse ++ S = acc.reverse ++ S0
  | 0, S0, acc, as, S, h => by cases h; simp
  | n + 1, [], acc, as, S, h => by cases h
  | n + 1, v :: S0, acc, as, S, h => by
    obtain ⟨h1, h2⟩ := qm_pop_of (n := n) (S0 := S0) (acc := v :: acc) h
    refine ⟨by rw [h1]; simp; omega, by rw [h2]; simp⟩
def qm_wt : List qm_v → Nat
  | [] => 0
  | .inr (.inl _) :: S => qm_wt S + 2
  | .inl _ :: S => qm_wt S + 1
  | .inr (.inr _) :: S => qm_wt S + 1
theorem qm_wt_eq (Λ : Nat → Nat → Nat) : ∀ S : List qm_v, ((S.map (qm_cv Λ)).map fun v => v.category).sum = qm_wt S
  | [] => rfl
  | .inr (.inl _) :: S => by
    have h := qm_wt_eq Λ S
    show 2 + ((S.map (qm_cv Λ)).map fun v => v.category).sum = qm_wt S + 2
    omega
  | .inl _ :: S => by
    have h := qm_wt_eq Λ S
    show 1 + ((S.map (qm_cv Λ)).map fun v => v.category).sum = qm_wt S + 1
    omega
  | .inr (.inr none) :: S => by
    have h := qm_wt_eq Λ S
    show 1 + ((S.map (qm_cv Λ)).map fun v => v.category).sum = qm_wt S + 1
    omega
  | .inr (.inr (some _)) :: S => by
    have h := qm_wt_eq Λ S
    show 1 + ((S.map (qm_cv Λ)).map fun v => v.category).sum = qm_wt S + 1
    omega
def o_call (n : Nat) (P : List qm_v → G → Option qm_v → G → Prop) : qm_op G := fun o t => match qm_pop n t.2.1 [] with
  | some (as, S) => match o.2.2, Nat.ble (qm_wt S) 8 with
    | (r, g') :: rs, true => ([P as t.2.2 r g'], none, (t.1, (match r with | some v => v :: S | none => S), g'), (o.1, o.2.1, rs))
    | _, _ => ([False], none, t, o)
  | none => ([False], none, t, o)
def o_callv (kd n : Nat) (P : List qm_v → G → Option qm_v → G → Prop) : qm_op G := fun o t => match qm_pop n t.2.1 [] with
  | some (.inr (.inr (some (k, i))) :: as, S) => match Nat.beq k kd, o.2.2, Nat.ble (qm_wt S) 8 with
    | true, (r, g') :: rs, true => ([P (.inr (.inr (some (k, i))) :: as) t.2.2 r g'], none, (t.1, (match r with | some v => v :: S | none => S), g'), (o.1, o.2.1, rs))
    | _, _, _ => ([False], none, t, o)
  | _ => ([False], none, t, o)
theorem qm_go (hsys : qm_sys Λ V ex A) {p : Program} {e : Env} {s : State} {m : MethodId} {args : Array Value} {below : List Frame} {meth : Method} {c : Code} {H : Heap} {locs : List Loc} {Q : State → Prop} {pc : Nat} {ls : Array Slot} {st0 rest : List Value} {a : Array Value} {Fq : Option qm_v → G → Prop}
    (hr : va_Run p l e R s m args below meth c H locs 0 0 0 0 (F0 m pc ls st0) rest (qm_Qc Λ V (qm_hold D cl tys Λ V ce okg ex) A Fq a) A) (hS : va_S A s.heap H locs)
    (kk : ∀ (r : Option qm_v) (g : G) (H1 : Heap) (locs1 : List Loc), Fq r g → (∀ v, r = some v → qm_ok V v) → qm_hold D cl tys Λ V ce okg ex s g H1 → va_S A s.heap H1 locs1 → W p l e R s m args below meth c H1 locs1 0 0 Q (F0 m (pc + 3) ls ((r.map (qm_cv Λ)).toList ++ rest))) : W p l e R s m args below meth c H locs 0 0 Q (F0 m pc ls st0) := by
  intro T hT X
  obtain ⟨v, st₀, t, T', L, h0, X', hL, e1, e2, ⟨r, g, hv, hF, hok, hh, hz, hk⟩, st⟩ := hr T hT X
  cases hv
  rw [h0] at hz hk
  have hal : s.vm.Alike t.vm := by rw [← e2]; exact X'.warmed.alike
  have hh2 := hh.moved hsys (t := s) hal.symm
  obtain ⟨t2, a1, b1⟩ := kk r g T'.heap (locs ++ L) hF hok (by rw [e1]; exact hh2)
    ⟨Nat.le_trans hS.1 (by rw [e1]; exact hz), fun q h1 h2 => by rw [e1, hk q (Nat.lt_of_lt_of_le h1 hS.1) h2]; exact hS.2.1 q h1 h2, fun q hq => by
      rcases List.mem_append.mp hq with h | h
      · exact hS.2.2 q h
      · exact hL q h⟩ T' rfl X'
  exact ⟨t2, st t2 a1, b1⟩
theorem qm_pre (hsys : qm_sys Λ V ex A) {s : State} {g : G} {H : Heap} {as : List qm_v} (h : qm_hold D cl tys Λ V ce okg ex s g H) (ha : ∀ v ∈ as, qm_ok V v) : PreS s H (fun v U => v = (as.map (qm_cv Λ)).toArray ∧ qm_hold D cl tys Λ V ce okg ex U g U.heap ∧ ∀ v ∈ as, qm_ok V v) (as.map (qm_cv Λ)) :=
  ⟨fun a U f mk q => ⟨q.1, q.2.1.moved hsys (s := U) (t := U.calling f mk a) (Vm.Alike.refl U.vm), q.2.2⟩, fun U hU hW => ⟨rfl, h.out hsys hW.alike hU, ha⟩⟩
theorem os_call (hsys : qm_sys Λ V ex A) {pc idx n maxL : Nat} {y : MethodName} {bytes : ByteArray} {rc : Option FieldType} {ws : List Cond} {rm : Room} (hd : decode cc pc = .ok (.invokestatic idx, 3)) (cw : ∀ (s : State) (args : Array Value), (∀ w ∈ Ts, w.before args s = true) → CallB R s args own idx y bytes maxL rc ws rm 0 0 n ∧ (Cond.static y).before args s = true) : qm_K Λ V (qm_hold D cl tys Λ V ce okg ex) A l R cc nL own Ts ret pc (pc + 3) (o_call n (qm_Sd Λ V (qm_hold D cl tys Λ V ce okg ex) A l (y, ws, rm))) := by
  intro Fq p e s m args below meth c Q C0 o t hc1 hn H locs ls hA
  obtain ⟨L, S, g⟩ := t
  obtain ⟨o1, o2, o3⟩ := o
  obtain ⟨a1, a2, a3, a4, a5⟩ := hA
  unfold o_call at hc1 hn
  dsimp only at hc1 hn
  rcases hp : qm_pop n S [] with _ | ⟨as, S'⟩ <;> rw [hp] at hc1 hn
  · exact hc1.elim
  · rcases o3 with _ | ⟨⟨r, g'⟩, rs⟩
    · exact hc1.elim
    · dsimp only at hc1 hn
      cases hb : Nat.ble (qm_wt S') 8 <;> rw [hb] at hc1 hn
      · exact hc1.elim
      · obtain ⟨p1, p2⟩ := qm_pop_of hp
        have p2 : as.reverse ++ S' = S := p2
        have hM : qm_Sd Λ V (qm_hold D cl tys Λ V ce okg ex) A l (y, ws, rm) as g r g' := hc1
        have hS' : ∀ v ∈ S', qm_ok V v := fun v hv => a3 v (p2 ▸ List.mem_append_right _ hv)
        have has : ∀ v ∈ as, qm_ok V v := fun v hv => a3 v (p2 ▸ List.mem_append_left _ (List.mem_reverse.mpr hv))
        refine qm_go hsys (va_runS (As := as.map (qm_cv Λ)) (rest := S'.map (qm_cv Λ)) C0.1 hM (cw s args C0.1.2.2.2.2) (qm_pre hsys a1 has) rfl (by rw [List.length_map]; exact p1) a4.1.1 (by show S.map (qm_cv Λ) = _; rw [← p2, List.map_append, List.map_reverse]) (lv_room (by rw [qm_wt_eq]; exact Nat.le_of_ble_eq_true hb)) hd ⟨Nat.zero_le _, Nat.zero_le _⟩) a5 ?_
        rintro r1 g1 H1 locs1 ⟨rfl, rfl⟩ hok hh hS1
        have hn := hn H1 locs1 ls
        rcases r1 with _ | v
        · exact hn ⟨hh, a2, hS', a4, hS1⟩
        · exact hn ⟨hh, a2, qm_fa (hok v rfl) hS', a4, hS1⟩
theorem os_callv (hsys : qm_sys Λ V ex A) {kd ci pc idx n maxL N : Nat} {C : String} {T : u_T} {y : MethodName} {bytes : ByteArray} {rc : Option FieldType} {ws : List Cond} {rm : Room} (hd : decode cc pc = .ok (.invokevirtual idx, 3)) (hc : cl[ci]? = some (C, T, N)) (hce : ∀ (g : G) (i : Nat), V kd i → okg g → ∃ fs, ce g kd i = .inr (ci, fs)) (cw : ∀ (s : State) (args : Array Value), (∀ w ∈ Ts, w.before args s = true) → CallW R s args own C idx y bytes maxL rc ws rm 0 0 n) : qm_K Λ V (qm_hold D cl tys Λ V ce okg ex) A l R cc nL own Ts ret pc (pc + 3) (o_callv kd (n + 1) (qm_Sd Λ V (qm_hold D cl tys Λ V ce okg ex) A l (y, ws, rm))) := by
  intro Fq p e s m args below meth c Q C0 o t hc1 hn H locs ls hA
  obtain ⟨L, S, g⟩ := t
  obtain ⟨o1, o2, o3⟩ := o
  obtain ⟨a1, a2, a3, a4, a5⟩ := hA
  unfold o_callv at hc1 hn
  dsimp only at hc1 hn
  rcases hp : qm_pop (n + 1) S [] with _ | ⟨_ | ⟨x | x | _ | ⟨k, i⟩, as⟩, S'⟩ <;> rw [hp] at hc1 hn
  · exact hc1.elim
  · exact hc1.elim
  · exact hc1.elim
  · exact hc1.elim
  · exact hc1.elim
  · dsimp only at hc1 hn
    cases hbk : Nat.beq k kd <;> rw [hbk] at hc1 hn
    · exact hc1.elim
    · have hk := Nat.eq_of_beq_eq_true hbk
      subst hk
      rcases o3 with _ | ⟨⟨r, g'⟩, rs⟩
      · exact hc1.elim
      · cases hb : Nat.ble (qm_wt S') 8 <;> rw [hb] at hc1 hn
        · exact hc1.elim
        · obtain ⟨p1, p2⟩ := qm_pop_of hp
          have p2 : (qR k i :: as).reverse ++ S' = S := p2
          have p1 : as.length = n := by simpa using p1
          have hM : qm_Sd Λ V (qm_hold D cl tys Λ V ce okg ex) A l (y, ws, rm) (qR k i :: as) g r g' := hc1
          have hS' : ∀ v ∈ S', qm_ok V v := fun v hv => a3 v (p2 ▸ List.mem_append_right _ hv)
          have has : ∀ v ∈ qR k i :: as, qm_ok V v := fun v hv => a3 v (p2 ▸ List.mem_append_left _ (List.mem_reverse.mpr hv))
          have hV : V k i := has _ List.mem_cons_self
          obtain ⟨fs, hfs⟩ := hce g i hV a1.2.2.1
          have hat := a1.2.1 k i hV
          rw [hfs] at hat
          have hpre := qm_pre hsys (as := qR k i :: as) a1 has
          refine qm_go hsys (va_runV (b := Λ k i) (As := as.map (qm_cv Λ)) (rest := S'.map (qm_cv Λ)) C0.1 hM (cw s args C0.1.2.2.2.2) ⟨hpre.1, va_recv a1.1 (qm_one hat) hc (q0 := 0) rfl, hpre.2⟩ rfl (by rw [List.length_map]; exact p1) a4.1.1 (by show S.map (qm_cv Λ) = _; rw [← p2, List.reverse_cons, List.append_assoc, List.map_append, List.map_reverse]; rfl) (lv_room (by rw [qm_wt_eq]; exact Nat.le_of_ble_eq_true hb)) hd ⟨Nat.zero_le _, Nat.zero_le _⟩) a5 ?_
          rintro r1 g1 H1 locs1 ⟨rfl, rfl⟩ hok hh hS1
          have hn := hn H1 locs1 ls
          rcases r1 with _ | v
          · exact hn ⟨hh, a2, hS', a4, hS1⟩
          · exact hn ⟨hh, a2, qm_fa (hok v rfl) hS', a4, hS1⟩
end QMC
end
section
section QMM
variable {G : Type} {Λ : Nat → Nat → Nat} {V : Nat → Nat → Prop} {hold : State → G → Heap → Prop} {A : Nat → Prop} {l : Launch} {R : Room} {cc : ByteArray} {nL : Nat} {own : String} {Ts : List Cond} {ret : Option FieldType}
abbrev o_ic (v : Int32) : qm_op G := o_stk (f_c (.inl v))
abbrev o_lc (v : Int64) : qm_op G := o_stk (f_c (.inr (.inl v)))
theorem os_iconst {pc : Nat} {n : Int} {v : Int32} (hd : decode cc pc = .ok (.iconst n, 1)) (hv : Int32.ofInt n = v) : qm_K Λ V hold A l R cc nL own Ts ret pc (pc + 1) (o_ic v) := os_c trivial fun S p e s m args below meth c H locs Q ls C _ k => lv_iconst C.1 C.2.1 hd hv k
theorem os_bipush {pc : Nat} {n : Int} {v : Int32} (hd : decode cc pc = .ok (.bipush n, 2)) (hv : (Int8.ofInt n).toInt32 = v) : qm_K Λ V hold A l R cc nL own Ts ret pc (pc + 2) (o_ic v) := os_c trivial fun S p e s m args below meth c H locs Q ls C _ k => lv_bipush C.1 C.2.1 hd hv k
theorem os_sipush {pc : Nat} {n : Int} {v : Int32} (hd : decode cc pc = .ok (.sipush n, 3)) (hv : (Int16.ofInt n).toInt32 = v) : qm_K Λ V hold A l R cc nL own Ts ret pc (pc + 3) (o_ic v) := os_c trivial fun S p e s m args below meth c H locs Q ls C _ k => lv_sipush C.1 C.2.1 hd hv k
theorem os_lconst {pc : Nat} {n : Fin 2} {v : Int64} (hd : decode cc pc = .ok (.lconst n, 1)) (hv : Int64.ofNat (n : Nat) = v) : qm_K Λ V hold A l R cc nL own Ts ret pc (pc + 1) (o_lc v) := os_c trivial fun S p e s m args below meth c H locs Q ls C _ k => lv_lconst C.1 C.2.1 hd hv k
theorem os_ldc2 {pc idx : Nat} {v : Int64} (hd : decode cc pc = .ok (.ldc2_w idx, 3)) (hw : Cond.constantLong own idx v ∈ Ts) : qm_K Λ V hold A l R cc nL own Ts ret pc (pc + 3) (o_lc v) := os_c trivial fun S p e s m args below meth c H locs Q ls C _ k => lv_ldc2 C.1 C.2.1 C.2.2.2.1 (C.2.2.2.2 _ hw) hd k
abbrev o_iadd : qm_op G := o_stk (f_bi (fun x y => x + y))
theorem os_iadd {pc : Nat} (hd : decode cc pc = .ok (.iadd, 1)) : qm_K Λ V hold A l R cc nL own Ts ret pc (pc + 1) o_iadd := os_bi fun x y S p e s m args below meth c H locs Q ls C _ k => lv_iadd C.1 C.2.1 hd k
abbrev o_isub : qm_op G := o_stk (f_bi (fun x y => x - y))
theorem os_isub {pc : Nat} (hd : decode cc pc = .ok (.isub, 1)) : qm_K Λ V hold A l R cc nL own Ts ret pc (pc + 1) o_isub := os_bi fun x y S p e s m args below meth c H locs Q ls C _ k => lv_isub C.1 C.2.1 hd k
abbrev o_imul : qm_op G := o_stk (f_bi (fun x y => x * y))
theorem os_imul {pc : Nat} (hd : decode cc pc = .ok (.imul, 1)) : qm_K Λ V hold A l R cc nL own Ts ret pc (pc + 1) o_imul := os_bi fun x y S p e s m args below meth c H locs Q ls C _ k => lv_imul C.1 C.2.1 hd k
abbrev o_iand : qm_op G := o_stk (f_bi (fun x y => x &&& y))
theorem os_iand {pc : Nat} (hd : decode cc pc = .ok (.iand, 1)) : qm_K Λ V hold A l R cc nL own Ts ret pc (pc + 1) o_iand := os_bi fun x y S p e s m args below meth c H locs Q ls C _ k => lv_iand C.1 C.2.1 hd k
abbrev o_ior : qm_op G := o_stk (f_bi (fun x y => x ||| y))
theorem os_ior {pc : Nat} (hd : decode cc pc = .ok (.ior, 1)) : qm_K Λ V hold A l R cc nL own Ts ret pc (pc + 1) o_ior := os_bi fun x y S p e s m args below meth c H locs Q ls C _ k => lv_ior C.1 C.2.1 hd k
abbrev o_ixor : qm_op G := o_stk (f_bi (fun x y => x ^^^ y))
theorem os_ixor {pc : Nat} (hd : decode cc pc = .ok (.ixor, 1)) : qm_K Λ V hold A l R cc nL own Ts ret pc (pc + 1) o_ixor := os_bi fun x y S p e s m args below meth c H locs Q ls C _ k => lv_ixor C.1 C.2.1 hd k
abbrev o_ishl : qm_op G := o_stk (f_bi (fun x y => x <<< (y &&& 31)))
theorem os_ishl {pc : Nat} (hd : decode cc pc = .ok (.ishl, 1)) : qm_K Λ V hold A l R cc nL own Ts ret pc (pc + 1) o_ishl := os_bi fun x y S p e s m args below meth c H locs Q ls C _ k => lv_ishl C.1 C.2.1 hd k
abbrev o_ishr : qm_op G := o_stk (f_bi (fun x y => x >>> (y &&& 31)))
theorem os_ishr {pc : Nat} (hd : decode cc pc = .ok (.ishr, 1)) : qm_K Λ V hold A l R cc nL own Ts ret pc (pc + 1) o_ishr := os_bi fun x y S p e s m args below meth c H locs Q ls C _ k => lv_ishr C.1 C.2.1 hd k
abbrev o_ladd : qm_op G := o_stk (f_bl (fun x y => x + y))
theorem os_ladd {pc : Nat} (hd : decode cc pc = .ok (.ladd, 1)) : qm_K Λ V hold A l R cc nL own Ts ret pc (pc + 1) o_ladd := os_bl fun x y S p e s m args below meth c H locs Q ls C _ k => lv_ladd C.1 C.2.1 hd k
abbrev o_lsub : qm_op G := o_stk (f_bl (fun x y => x - y))
theorem os_lsub {pc : Nat} (hd : decode cc pc = .ok (.lsub, 1)) : qm_K Λ V hold A l R cc nL own Ts ret pc (pc + 1) o_lsub := os_bl fun x y S p e s m args below meth c H locs Q ls C _ k => lv_lsub C.1 C.2.1 hd k
abbrev o_lmul : qm_op G := o_stk (f_bl (fun x y => x * y))
theorem os_lmul {pc : Nat} (hd : decode cc pc = .ok (.lmul, 1)) : qm_K Λ V hold A l R cc nL own Ts ret pc (pc + 1) o_lmul := os_bl fun x y S p e s m args below meth c H locs Q ls C _ k => lv_lmul C.1 C.2.1 hd k
abbrev o_land : qm_op G := o_stk (f_bl (fun x y => x &&& y))
theorem os_land {pc : Nat} (hd : decode cc pc = .ok (.land, 1)) : qm_K Λ V hold A l R cc nL own Ts ret pc (pc + 1) o_land := os_bl fun x y S p e s m args below meth c H locs Q ls C _ k => lv_land C.1 C.2.1 hd k
abbrev o_lor : qm_op G := o_stk (f_bl (fun x y => x ||| y))
theorem os_lor {pc : Nat} (hd : decode cc pc = .ok (.lor, 1)) : qm_K Λ V hold A l R cc nL own Ts ret pc (pc + 1) o_lor := os_bl fun x y S p e s m args below meth c H locs Q ls C _ k => lv_lor C.1 C.2.1 hd k
abbrev o_ldiv : qm_op G := o_stk (f_dl (fun x y => x / y))
theorem os_ldiv {pc : Nat} (hd : decode cc pc = .ok (.ldiv, 1)) : qm_K Λ V hold A l R cc nL own Ts ret pc (pc + 1) o_ldiv := os_dl fun x y S hy p e s m args below meth c H locs Q ls C _ k => lv_ldiv C.1 C.2.1 hd hy k
abbrev o_lrem : qm_op G := o_stk (f_dl (fun x y => x - x / y * y))
theorem os_lrem {pc : Nat} (hd : decode cc pc = .ok (.lrem, 1)) : qm_K Λ V hold A l R cc nL own Ts ret pc (pc + 1) o_lrem := os_dl fun x y S hy p e s m args below meth c H locs Q ls C _ k => lv_lrem C.1 C.2.1 hd hy k
abbrev o_lshl : qm_op G := o_stk (f_sl (fun x y => x <<< (y.toInt64 &&& 63)))
theorem os_lshl {pc : Nat} (hd : decode cc pc = .ok (.lshl, 1)) : qm_K Λ V hold A l R cc nL own Ts ret pc (pc + 1) o_lshl := os_sl fun x y S p e s m args below meth c H locs Q ls C _ k => lv_lshl C.1 C.2.1 hd rfl k
abbrev o_lushr : qm_op G := o_stk (f_sl (fun x y => (x.toUInt64 >>> (y.toInt64.toUInt64 &&& Int64.toUInt64 63)).toInt64))
theorem os_lushr {pc : Nat} (hd : decode cc pc = .ok (.lushr, 1)) : qm_K Λ V hold A l R cc nL own Ts ret pc (pc + 1) o_lushr := os_sl fun x y S p e s m args below meth c H locs Q ls C _ k => lv_lushr C.1 C.2.1 hd rfl k
abbrev o_lneg : qm_op G := o_stk (f_ul (fun x => -x))
theorem os_lneg {pc : Nat} (hd : decode cc pc = .ok (.lneg, 1)) : qm_K Λ V hold A l R cc nL own Ts ret pc (pc + 1) o_lneg := os_ul fun x S p e s m args below meth c H locs Q ls C _ k => lv_lneg C.1 C.2.1 hd k
abbrev o_i2l : qm_op G := o_stk (f_il (fun x => x.toInt64))
theorem os_i2l {pc : Nat} (hd : decode cc pc = .ok (.i2l, 1)) : qm_K Λ V hold A l R cc nL own Ts ret pc (pc + 1) o_i2l := os_cil fun x S p e s m args below meth c H locs Q ls C _ k => lv_i2l C.1 C.2.1 hd rfl k
abbrev o_l2i : qm_op G := o_stk (f_li (fun x => x.toInt32))
theorem os_l2i {pc : Nat} (hd : decode cc pc = .ok (.l2i, 1)) : qm_K Λ V hold A l R cc nL own Ts ret pc (pc + 1) o_l2i := os_cli fun x S p e s m args below meth c H locs Q ls C _ k => lv_l2i C.1 C.2.1 hd rfl k
abbrev o_i2b : qm_op G := o_stk (f_ui (fun x => x.toInt8.toInt32))
theorem os_i2b {pc : Nat} (hd : decode cc pc = .ok (.i2b, 1)) : qm_K Λ V hold A l R cc nL own Ts ret pc (pc + 1) o_i2b := os_ui fun x S p e s m args below meth c H locs Q ls C _ k => lv_i2b C.1 C.2.1 hd rfl k
abbrev o_ifeq (tg : Nat) : qm_op G := o_br (t_i (fun x => x = 0) (fun x => ¬ x = 0)) tg
abbrev o_iceq (tg : Nat) : qm_op G := o_br (t_ii (fun x y => x = y) (fun x y => ¬ x = y)) tg
theorem os_ifeq {tg pc : Nat} {off : Int} (hd : decode cc pc = .ok (.ifCond .eq off, 3)) (ht : (pc : Int) + off = (tg : Int)) : qm_K Λ V hold A l R cc nL own Ts ret pc (pc + 3) (o_ifeq tg) := os_i (fun x S h p e s m args below meth c H locs Q ls C _ k => lv_if_eq C.1 C.2.1 hd ht (fun _ => k) (fun h2 => absurd h h2)) (fun x S h p e s m args below meth c H locs Q ls C _ k => lv_if_eq C.1 C.2.1 hd ht (fun h2 => absurd h2 h) (fun _ => k))
theorem os_iceq {tg pc : Nat} {off : Int} (hd : decode cc pc = .ok (.if_icmp .eq off, 3)) (ht : (pc : Int) + off = (tg : Int)) : qm_K Λ V hold A l R cc nL own Ts ret pc (pc + 3) (o_iceq tg) := os_ii (fun x y S h p e s m args below meth c H locs Q ls C _ k => lv_icmp_eq C.1 C.2.1 hd ht (fun _ => k) (fun h2 => absurd h h2)) (fun x y S h p e s m args below meth c H locs Q ls C _ k => lv_icmp_eq C.1 C.2.1 hd ht (fun h2 => absurd h2 h) (fun _ => k))
abbrev o_ifne (tg : Nat) : qm_op G := o_br (t_i (fun x => ¬ x = 0) (fun x => x = 0)) tg
abbrev o_icne (tg : Nat) : qm_op G := o_br (t_ii (fun x y => ¬ x = y) (fun x y => x = y)) tg
theorem os_ifne {tg pc : Nat} {off : Int} (hd : decode cc pc = .ok (.ifCond .ne off, 3)) (ht : (pc : Int) + off = (tg : Int)) : qm_K Λ V hold A l R cc nL own Ts ret pc (pc + 3) (o_ifne tg) := os_i (fun x S h p e s m args below meth c H locs Q ls C _ k => lv_if_ne C.1 C.2.1 hd ht (fun _ => k) (fun h2 => absurd h2 h)) (fun x S h p e s m args below meth c H locs Q ls C _ k => lv_if_ne C.1 C.2.1 hd ht (fun h2 => absurd h h2) (fun _ => k))
theorem os_icne {tg pc : Nat} {off : Int} (hd : decode cc pc = .ok (.if_icmp .ne off, 3)) (ht : (pc : Int) + off = (tg : Int)) : qm_K Λ V hold A l R cc nL own Ts ret pc (pc + 3) (o_icne tg) := os_ii (fun x y S h p e s m args below meth c H locs Q ls C _ k => lv_icmp_ne C.1 C.2.1 hd ht (fun _ => k) (fun h2 => absurd h2 h)) (fun x y S h p e s m args below meth c H locs Q ls C _ k => lv_icmp_ne C.1 C.2.1 hd ht (fun h2 => absurd h h2) (fun _ => k))
abbrev o_iflt (tg : Nat) : qm_op G := o_br (t_i (fun x => x < 0) (fun x => ¬ x < 0)) tg
abbrev o_iclt (tg : Nat) : qm_op G := o_br (t_ii (fun x y => x < y) (fun x y => ¬ x < y)) tg
theorem os_iflt {tg pc : Nat} {off : Int} (hd : decode cc pc = .ok (.ifCond .lt off, 3)) (ht : (pc : Int) + off = (tg : Int)) : qm_K Λ V hold A l R cc nL own Ts ret pc (pc + 3) (o_iflt tg) := os_i (fun x S h p e s m args below meth c H locs Q ls C _ k => lv_if_lt C.1 C.2.1 hd ht (fun _ => k) (fun h2 => absurd h h2)) (fun x S h p e s m args below meth c H locs Q ls C _ k => lv_if_lt C.1 C.2.1 hd ht (fun h2 => absurd h2 h) (fun _ => k))
theorem os_iclt {tg pc : Nat} {off : Int} (hd : decode cc pc = .ok (.if_icmp .lt off, 3)) (ht : (pc : Int) + off = (tg : Int)) : qm_K Λ V hold A l R cc nL own Ts ret pc (pc + 3) (o_iclt tg) := os_ii (fun x y S h p e s m args below meth c H locs Q ls C _ k => lv_icmp_lt C.1 C.2.1 hd ht (fun _ => k) (fun h2 => absurd h h2)) (fun x y S h p e s m args below meth c H locs Q ls C _ k => lv_icmp_lt C.1 C.2.1 hd ht (fun h2 => absurd h2 h) (fun _ => k))
abbrev o_ifge (tg : Nat) : qm_op G := o_br (t_i (fun x => 0 ≤ x) (fun x => ¬ 0 ≤ x)) tg
abbrev o_icge (tg : Nat) : qm_op G := o_br (t_ii (fun x y => y ≤ x) (fun x y => ¬ y ≤ x)) tg
theorem os_ifge {tg pc : Nat} {off : Int} (hd : decode cc pc = .ok (.ifCond .ge off, 3)) (ht : (pc : Int) + off = (tg : Int)) : qm_K Λ V hold A l R cc nL own Ts ret pc (pc + 3) (o_ifge tg) := os_i (fun x S h p e s m args below meth c H locs Q ls C _ k => lv_if_ge C.1 C.2.1 hd ht (fun _ => k) (fun h2 => absurd h h2)) (fun x S h p e s m args below meth c H locs Q ls C _ k => lv_if_ge C.1 C.2.1 hd ht (fun h2 => absurd h2 h) (fun _ => k))
theorem os_icge {tg pc : Nat} {off : Int} (hd : decode cc pc = .ok (.if_icmp .ge off, 3)) (ht : (pc : Int) + off = (tg : Int)) : qm_K Λ V hold A l R cc nL own Ts ret pc (pc + 3) (o_icge tg) := os_ii (fun x y S h p e s m args below meth c H locs Q ls C _ k => lv_icmp_ge C.1 C.2.1 hd ht (fun _ => k) (fun h2 => absurd h h2)) (fun x y S h p e s m args below meth c H locs Q ls C _ k => lv_icmp_ge C.1 C.2.1 hd ht (fun h2 => absurd h2 h) (fun _ => k))
abbrev o_ifgt (tg : Nat) : qm_op G := o_br (t_i (fun x => 0 < x) (fun x => ¬ 0 < x)) tg
abbrev o_icgt (tg : Nat) : qm_op G := o_br (t_ii (fun x y => y < x) (fun x y => ¬ y < x)) tg
theorem os_ifgt {tg pc : Nat} {off : Int} (hd : decode cc pc = .ok (.ifCond .gt off, 3)) (ht : (pc : Int) + off = (tg : Int)) : qm_K Λ V hold A l R cc nL own Ts ret pc (pc + 3) (o_ifgt tg) := os_i (fun x S h p e s m args below meth c H locs Q ls C _ k => lv_if_gt C.1 C.2.1 hd ht (fun _ => k) (fun h2 => absurd h h2)) (fun x S h p e s m args below meth c H locs Q ls C _ k => lv_if_gt C.1 C.2.1 hd ht (fun h2 => absurd h2 h) (fun _ => k))
theorem os_icgt {tg pc : Nat} {off : Int} (hd : decode cc pc = .ok (.if_icmp .gt off, 3)) (ht : (pc : Int) + off = (tg : Int)) : qm_K Λ V hold A l R cc nL own Ts ret pc (pc + 3) (o_icgt tg) := os_ii (fun x y S h p e s m args below meth c H locs Q ls C _ k => lv_icmp_gt C.1 C.2.1 hd ht (fun _ => k) (fun h2 => absurd h h2)) (fun x y S h p e s m args below meth c H locs Q ls C _ k => lv_icmp_gt C.1 C.2.1 hd ht (fun h2 => absurd h2 h) (fun _ => k))
abbrev o_ifle (tg : Nat) : qm_op G := o_br (t_i (fun x => x ≤ 0) (fun x => ¬ x ≤ 0)) tg
abbrev o_icle (tg : Nat) : qm_op G := o_br (t_ii (fun x y => x ≤ y) (fun x y => ¬ x ≤ y)) tg
theorem os_ifle {tg pc : Nat} {off : Int} (hd : decode cc pc = .ok (.ifCond .le off, 3)) (ht : (pc : Int) + off = (tg : Int)) : qm_K Λ V hold A l R cc nL own Ts ret pc (pc + 3) (o_ifle tg) := os_i (fun x S h p e s m args below meth c H locs Q ls C _ k => lv_if_le C.1 C.2.1 hd ht (fun _ => k) (fun h2 => absurd h h2)) (fun x S h p e s m args below meth c H locs Q ls C _ k => lv_if_le C.1 C.2.1 hd ht (fun h2 => absurd h2 h) (fun _ => k))
theorem os_icle {tg pc : Nat} {off : Int} (hd : decode cc pc = .ok (.if_icmp .le off, 3)) (ht : (pc : Int) + off = (tg : Int)) : qm_K Λ V hold A l R cc nL own Ts ret pc (pc + 3) (o_icle tg) := os_ii (fun x y S h p e s m args below meth c H locs Q ls C _ k => lv_icmp_le C.1 C.2.1 hd ht (fun _ => k) (fun h2 => absurd h h2)) (fun x y S h p e s m args below meth c H locs Q ls C _ k => lv_icmp_le C.1 C.2.1 hd ht (fun h2 => absurd h2 h) (fun _ => k))
def t_ll (f g : Int64 → Int64 → Prop) : List qm_v → Option (Prop × Prop × List qm_v)
  | .inr (.inl y) :: .inr (.inl x) :: S => some (f x y, g x y, S)
  | _ => none
theorem os_ll2 {f g : Int64 → Int64 → Prop} {tg pc nx : Nat} (h1 : ∀ (x y : Int64) (S : List qm_v), f x y → qm_row Λ l R cc nL own Ts pc tg (qL y :: qL x :: S) S) (h2 : ∀ (x y : Int64) (S : List qm_v), g x y → qm_row Λ l R cc nL own Ts pc nx (qL y :: qL x :: S) S) : qm_K Λ V hold A l R cc nL own Ts ret pc nx (o_br (t_ll f g) tg) := by
  refine os_br fun S ct cf S' hf => ?_
  rcases S with _ | ⟨y | y | y, _ | ⟨x | x | x, S⟩⟩ <;> cases hf
  exact ⟨fun k => (qm_fa2 (qm_fa2 k).2).2, h1 x y _, h2 x y _⟩
abbrev o_lceq (tg : Nat) : qm_op G := o_br (t_ll (fun x y => x = y) (fun x y => ¬ x = y)) tg
theorem os_lceq {tg pc : Nat} {off : Int} (hd : decode cc pc = .ok (.lcmp, 1)) (hd2 : decode cc (pc + 1) = .ok (.ifCond .eq off, 3)) (ht : ((pc + 1 : Nat) : Int) + off = (tg : Int)) : qm_K Λ V hold A l R cc nL own Ts ret pc (pc + 4) (o_lceq tg) := os_ll2 (fun x y S h p e s m args below meth c H locs Q ls C _ k => W.lcmp C.1 C.2.1 hd (lv_if_eq C.1 C.2.1 hd2 ht (fun _ => k) (fun h2 => absurd ((lg_cmp_eq x y).mpr h) h2))) (fun x y S h p e s m args below meth c H locs Q ls C _ k => W.lcmp C.1 C.2.1 hd (lv_if_eq C.1 C.2.1 hd2 ht (fun h2 => absurd ((lg_cmp_eq x y).mp h2) h) (fun _ => k)))
abbrev o_lcne (tg : Nat) : qm_op G := o_br (t_ll (fun x y => ¬ x = y) (fun x y => x = y)) tg
theorem os_lcne {tg pc : Nat} {off : Int} (hd : decode cc pc = .ok (.lcmp, 1)) (hd2 : decode cc (pc + 1) = .ok (.ifCond .ne off, 3)) (ht : ((pc + 1 : Nat) : Int) + off = (tg : Int)) : qm_K Λ V hold A l R cc nL own Ts ret pc (pc + 4) (o_lcne tg) := os_ll2 (fun x y S h p e s m args below meth c H locs Q ls C _ k => W.lcmp C.1 C.2.1 hd (lv_if_ne C.1 C.2.1 hd2 ht (fun _ => k) (fun h2 => absurd ((lg_cmp_eq x y).mp h2) h))) (fun x y S h p e s m args below meth c H locs Q ls C _ k => W.lcmp C.1 C.2.1 hd (lv_if_ne C.1 C.2.1 hd2 ht (fun h2 => absurd ((lg_cmp_eq x y).mpr h) h2) (fun _ => k)))
abbrev o_lclt (tg : Nat) : qm_op G := o_br (t_ll (fun x y => x < y) (fun x y => ¬ x < y)) tg
theorem os_lclt {tg pc : Nat} {off : Int} (hd : decode cc pc = .ok (.lcmp, 1)) (hd2 : decode cc (pc + 1) = .ok (.ifCond .lt off, 3)) (ht : ((pc + 1 : Nat) : Int) + off = (tg : Int)) : qm_K Λ V hold A l R cc nL own Ts ret pc (pc + 4) (o_lclt tg) := os_ll2 (fun x y S h p e s m args below meth c H locs Q ls C _ k => W.lcmp C.1 C.2.1 hd (lv_if_lt C.1 C.2.1 hd2 ht (fun _ => k) (fun h2 => absurd ((lg_cmp_lt x y).mpr h) h2))) (fun x y S h p e s m args below meth c H locs Q ls C _ k => W.lcmp C.1 C.2.1 hd (lv_if_lt C.1 C.2.1 hd2 ht (fun h2 => absurd ((lg_cmp_lt x y).mp h2) h) (fun _ => k)))
abbrev o_lcge (tg : Nat) : qm_op G := o_br (t_ll (fun x y => y ≤ x) (fun x y => ¬ y ≤ x)) tg
theorem os_lcge {tg pc : Nat} {off : Int} (hd : decode cc pc = .ok (.lcmp, 1)) (hd2 : decode cc (pc + 1) = .ok (.ifCond .ge off, 3)) (ht : ((pc + 1 : Nat) : Int) + off = (tg : Int)) : qm_K Λ V hold A l R cc nL own Ts ret pc (pc + 4) (o_lcge tg) := os_ll2 (fun x y S h p e s m args below meth c H locs Q ls C _ k => W.lcmp C.1 C.2.1 hd (lv_if_ge C.1 C.2.1 hd2 ht (fun _ => k) (fun h2 => absurd ((lg_cmp_ge x y).mpr h) h2))) (fun x y S h p e s m args below meth c H locs Q ls C _ k => W.lcmp C.1 C.2.1 hd (lv_if_ge C.1 C.2.1 hd2 ht (fun h2 => absurd ((lg_cmp_ge x y).mp h2) h) (fun _ => k)))
abbrev o_lcgt (tg : Nat) : qm_op G := o_br (t_ll (fun x y => y < x) (fun x y => ¬ y < x)) tg
theorem os_lcgt {tg pc : Nat} {off : Int} (hd : decode cc pc = .ok (.lcmp, 1)) (hd2 : decode cc (pc + 1) = .ok (.ifCond .gt off, 3)) (ht : ((pc + 1 : Nat) : Int) + off = (tg : Int)) : qm_K Λ V hold A l R cc nL own Ts ret pc (pc + 4) (o_lcgt tg) := os_ll2 (fun x y S h p e s m args below meth c H locs Q ls C _ k => W.lcmp C.1 C.2.1 hd (lv_if_gt C.1 C.2.1 hd2 ht (fun _ => k) (fun h2 => absurd ((lg_cmp_gt x y).mpr h) h2))) (fun x y S h p e s m args below meth c H locs Q ls C _ k => W.lcmp C.1 C.2.1 hd (lv_if_gt C.1 C.2.1 hd2 ht (fun h2 => absurd ((lg_cmp_gt x y).mp h2) h) (fun _ => k)))
abbrev o_lcle (tg : Nat) : qm_op G := o_br (t_ll (fun x y => x ≤ y) (fun x y => ¬ x ≤ y)) tg
theorem os_lcle {tg pc : Nat} {off : Int} (hd : decode cc pc = .ok (.lcmp, 1)) (hd2 : decode cc (pc + 1) = .ok (.ifCond .le off, 3)) (ht : ((pc + 1 : Nat) : Int) + off = (tg : Int)) : qm_K Λ V hold A l R cc nL own Ts ret pc (pc + 4) (o_lcle tg) := os_ll2 (fun x y S h p e s m args below meth c H locs Q ls C _ k => W.lcmp C.1 C.2.1 hd (lv_if_le C.1 C.2.1 hd2 ht (fun _ => k) (fun h2 => absurd ((lg_cmp_le x y).mpr h) h2))) (fun x y S h p e s m args below meth c H locs Q ls C _ k => W.lcmp C.1 C.2.1 hd (lv_if_le C.1 C.2.1 hd2 ht (fun h2 => absurd ((lg_cmp_le x y).mp h2) h) (fun _ => k)))
def f_biw (f : Int32 → Int32 → Int32) : List qm_v → Option (List Prop × List qm_v)
  | .inl y :: .inl x :: S => match Nat.ble (qm_wt S) 8 with
    | true => some ([], .inl (f x y) :: S)
    | false => none
  | _ => none
def f_blw (f : Int64 → Int64 → Int64) : List qm_v → Option (List Prop × List qm_v)
  | .inr (.inl y) :: .inr (.inl x) :: S => match Nat.ble (qm_wt S) 8 with
    | true => some ([], .inr (.inl (f x y)) :: S)
    | false => none
  | _ => none
def f_ulw (f : Int64 → Int64) : List qm_v → Option (List Prop × List qm_v)
  | .inr (.inl x) :: S => match Nat.ble (qm_wt S) 8 with
    | true => some ([], .inr (.inl (f x)) :: S)
    | false => none
  | _ => none
theorem os_biw {f : Int32 → Int32 → Int32} {pc nx : Nat} (h : ∀ (x y : Int32) (S : List qm_v), qm_wt S ≤ 8 → qm_row Λ l R cc nL own Ts pc nx (qI y :: qI x :: S) (qI (f x y) :: S)) : qm_K Λ V hold A l R cc nL own Ts ret pc nx (o_stk (f_biw f)) := by
  refine os_stk fun S cs S' hf hc => ?_
  rcases S with _ | ⟨y | y, _ | ⟨x | x, S⟩⟩ <;> try cases hf
  unfold f_biw at hf
  dsimp only at hf
  cases hb : Nat.ble (qm_wt S) 8 <;> rw [hb] at hf <;> cases hf
  exact ⟨fun k => qm_fa trivial (qm_fa2 (qm_fa2 k).2).2, h x y S (Nat.le_of_ble_eq_true hb)⟩
theorem os_blw {f : Int64 → Int64 → Int64} {pc nx : Nat} (h : ∀ (x y : Int64) (S : List qm_v), qm_wt S ≤ 8 → qm_row Λ l R cc nL own Ts pc nx (qL y :: qL x :: S) (qL (f x y) :: S)) : qm_K Λ V hold A l R cc nL own Ts ret pc nx (o_stk (f_blw f)) := by
  refine os_stk fun S cs S' hf hc => ?_
  rcases S with _ | ⟨y | y | y, _ | ⟨x | x | x, S⟩⟩ <;> try cases hf
  unfold f_blw at hf
  dsimp only at hf
  cases hb : Nat.ble (qm_wt S) 8 <;> rw [hb] at hf <;> cases hf
  exact ⟨fun k => qm_fa trivial (qm_fa2 (qm_fa2 k).2).2, h x y S (Nat.le_of_ble_eq_true hb)⟩
theorem os_ulw {f : Int64 → Int64} {pc nx : Nat} (h : ∀ (x : Int64) (S : List qm_v), qm_wt S ≤ 8 → qm_row Λ l R cc nL own Ts pc nx (qL x :: S) (qL (f x) :: S)) : qm_K Λ V hold A l R cc nL own Ts ret pc nx (o_stk (f_ulw f)) := by
  refine os_stk fun S cs S' hf hc => ?_
  rcases S with _ | ⟨x | x | x, S⟩ <;> try cases hf
  unfold f_ulw at hf
  dsimp only at hf
  cases hb : Nat.ble (qm_wt S) 8 <;> rw [hb] at hf <;> cases hf
  exact ⟨fun k => qm_fa trivial (qm_fa2 k).2, h x S (Nat.le_of_ble_eq_true hb)⟩
abbrev o_imax : qm_op G := o_stk (f_biw (fun x y => if x < y then y else x))
theorem os_imax {pc idx : Nat} (hd : decode cc pc = .ok (.invokestatic idx, 3)) (w1 : Cond.methodLink own idx Lib.Math.max.name ∈ Ts) (w2 : Cond.static Lib.Math.max.name ∈ Ts) (w3 : Cond.initialized "java/lang/Math" ∈ Ts) (w4 : Cond.code Lib.Math.max.name Lib.Math.max.code 2 (some .int) ∈ Ts) (hf : 1 ≤ R.frames) (hl : 21 ≤ R.locals) : qm_K Λ V hold A l R cc nL own Ts ret pc (pc + 3) o_imax := os_biw fun x y S hS p e s m args below meth c H locs Q ls C hz k => va_mmax C.1 C.2.1 (C.2.2.1.trans hz.symm) C.2.2.2.1 (C.2.2.2.2 _ w1) (C.2.2.2.2 _ w2) (C.2.2.2.2 _ w3) (C.2.2.2.2 _ w4) hf (by rw [qm_wt_eq]; omega) (Nat.zero_le _) (Nat.zero_le _) hd k
abbrev o_imin : qm_op G := o_stk (f_biw (fun x y => if y < x then y else x))
theorem os_imin {pc idx : Nat} (hd : decode cc pc = .ok (.invokestatic idx, 3)) (w1 : Cond.methodLink own idx Lib.Math.min.name ∈ Ts) (w2 : Cond.static Lib.Math.min.name ∈ Ts) (w3 : Cond.initialized "java/lang/Math" ∈ Ts) (w4 : Cond.code Lib.Math.min.name Lib.Math.min.code 2 (some .int) ∈ Ts) (hf : 1 ≤ R.frames) (hl : 21 ≤ R.locals) : qm_K Λ V hold A l R cc nL own Ts ret pc (pc + 3) o_imin := os_biw fun x y S hS p e s m args below meth c H locs Q ls C hz k => va_mmin C.1 C.2.1 (C.2.2.1.trans hz.symm) C.2.2.2.1 (C.2.2.2.2 _ w1) (C.2.2.2.2 _ w2) (C.2.2.2.2 _ w3) (C.2.2.2.2 _ w4) hf (by rw [qm_wt_eq]; omega) (Nat.zero_le _) (Nat.zero_le _) hd k
abbrev o_lmax : qm_op G := o_stk (f_blw (fun x y => if y < x then x else y))
theorem os_lmax {pc idx : Nat} (hd : decode cc pc = .ok (.invokestatic idx, 3)) (w1 : Cond.methodLink own idx Lib.MathLoose.max_long.x ∈ Ts) (w2 : Cond.static Lib.MathLoose.max_long.x ∈ Ts) (w3 : Cond.initialized "java/lang/Math" ∈ Ts) (w4 : Cond.code Lib.MathLoose.max_long.x Lib.MathLoose.max_long.code 4 (some .long) ∈ Ts) (hf : 1 ≤ R.frames) (hl : 23 ≤ R.locals) : qm_K Λ V hold A l R cc nL own Ts ret pc (pc + 3) o_lmax := os_blw fun x y S hS p e s m args below meth c H locs Q ls C hz k => va_mmax_long C.1 C.2.1 (C.2.2.1.trans hz.symm) C.2.2.2.1 (C.2.2.2.2 _ w1) (C.2.2.2.2 _ w2) (C.2.2.2.2 _ w3) (C.2.2.2.2 _ w4) hf (by rw [qm_wt_eq]; omega) (Nat.zero_le _) (Nat.zero_le _) hd k
abbrev o_lmin : qm_op G := o_stk (f_blw (fun x y => if y < x then y else x))
theorem os_lmin {pc idx : Nat} (hd : decode cc pc = .ok (.invokestatic idx, 3)) (w1 : Cond.methodLink own idx Lib.MathLoose.min_long.x ∈ Ts) (w2 : Cond.static Lib.MathLoose.min_long.x ∈ Ts) (w3 : Cond.initialized "java/lang/Math" ∈ Ts) (w4 : Cond.code Lib.MathLoose.min_long.x Lib.MathLoose.min_long.code 4 (some .long) ∈ Ts) (hf : 1 ≤ R.frames) (hl : 23 ≤ R.locals) : qm_K Λ V hold A l R cc nL own Ts ret pc (pc + 3) o_lmin := os_blw fun x y S hS p e s m args below meth c H locs Q ls C hz k => va_mmin_long C.1 C.2.1 (C.2.2.1.trans hz.symm) C.2.2.2.1 (C.2.2.2.2 _ w1) (C.2.2.2.2 _ w2) (C.2.2.2.2 _ w3) (C.2.2.2.2 _ w4) hf (by rw [qm_wt_eq]; omega) (Nat.zero_le _) (Nat.zero_le _) hd k
abbrev o_labs : qm_op G := o_stk (f_ulw (fun x => if 0 < x then x else -x))
theorem os_labs {pc idx : Nat} (hd : decode cc pc = .ok (.invokestatic idx, 3)) (w1 : Cond.methodLink own idx Lib.MathLoose.abs_long.x ∈ Ts) (w2 : Cond.static Lib.MathLoose.abs_long.x ∈ Ts) (w3 : Cond.initialized "java/lang/Math" ∈ Ts) (w4 : Cond.code Lib.MathLoose.abs_long.x Lib.MathLoose.abs_long.code 2 (some .long) ∈ Ts) (hf : 1 ≤ R.frames) (hl : 21 ≤ R.locals) : qm_K Λ V hold A l R cc nL own Ts ret pc (pc + 3) o_labs := os_ulw fun x S hS p e s m args below meth c H locs Q ls C hz k => va_mabs_long C.1 C.2.1 (C.2.2.1.trans hz.symm) C.2.2.2.1 (C.2.2.2.2 _ w1) (C.2.2.2.2 _ w2) (C.2.2.2.2 _ w3) (C.2.2.2.2 _ w4) hf (by rw [qm_wt_eq]; omega) (Nat.zero_le _) (Nat.zero_le _) hd k
end QMM
end
