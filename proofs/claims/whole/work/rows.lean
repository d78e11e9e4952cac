section
-- ===== PART A: goes FIRST, ahead of the names: the tables' words, and 'selects' of the private methods out of them =====
/-- a private method of a class that the tables say can be made, by its rows of tables_1 -/
def lw_okq (q : MethodName × Nat) : Prop := (q.1.cls ≠ "java/lang/invoke/MethodHandle" ∧ q.1.cls ≠ "java/lang/invoke/VarHandle") ∧ Cond.instantiable q.1.cls q.2 ∈ tables_1 ∧ Cond.privateMethod q.1 ∈ tables_1 ∧ Cond.instanceMethod q.1 ∈ tables_1
theorem lw_p0 : lw_okq (⟨"FunctionRows", "isExpression", "(I)Z"⟩, 7) := ⟨⟨by decide +kernel, by decide +kernel⟩, List.mem_of_getElem? (i := 16) (by decide +kernel), List.mem_of_getElem? (i := 254) (by decide +kernel), List.mem_of_getElem? (i := 255) (by decide +kernel)⟩
theorem lw_p1 : lw_okq (⟨"FunctionRows", "reckon", "(LFunctionRows$Expression;)V"⟩, 7) := ⟨⟨by decide +kernel, by decide +kernel⟩, List.mem_of_getElem? (i := 16) (by decide +kernel), List.mem_of_getElem? (i := 279) (by decide +kernel), List.mem_of_getElem? (i := 280) (by decide +kernel)⟩
theorem lw_p2 : lw_okq (⟨"FunctionRows$Search", "begin", "()V"⟩, 14) := ⟨⟨by decide +kernel, by decide +kernel⟩, List.mem_of_getElem? (i := 70) (by decide +kernel), List.mem_of_getElem? (i := 297) (by decide +kernel), List.mem_of_getElem? (i := 298) (by decide +kernel)⟩
theorem lw_p3 : lw_okq (⟨"FunctionRows$Search", "newState", "()I"⟩, 14) := ⟨⟨by decide +kernel, by decide +kernel⟩, List.mem_of_getElem? (i := 70) (by decide +kernel), List.mem_of_getElem? (i := 301) (by decide +kernel), List.mem_of_getElem? (i := 302) (by decide +kernel)⟩
theorem lw_p4 : lw_okq (⟨"FunctionRows$Search", "read", "(LFunctionRows$Value;LFunctionRows$Value;)Z"⟩, 14) := ⟨⟨by decide +kernel, by decide +kernel⟩, List.mem_of_getElem? (i := 70) (by decide +kernel), List.mem_of_getElem? (i := 308) (by decide +kernel), List.mem_of_getElem? (i := 309) (by decide +kernel)⟩
theorem lw_p5 : lw_okq (⟨"FunctionRows$Search", "openGroup", "()Z"⟩, 14) := ⟨⟨by decide +kernel, by decide +kernel⟩, List.mem_of_getElem? (i := 70) (by decide +kernel), List.mem_of_getElem? (i := 316) (by decide +kernel), List.mem_of_getElem? (i := 317) (by decide +kernel)⟩
theorem lw_p6 : lw_okq (⟨"FunctionRows$Search", "enter", "()I"⟩, 14) := ⟨⟨by decide +kernel, by decide +kernel⟩, List.mem_of_getElem? (i := 70) (by decide +kernel), List.mem_of_getElem? (i := 320) (by decide +kernel), List.mem_of_getElem? (i := 321) (by decide +kernel)⟩
theorem lw_p7 : lw_okq (⟨"FunctionRows$Search", "connect", "(IIII)V"⟩, 14) := ⟨⟨by decide +kernel, by decide +kernel⟩, List.mem_of_getElem? (i := 70) (by decide +kernel), List.mem_of_getElem? (i := 324) (by decide +kernel), List.mem_of_getElem? (i := 325) (by decide +kernel)⟩
theorem lw_p8 : lw_okq (⟨"FunctionRows$Search", "closeGroup", "(LFunctionRows$Value;)Z"⟩, 14) := ⟨⟨by decide +kernel, by decide +kernel⟩, List.mem_of_getElem? (i := 70) (by decide +kernel), List.mem_of_getElem? (i := 328) (by decide +kernel), List.mem_of_getElem? (i := 329) (by decide +kernel)⟩
theorem lw_p9 : lw_okq (⟨"FunctionRows$Search", "repeat", "(IILFunctionRows$Value;)V"⟩, 14) := ⟨⟨by decide +kernel, by decide +kernel⟩, List.mem_of_getElem? (i := 70) (by decide +kernel), List.mem_of_getElem? (i := 332) (by decide +kernel), List.mem_of_getElem? (i := 333) (by decide +kernel)⟩
theorem lw_p10 : lw_okq (⟨"FunctionRows$Search", "anchor", "(I)Z"⟩, 14) := ⟨⟨by decide +kernel, by decide +kernel⟩, List.mem_of_getElem? (i := 70) (by decide +kernel), List.mem_of_getElem? (i := 336) (by decide +kernel), List.mem_of_getElem? (i := 337) (by decide +kernel)⟩
theorem lw_p11 : lw_okq (⟨"FunctionRows$Search", "atom", "(ILFunctionRows$Value;)Z"⟩, 14) := ⟨⟨by decide +kernel, by decide +kernel⟩, List.mem_of_getElem? (i := 70) (by decide +kernel), List.mem_of_getElem? (i := 343) (by decide +kernel), List.mem_of_getElem? (i := 344) (by decide +kernel)⟩
theorem lw_p12 : lw_okq (⟨"FunctionRows$Search", "readItems", "(LFunctionRows$Value;LFunctionRows$Value;)I"⟩, 14) := ⟨⟨by decide +kernel, by decide +kernel⟩, List.mem_of_getElem? (i := 70) (by decide +kernel), List.mem_of_getElem? (i := 347) (by decide +kernel), List.mem_of_getElem? (i := 348) (by decide +kernel)⟩
theorem lw_p13 : lw_okq (⟨"FunctionRows$Search", "readEscaped", "(LFunctionRows$Value;LFunctionRows$Value;)I"⟩, 14) := ⟨⟨by decide +kernel, by decide +kernel⟩, List.mem_of_getElem? (i := 70) (by decide +kernel), List.mem_of_getElem? (i := 354) (by decide +kernel), List.mem_of_getElem? (i := 355) (by decide +kernel)⟩
theorem lw_p14 : lw_okq (⟨"FunctionRows$Search", "spread", "(LFunctionRows$Value;)V"⟩, 14) := ⟨⟨by decide +kernel, by decide +kernel⟩, List.mem_of_getElem? (i := 70) (by decide +kernel), List.mem_of_getElem? (i := 358) (by decide +kernel), List.mem_of_getElem? (i := 359) (by decide +kernel)⟩
theorem lw_p15 : lw_okq (⟨"FunctionRowsModel", "add", "(IJ)I"⟩, 17) := ⟨⟨by decide +kernel, by decide +kernel⟩, List.mem_of_getElem? (i := 595) (by decide +kernel), List.mem_of_getElem? (i := 670) (by decide +kernel), List.mem_of_getElem? (i := 671) (by decide +kernel)⟩
def lw_privs_1 : List (MethodName × Nat) := [(⟨"FunctionRows", "isExpression", "(I)Z"⟩, 7), (⟨"FunctionRows", "reckon", "(LFunctionRows$Expression;)V"⟩, 7), (⟨"FunctionRows$Search", "begin", "()V"⟩, 14), (⟨"FunctionRows$Search", "newState", "()I"⟩, 14), (⟨"FunctionRows$Search", "read", "(LFunctionRows$Value;LFunctionRows$Value;)Z"⟩, 14), (⟨"FunctionRows$Search", "openGroup", "()Z"⟩, 14), (⟨"FunctionRows$Search", "enter", "()I"⟩, 14), (⟨"FunctionRows$Search", "connect", "(IIII)V"⟩, 14), (⟨"FunctionRows$Search", "closeGroup", "(LFunctionRows$Value;)Z"⟩, 14), (⟨"FunctionRows$Search", "repeat", "(IILFunctionRows$Value;)V"⟩, 14), (⟨"FunctionRows$Search", "anchor", "(I)Z"⟩, 14), (⟨"FunctionRows$Search", "atom", "(ILFunctionRows$Value;)Z"⟩, 14), (⟨"FunctionRows$Search", "readItems", "(LFunctionRows$Value;LFunctionRows$Value;)I"⟩, 14), (⟨"FunctionRows$Search", "readEscaped", "(LFunctionRows$Value;LFunctionRows$Value;)I"⟩, 14), (⟨"FunctionRows$Search", "spread", "(LFunctionRows$Value;)V"⟩, 14), (⟨"FunctionRowsModel", "add", "(IJ)I"⟩, 17)]
theorem lw_r1 : ∀ q ∈ lw_privs_1, lw_okq q := List.forall_mem_cons.mpr ⟨lw_p0, List.forall_mem_cons.mpr ⟨lw_p1, List.forall_mem_cons.mpr ⟨lw_p2, List.forall_mem_cons.mpr ⟨lw_p3, List.forall_mem_cons.mpr ⟨lw_p4, List.forall_mem_cons.mpr ⟨lw_p5, List.forall_mem_cons.mpr ⟨lw_p6, List.forall_mem_cons.mpr ⟨lw_p7, List.forall_mem_cons.mpr ⟨lw_p8, List.forall_mem_cons.mpr ⟨lw_p9, List.forall_mem_cons.mpr ⟨lw_p10, List.forall_mem_cons.mpr ⟨lw_p11, List.forall_mem_cons.mpr ⟨lw_p12, List.forall_mem_cons.mpr ⟨lw_p13, List.forall_mem_cons.mpr ⟨lw_p14, List.forall_mem_cons.mpr ⟨lw_p15, fun _ h => absurd h List.not_mem_nil⟩⟩⟩⟩⟩⟩⟩⟩⟩⟩⟩⟩⟩⟩⟩⟩
theorem lw_p16 : lw_okq (⟨"FunctionRowsModel", "isExpression", "(I)Z"⟩, 17) := ⟨⟨by decide +kernel, by decide +kernel⟩, List.mem_of_getElem? (i := 595) (by decide +kernel), List.mem_of_getElem? (i := 698) (by decide +kernel), List.mem_of_getElem? (i := 699) (by decide +kernel)⟩
theorem lw_p17 : lw_okq (⟨"FunctionRowsModel", "reckon", "(I)V"⟩, 17) := ⟨⟨by decide +kernel, by decide +kernel⟩, List.mem_of_getElem? (i := 595) (by decide +kernel), List.mem_of_getElem? (i := 706) (by decide +kernel), List.mem_of_getElem? (i := 707) (by decide +kernel)⟩
theorem lw_p18 : lw_okq (⟨"FunctionRowsModel", "copy", "(II)V"⟩, 17) := ⟨⟨by decide +kernel, by decide +kernel⟩, List.mem_of_getElem? (i := 595) (by decide +kernel), List.mem_of_getElem? (i := 710) (by decide +kernel), List.mem_of_getElem? (i := 711) (by decide +kernel)⟩
theorem lw_p19 : lw_okq (⟨"FunctionRowsModel", "set", "(IIJ)V"⟩, 17) := ⟨⟨by decide +kernel, by decide +kernel⟩, List.mem_of_getElem? (i := 595) (by decide +kernel), List.mem_of_getElem? (i := 714) (by decide +kernel), List.mem_of_getElem? (i := 715) (by decide +kernel)⟩
theorem lw_p20 : lw_okq (⟨"FunctionRowsModel", "truths", "(IIII)V"⟩, 17) := ⟨⟨by decide +kernel, by decide +kernel⟩, List.mem_of_getElem? (i := 595) (by decide +kernel), List.mem_of_getElem? (i := 718) (by decide +kernel), List.mem_of_getElem? (i := 719) (by decide +kernel)⟩
theorem lw_p21 : lw_okq (⟨"FunctionRowsModel", "truth", "(I)I"⟩, 17) := ⟨⟨by decide +kernel, by decide +kernel⟩, List.mem_of_getElem? (i := 595) (by decide +kernel), List.mem_of_getElem? (i := 722) (by decide +kernel), List.mem_of_getElem? (i := 723) (by decide +kernel)⟩
theorem lw_p22 : lw_okq (⟨"FunctionRowsModel", "setTruth", "(II)V"⟩, 17) := ⟨⟨by decide +kernel, by decide +kernel⟩, List.mem_of_getElem? (i := 595) (by decide +kernel), List.mem_of_getElem? (i := 726) (by decide +kernel), List.mem_of_getElem? (i := 727) (by decide +kernel)⟩
theorem lw_p23 : lw_okq (⟨"FunctionRowsModel", "same", "(II)I"⟩, 17) := ⟨⟨by decide +kernel, by decide +kernel⟩, List.mem_of_getElem? (i := 595) (by decide +kernel), List.mem_of_getElem? (i := 730) (by decide +kernel), List.mem_of_getElem? (i := 731) (by decide +kernel)⟩
theorem lw_p24 : lw_okq (⟨"FunctionRowsModel", "length", "(I)I"⟩, 17) := ⟨⟨by decide +kernel, by decide +kernel⟩, List.mem_of_getElem? (i := 595) (by decide +kernel), List.mem_of_getElem? (i := 734) (by decide +kernel), List.mem_of_getElem? (i := 735) (by decide +kernel)⟩
theorem lw_p25 : lw_okq (⟨"FunctionRowsModel", "byteAt", "(II)I"⟩, 17) := ⟨⟨by decide +kernel, by decide +kernel⟩, List.mem_of_getElem? (i := 595) (by decide +kernel), List.mem_of_getElem? (i := 738) (by decide +kernel), List.mem_of_getElem? (i := 739) (by decide +kernel)⟩
theorem lw_p26 : lw_okq (⟨"FunctionRowsModel", "less", "(II)I"⟩, 17) := ⟨⟨by decide +kernel, by decide +kernel⟩, List.mem_of_getElem? (i := 595) (by decide +kernel), List.mem_of_getElem? (i := 742) (by decide +kernel), List.mem_of_getElem? (i := 743) (by decide +kernel)⟩
theorem lw_p27 : lw_okq (⟨"FunctionRowsModel", "arithmetic", "(IIJJ)V"⟩, 17) := ⟨⟨by decide +kernel, by decide +kernel⟩, List.mem_of_getElem? (i := 595) (by decide +kernel), List.mem_of_getElem? (i := 746) (by decide +kernel), List.mem_of_getElem? (i := 747) (by decide +kernel)⟩
theorem lw_p28 : lw_okq (⟨"FunctionRowsModel", "setWhole", "(IJ)V"⟩, 17) := ⟨⟨by decide +kernel, by decide +kernel⟩, List.mem_of_getElem? (i := 595) (by decide +kernel), List.mem_of_getElem? (i := 750) (by decide +kernel), List.mem_of_getElem? (i := 751) (by decide +kernel)⟩
theorem lw_p29 : lw_okq (⟨"FunctionRowsModel", "texts", "(IIIII)V"⟩, 17) := ⟨⟨by decide +kernel, by decide +kernel⟩, List.mem_of_getElem? (i := 595) (by decide +kernel), List.mem_of_getElem? (i := 754) (by decide +kernel), List.mem_of_getElem? (i := 755) (by decide +kernel)⟩
theorem lw_p30 : lw_okq (⟨"FunctionRowsModel", "setPart", "(IIIII)V"⟩, 17) := ⟨⟨by decide +kernel, by decide +kernel⟩, List.mem_of_getElem? (i := 595) (by decide +kernel), List.mem_of_getElem? (i := 760) (by decide +kernel), List.mem_of_getElem? (i := 761) (by decide +kernel)⟩
theorem lw_p31 : lw_okq (⟨"FunctionRowsModel", "sayAll", "(II)V"⟩, 17) := ⟨⟨by decide +kernel, by decide +kernel⟩, List.mem_of_getElem? (i := 595) (by decide +kernel), List.mem_of_getElem? (i := 764) (by decide +kernel), List.mem_of_getElem? (i := 765) (by decide +kernel)⟩
def lw_privs_2 : List (MethodName × Nat) := [(⟨"FunctionRowsModel", "isExpression", "(I)Z"⟩, 17), (⟨"FunctionRowsModel", "reckon", "(I)V"⟩, 17), (⟨"FunctionRowsModel", "copy", "(II)V"⟩, 17), (⟨"FunctionRowsModel", "set", "(IIJ)V"⟩, 17), (⟨"FunctionRowsModel", "truths", "(IIII)V"⟩, 17), (⟨"FunctionRowsModel", "truth", "(I)I"⟩, 17), (⟨"FunctionRowsModel", "setTruth", "(II)V"⟩, 17), (⟨"FunctionRowsModel", "same", "(II)I"⟩, 17), (⟨"FunctionRowsModel", "length", "(I)I"⟩, 17), (⟨"FunctionRowsModel", "byteAt", "(II)I"⟩, 17), (⟨"FunctionRowsModel", "less", "(II)I"⟩, 17), (⟨"FunctionRowsModel", "arithmetic", "(IIJJ)V"⟩, 17), (⟨"FunctionRowsModel", "setWhole", "(IJ)V"⟩, 17), (⟨"FunctionRowsModel", "texts", "(IIIII)V"⟩, 17), (⟨"FunctionRowsModel", "setPart", "(IIIII)V"⟩, 17), (⟨"FunctionRowsModel", "sayAll", "(II)V"⟩, 17)]
theorem lw_r2 : ∀ q ∈ lw_privs_2, lw_okq q := List.forall_mem_cons.mpr ⟨lw_p16, List.forall_mem_cons.mpr ⟨lw_p17, List.forall_mem_cons.mpr ⟨lw_p18, List.forall_mem_cons.mpr ⟨lw_p19, List.forall_mem_cons.mpr ⟨lw_p20, List.forall_mem_cons.mpr ⟨lw_p21, List.forall_mem_cons.mpr ⟨lw_p22, List.forall_mem_cons.mpr ⟨lw_p23, List.forall_mem_cons.mpr ⟨lw_p24, List.forall_mem_cons.mpr ⟨lw_p25, List.forall_mem_cons.mpr ⟨lw_p26, List.forall_mem_cons.mpr ⟨lw_p27, List.forall_mem_cons.mpr ⟨lw_p28, List.forall_mem_cons.mpr ⟨lw_p29, List.forall_mem_cons.mpr ⟨lw_p30, List.forall_mem_cons.mpr ⟨lw_p31, fun _ h => absurd h List.not_mem_nil⟩⟩⟩⟩⟩⟩⟩⟩⟩⟩⟩⟩⟩⟩⟩⟩
theorem lw_p32 : lw_okq (⟨"FunctionRowsModel", "say", "(II)V"⟩, 17) := ⟨⟨by decide +kernel, by decide +kernel⟩, List.mem_of_getElem? (i := 595) (by decide +kernel), List.mem_of_getElem? (i := 768) (by decide +kernel), List.mem_of_getElem? (i := 769) (by decide +kernel)⟩
theorem lw_p33 : lw_okq (⟨"FunctionRowsModel", "places", "(IIII)V"⟩, 17) := ⟨⟨by decide +kernel, by decide +kernel⟩, List.mem_of_getElem? (i := 595) (by decide +kernel), List.mem_of_getElem? (i := 777) (by decide +kernel), List.mem_of_getElem? (i := 778) (by decide +kernel)⟩
theorem lw_p34 : lw_okq (⟨"FunctionRowsModel", "placeOf", "(III)I"⟩, 17) := ⟨⟨by decide +kernel, by decide +kernel⟩, List.mem_of_getElem? (i := 595) (by decide +kernel), List.mem_of_getElem? (i := 781) (by decide +kernel), List.mem_of_getElem? (i := 782) (by decide +kernel)⟩
theorem lw_p35 : lw_okq (⟨"FunctionRowsModel", "stands", "(III)Z"⟩, 17) := ⟨⟨by decide +kernel, by decide +kernel⟩, List.mem_of_getElem? (i := 595) (by decide +kernel), List.mem_of_getElem? (i := 785) (by decide +kernel), List.mem_of_getElem? (i := 786) (by decide +kernel)⟩
theorem lw_p36 : lw_okq (⟨"FunctionRowsModel", "others", "(IIIII)V"⟩, 17) := ⟨⟨by decide +kernel, by decide +kernel⟩, List.mem_of_getElem? (i := 595) (by decide +kernel), List.mem_of_getElem? (i := 789) (by decide +kernel), List.mem_of_getElem? (i := 790) (by decide +kernel)⟩
theorem lw_p37 : lw_okq (⟨"FunctionRowsModel", "asNumber", "(II)V"⟩, 17) := ⟨⟨by decide +kernel, by decide +kernel⟩, List.mem_of_getElem? (i := 595) (by decide +kernel), List.mem_of_getElem? (i := 793) (by decide +kernel), List.mem_of_getElem? (i := 794) (by decide +kernel)⟩
theorem lw_p38 : lw_okq (⟨"FunctionRowsModel", "words", "(II)V"⟩, 17) := ⟨⟨by decide +kernel, by decide +kernel⟩, List.mem_of_getElem? (i := 595) (by decide +kernel), List.mem_of_getElem? (i := 801) (by decide +kernel), List.mem_of_getElem? (i := 802) (by decide +kernel)⟩
theorem lw_p39 : lw_okq (⟨"FunctionRowsModel", "sayNumber", "(IJ)V"⟩, 17) := ⟨⟨by decide +kernel, by decide +kernel⟩, List.mem_of_getElem? (i := 595) (by decide +kernel), List.mem_of_getElem? (i := 805) (by decide +kernel), List.mem_of_getElem? (i := 806) (by decide +kernel)⟩
theorem lw_p40 : lw_okq (⟨"FunctionRowsModel", "last", "(IIIII)V"⟩, 17) := ⟨⟨by decide +kernel, by decide +kernel⟩, List.mem_of_getElem? (i := 595) (by decide +kernel), List.mem_of_getElem? (i := 809) (by decide +kernel), List.mem_of_getElem? (i := 810) (by decide +kernel)⟩
theorem lw_p41 : lw_okq (⟨"FunctionRowsModel", "goes", "(III)V"⟩, 17) := ⟨⟨by decide +kernel, by decide +kernel⟩, List.mem_of_getElem? (i := 595) (by decide +kernel), List.mem_of_getElem? (i := 813) (by decide +kernel), List.mem_of_getElem? (i := 814) (by decide +kernel)⟩
theorem lw_p42 : lw_okq (⟨"FunctionRowsModel", "alternatives", "(I)I"⟩, 17) := ⟨⟨by decide +kernel, by decide +kernel⟩, List.mem_of_getElem? (i := 595) (by decide +kernel), List.mem_of_getElem? (i := 817) (by decide +kernel), List.mem_of_getElem? (i := 818) (by decide +kernel)⟩
theorem lw_p43 : lw_okq (⟨"FunctionRowsModel", "pieces", "(I)I"⟩, 17) := ⟨⟨by decide +kernel, by decide +kernel⟩, List.mem_of_getElem? (i := 595) (by decide +kernel), List.mem_of_getElem? (i := 821) (by decide +kernel), List.mem_of_getElem? (i := 822) (by decide +kernel)⟩
theorem lw_p44 : lw_okq (⟨"FunctionRowsModel", "here", "()I"⟩, 17) := ⟨⟨by decide +kernel, by decide +kernel⟩, List.mem_of_getElem? (i := 595) (by decide +kernel), List.mem_of_getElem? (i := 825) (by decide +kernel), List.mem_of_getElem? (i := 826) (by decide +kernel)⟩
theorem lw_p45 : lw_okq (⟨"FunctionRowsModel", "piece", "(I)I"⟩, 17) := ⟨⟨by decide +kernel, by decide +kernel⟩, List.mem_of_getElem? (i := 595) (by decide +kernel), List.mem_of_getElem? (i := 829) (by decide +kernel), List.mem_of_getElem? (i := 830) (by decide +kernel)⟩
theorem lw_p46 : lw_okq (⟨"FunctionRowsModel", "atom", "(I)I"⟩, 17) := ⟨⟨by decide +kernel, by decide +kernel⟩, List.mem_of_getElem? (i := 595) (by decide +kernel), List.mem_of_getElem? (i := 833) (by decide +kernel), List.mem_of_getElem? (i := 834) (by decide +kernel)⟩
theorem lw_p47 : lw_okq (⟨"FunctionRowsModel", "step", "(IZI)I"⟩, 17) := ⟨⟨by decide +kernel, by decide +kernel⟩, List.mem_of_getElem? (i := 595) (by decide +kernel), List.mem_of_getElem? (i := 837) (by decide +kernel), List.mem_of_getElem? (i := 838) (by decide +kernel)⟩
def lw_privs_3 : List (MethodName × Nat) := [(⟨"FunctionRowsModel", "say", "(II)V"⟩, 17), (⟨"FunctionRowsModel", "places", "(IIII)V"⟩, 17), (⟨"FunctionRowsModel", "placeOf", "(III)I"⟩, 17), (⟨"FunctionRowsModel", "stands", "(III)Z"⟩, 17), (⟨"FunctionRowsModel", "others", "(IIIII)V"⟩, 17), (⟨"FunctionRowsModel", "asNumber", "(II)V"⟩, 17), (⟨"FunctionRowsModel", "words", "(II)V"⟩, 17), (⟨"FunctionRowsModel", "sayNumber", "(IJ)V"⟩, 17), (⟨"FunctionRowsModel", "last", "(IIIII)V"⟩, 17), (⟨"FunctionRowsModel", "goes", "(III)V"⟩, 17), (⟨"FunctionRowsModel", "alternatives", "(I)I"⟩, 17), (⟨"FunctionRowsModel", "pieces", "(I)I"⟩, 17), (⟨"FunctionRowsModel", "here", "()I"⟩, 17), (⟨"FunctionRowsModel", "piece", "(I)I"⟩, 17), (⟨"FunctionRowsModel", "atom", "(I)I"⟩, 17), (⟨"FunctionRowsModel", "step", "(IZI)I"⟩, 17)]
theorem lw_r3 : ∀ q ∈ lw_privs_3, lw_okq q := List.forall_mem_cons.mpr ⟨lw_p32, List.forall_mem_cons.mpr ⟨lw_p33, List.forall_mem_cons.mpr ⟨lw_p34, List.forall_mem_cons.mpr ⟨lw_p35, List.forall_mem_cons.mpr ⟨lw_p36, List.forall_mem_cons.mpr ⟨lw_p37, List.forall_mem_cons.mpr ⟨lw_p38, List.forall_mem_cons.mpr ⟨lw_p39, List.forall_mem_cons.mpr ⟨lw_p40, List.forall_mem_cons.mpr ⟨lw_p41, List.forall_mem_cons.mpr ⟨lw_p42, List.forall_mem_cons.mpr ⟨lw_p43, List.forall_mem_cons.mpr ⟨lw_p44, List.forall_mem_cons.mpr ⟨lw_p45, List.forall_mem_cons.mpr ⟨lw_p46, List.forall_mem_cons.mpr ⟨lw_p47, fun _ h => absurd h List.not_mem_nil⟩⟩⟩⟩⟩⟩⟩⟩⟩⟩⟩⟩⟩⟩⟩⟩
theorem lw_p48 : lw_okq (⟨"FunctionRowsModel", "items", "(I)I"⟩, 17) := ⟨⟨by decide +kernel, by decide +kernel⟩, List.mem_of_getElem? (i := 595) (by decide +kernel), List.mem_of_getElem? (i := 841) (by decide +kernel), List.mem_of_getElem? (i := 842) (by decide +kernel)⟩
theorem lw_p49 : lw_okq (⟨"FunctionRowsModel", "isItem", "()Z"⟩, 17) := ⟨⟨by decide +kernel, by decide +kernel⟩, List.mem_of_getElem? (i := 595) (by decide +kernel), List.mem_of_getElem? (i := 845) (by decide +kernel), List.mem_of_getElem? (i := 846) (by decide +kernel)⟩
def lw_privs_4 : List (MethodName × Nat) := [(⟨"FunctionRowsModel", "items", "(I)I"⟩, 17), (⟨"FunctionRowsModel", "isItem", "()Z"⟩, 17)]
theorem lw_r4 : ∀ q ∈ lw_privs_4, lw_okq q := List.forall_mem_cons.mpr ⟨lw_p48, List.forall_mem_cons.mpr ⟨lw_p49, fun _ h => absurd h List.not_mem_nil⟩⟩
def lw_privs : List (MethodName × Nat) := lw_privs_1 ++ (lw_privs_2 ++ (lw_privs_3 ++ (lw_privs_4)))
def lw_tbl : List Cond := k2_sels lw_privs ++ tables_1
theorem lw_privs_ok : ∀ q ∈ lw_privs, lw_okq q := by
  show ∀ q ∈ lw_privs_1 ++ (lw_privs_2 ++ (lw_privs_3 ++ (lw_privs_4))), lw_okq q
  exact List.forall_mem_append.mpr ⟨lw_r1, List.forall_mem_append.mpr ⟨lw_r2, List.forall_mem_append.mpr ⟨lw_r3, lw_r4⟩⟩⟩
end
section
/-! A PURE MACHINE over places: values are ints, longs, and references to places (kind, index); an instruction is a function of states (with an oracle for its branches and calls); 'qm_px' runs them, and 'qm_run' says that the JVM's walk W follows it. -/
abbrev qm_v : Type := Int32 ⊕ (Int64 ⊕ Option (Nat × Nat))
abbrev qI (x : Int32) : qm_v := .inl x
abbrev qL (x : Int64) : qm_v := .inr (.inl x)
abbrev qR (k i : Nat) : qm_v := .inr (.inr (some (k, i)))
abbrev qN : qm_v := .inr (.inr none)
def qm_cv (Λ : Nat → Nat → Nat) : qm_v → Value
  | .inl x => .int x
  | .inr (.inl x) => .long x
  | .inr (.inr none) => .null
  | .inr (.inr (some q)) => .ref (Λ q.1 q.2)
def qm_ok (V : Nat → Nat → Prop) : qm_v → Prop
  | .inr (.inr (some q)) => V q.1 q.2
  | _ => True
abbrev qm_S (G : Type) : Type := List (Option qm_v) × List qm_v × G
abbrev qm_O (G : Type) : Type := List Nat × List (Option (Nat × Nat)) × List (Option qm_v × G)
abbrev qm_R (G : Type) : Type := List Prop × Option (Option Nat) × qm_S G × qm_O G
abbrev qm_op (G : Type) : Type := qm_O G → qm_S G → qm_R G
def qm_all : List Prop → Prop
  | [] => True
  | [c] => c
  | c :: d :: r => c ∧ qm_all (d :: r)
theorem qm_all_cons {c : Prop} {r : List Prop} (h : qm_all (c :: r)) : c ∧ qm_all r := by
  cases r with
  | nil => exact ⟨h, trivial⟩
  | cons d r => exact h
theorem qm_all_app : ∀ {a b : List Prop}, qm_all (a ++ b) → qm_all a ∧ qm_all b
  | [], _, h => ⟨trivial, h⟩
  | [c], _, h => qm_all_cons h
  | c :: d :: r, b, h => by
    obtain ⟨h1, h2⟩ := qm_all_cons (r := (d :: r) ++ b) h
    obtain ⟨h3, h4⟩ := qm_all_app (a := d :: r) h2
    exact ⟨⟨h1, h3⟩, h4⟩
/-- locals -/
def qm_nth : List (Option qm_v) → Nat → Option qm_v
  | [], _ => none
  | a :: _, 0 => a
  | _ :: l, n + 1 => qm_nth l n
def qm_kl : Option qm_v → Option qm_v
  | some (.inr (.inl _)) => none
  | x => x
def qm_st1 : List (Option qm_v) → Nat → qm_v → List (Option qm_v)
  | [], _, _ => []
  | _ :: l, 0, v => some v :: l
  | a :: l, 1, v => qm_kl a :: qm_st1 l 0 v
  | a :: l, n + 2, v => a :: qm_st1 l (n + 1) v
def qm_st2 : List (Option qm_v) → Nat → qm_v → List (Option qm_v)
  | [], _, _ => []
  | [_], _, _ => []
  | _ :: _ :: l, 0, v => some v :: none :: l
  | a :: b :: l, 1, v => qm_kl a :: qm_st2 (b :: l) 0 v
  | a :: b :: l, n + 2, v => a :: qm_st2 (b :: l) (n + 1) v
def qm_ll (Λ : Nat → Nat → Nat) : Nat → List (Option qm_v) → List (Nat × Value)
  | _, [] => []
  | i, none :: l => qm_ll Λ (i + 1) l
  | i, some v :: l => (i, qm_cv Λ v) :: qm_ll Λ (i + 1) l
theorem qm_ll_mem {Λ : Nat → Nat → Nat} : ∀ {L : List (Option qm_v)} {i k : Nat} {v : qm_v}, qm_nth L k = some v → (i + k, qm_cv Λ v) ∈ qm_ll Λ i L
  | [], _, _, _, h => by cases h
  | none :: l, i, 0, v, h => by cases h
  | some u :: l, i, 0, v, h => by cases h; exact List.mem_cons_self
  | none :: l, i, k + 1, v, h => by
    have := qm_ll_mem (Λ := Λ) (L := l) (i := i + 1) (k := k) (v := v) h
    rw [show i + 1 + k = i + (k + 1) by omega] at this
    exact this
  | some u :: l, i, k + 1, v, h => by
    have := qm_ll_mem (Λ := Λ) (L := l) (i := i + 1) (k := k) (v := v) h
    rw [show i + 1 + k = i + (k + 1) by omega] at this
    exact List.mem_cons_of_mem _ this
theorem qm_ll_of {Λ : Nat → Nat → Nat} : ∀ {L : List (Option qm_v)} {i : Nat} {q : Nat × Value}, q ∈ qm_ll Λ i L → ∃ k v, q = (i + k, qm_cv Λ v) ∧ qm_nth L k = some v
  | [], _, _, h => by cases h
  | none :: l, i, q, h => by
    obtain ⟨k, v, h1, h2⟩ := qm_ll_of (L := l) (i := i + 1) h
    exact ⟨k + 1, v, by rw [h1]; congr 1; omega, h2⟩
  | some u :: l, i, q, h => by
    rcases List.mem_cons.mp h with h | h
    · exact ⟨0, u, h, rfl⟩
    · obtain ⟨k, v, h1, h2⟩ := qm_ll_of (L := l) (i := i + 1) h
      exact ⟨k + 1, v, by rw [h1]; congr 1; omega, h2⟩
def qm_lo (Λ : Nat → Nat → Nat) (nL : Nat) (ls : Array Slot) (L : List (Option qm_v)) : Prop := lv_has ls nL (qm_ll Λ 0 L) ∧ L.length = nL
theorem qm_lo.at {Λ : Nat → Nat → Nat} {nL : Nat} {ls : Array Slot} {L : List (Option qm_v)} (h : qm_lo Λ nL ls L) {k : Nat} {v : qm_v} (hk : qm_nth L k = some v) : ls[k]? = some (.val (qm_cv Λ v)) := by
  have := h.1.2.2 _ (qm_ll_mem (Λ := Λ) (i := 0) hk)
  rw [Nat.zero_add] at this
  exact this
theorem qm_st1_len : ∀ (L : List (Option qm_v)) (k : Nat) (v : qm_v), (qm_st1 L k v).length = L.length
  | [], _, _ => rfl
  | _ :: _, 0, _ => rfl
  | a :: l, 1, v => by show (qm_st1 l 0 v).length + 1 = _; rw [qm_st1_len l 0 v]; rfl
  | a :: l, n + 2, v => by show (qm_st1 l (n + 1) v).length + 1 = _; rw [qm_st1_len l (n + 1) v]; rfl
theorem qm_kl_of {a : Option qm_v} {u : qm_v} (h : qm_kl a = some u) : a = some u ∧ ∀ x, u ≠ .inr (.inl x) := by
  rcases a with _ | ⟨x | ⟨x | x⟩⟩
  · cases h
  · cases h; exact ⟨rfl, fun _ q => by cases q⟩
  · cases h
  · cases h; exact ⟨rfl, fun _ q => by cases q⟩
theorem qm_st1_nth : ∀ {L : List (Option qm_v)} {k i : Nat} {v u : qm_v}, qm_nth (qm_st1 L k v) i = some u → (i = k ∧ u = v) ∨ (i ≠ k ∧ qm_nth L i = some u ∧ (i + 1 = k → ∀ x, u ≠ .inr (.inl x)))
  | [], _, _, _, _, h => by cases h
  | a :: l, 0, 0, v, u, h => by cases h; exact Or.inl ⟨rfl, rfl⟩
  | a :: l, 0, i + 1, v, u, h => Or.inr ⟨by omega, h, fun q => by omega⟩
  | a :: l, 1, 0, v, u, h => by
    obtain ⟨h1, h2⟩ := qm_kl_of h
    exact Or.inr ⟨by omega, h1, fun _ => h2⟩
  | a :: l, 1, i + 1, v, u, h => by
    rcases qm_st1_nth (L := l) (k := 0) (i := i) h with ⟨h1, h2⟩ | ⟨h1, h2, h3⟩
    · exact Or.inl ⟨by omega, h2⟩
    · exact Or.inr ⟨by omega, h2, fun q => h3 (by omega)⟩
  | a :: l, n + 2, 0, v, u, h => Or.inr ⟨by omega, h, fun q => by omega⟩
  | a :: l, n + 2, i + 1, v, u, h => by
    rcases qm_st1_nth (L := l) (k := n + 1) (i := i) h with ⟨h1, h2⟩ | ⟨h1, h2, h3⟩
    · exact Or.inl ⟨by omega, h2⟩
    · exact Or.inr ⟨by omega, h2, fun q => h3 (by omega)⟩
theorem qm_st2_len : ∀ (L : List (Option qm_v)) (k : Nat) (v : qm_v), k + 1 < L.length → (qm_st2 L k v).length = L.length
  | [], _, _, h => by simp at h
  | [_], _, _, h => by simp at h
  | _ :: _ :: _, 0, _, _ => rfl
  | a :: b :: l, 1, v, h => by
    show (qm_st2 (b :: l) 0 v).length + 1 = _
    rw [qm_st2_len (b :: l) 0 v (by simp at h ⊢; omega)]; rfl
  | a :: b :: l, n + 2, v, h => by
    show (qm_st2 (b :: l) (n + 1) v).length + 1 = _
    rw [qm_st2_len (b :: l) (n + 1) v (by simp at h ⊢; omega)]; rfl
theorem qm_st2_nth : ∀ {L : List (Option qm_v)} {k i : Nat} {v u : qm_v}, qm_nth (qm_st2 L k v) i = some u → (i = k ∧ u = v) ∨ (i ≠ k ∧ i ≠ k + 1 ∧ qm_nth L i = some u ∧ (i + 1 = k → ∀ x, u ≠ .inr (.inl x)))
  | [], _, _, _, _, h => by cases h
  | [_], _, _, _, _, h => by cases h
  | a :: b :: l, 0, 0, v, u, h => by cases h; exact Or.inl ⟨rfl, rfl⟩
  | a :: b :: l, 0, 1, v, u, h => by cases h
  | a :: b :: l, 0, i + 2, v, u, h => Or.inr ⟨by omega, by omega, h, fun q => by omega⟩
  | a :: b :: l, 1, 0, v, u, h => by
    obtain ⟨h1, h2⟩ := qm_kl_of h
    exact Or.inr ⟨by omega, by omega, h1, fun _ => h2⟩
  | a :: b :: l, 1, i + 1, v, u, h => by
    rcases qm_st2_nth (L := b :: l) (k := 0) (i := i) h with ⟨h1, h2⟩ | ⟨h1, h2, h3, h4⟩
    · exact Or.inl ⟨by omega, h2⟩
    · exact Or.inr ⟨by omega, by omega, h3, fun q => h4 (by omega)⟩
  | a :: b :: l, n + 2, 0, v, u, h => Or.inr ⟨by omega, by omega, h, fun q => by omega⟩
  | a :: b :: l, n + 2, i + 1, v, u, h => by
    rcases qm_st2_nth (L := b :: l) (k := n + 1) (i := i) h with ⟨h1, h2⟩ | ⟨h1, h2, h3, h4⟩
    · exact Or.inl ⟨by omega, h2⟩
    · exact Or.inr ⟨by omega, by omega, h3, fun q => h4 (by omega)⟩
theorem qm_cat {Λ : Nat → Nat → Nat} {u : qm_v} (h : ∀ x, u ≠ .inr (.inl x)) : (qm_cv Λ u).category = 1 := by
  rcases u with x | ⟨x | ⟨_ | x⟩⟩
  · rfl
  · exact absurd rfl (h x)
  · rfl
  · rfl
theorem qm_lo.st1 {Λ : Nat → Nat → Nat} {nL : Nat} {ls ls' : Array Slot} {L : List (Option qm_v)} {k : Nat} {v : qm_v} (h : qm_lo Λ nL ls L) (h' : lv_has ls' nL ((k, qm_cv Λ v) :: (qm_ll Λ 0 L).filter (fun q => !(q.1 == k) && !(q.1 + 1 == k && q.2.category == 2)))) : qm_lo Λ nL ls' (qm_st1 L k v) := by
  refine ⟨⟨h'.1, h'.2.1, fun q hq => ?_⟩, (qm_st1_len L k v).trans h.2⟩
  obtain ⟨i, u, rfl, hn⟩ := qm_ll_of hq
  refine h'.2.2 _ ?_
  rw [Nat.zero_add]
  rcases qm_st1_nth hn with ⟨rfl, rfl⟩ | ⟨h1, h2, h3⟩
  · exact List.mem_cons_self
  · refine List.mem_cons_of_mem _ (List.mem_filter.mpr ⟨?_, ?_⟩)
    · have := qm_ll_mem (Λ := Λ) (i := 0) h2
      rw [Nat.zero_add] at this
      exact this
    · by_cases hk : i + 1 = k
      · have hc := qm_cat (Λ := Λ) (h3 hk)
        simp [h1, hc]
      · simp [h1, hk]
theorem qm_lo.st2 {Λ : Nat → Nat → Nat} {nL : Nat} {ls ls' : Array Slot} {L : List (Option qm_v)} {k : Nat} {v : qm_v} (h : qm_lo Λ nL ls L) (hk1 : k + 1 < nL) (h' : lv_has ls' nL ((k, qm_cv Λ v) :: (qm_ll Λ 0 L).filter (fun q => !(q.1 == k) && (!(q.1 == k + 1) && !(q.1 + 1 == k && q.2.category == 2))))) : qm_lo Λ nL ls' (qm_st2 L k v) := by
  refine ⟨⟨h'.1, h'.2.1, fun q hq => ?_⟩, (qm_st2_len L k v (by rw [h.2]; exact hk1)).trans h.2⟩
  obtain ⟨i, u, rfl, hn⟩ := qm_ll_of hq
  refine h'.2.2 _ ?_
  rw [Nat.zero_add]
  rcases qm_st2_nth hn with ⟨rfl, rfl⟩ | ⟨h1, h1b, h2, h3⟩
  · exact List.mem_cons_self
  · refine List.mem_cons_of_mem _ (List.mem_filter.mpr ⟨?_, ?_⟩)
    · have := qm_ll_mem (Λ := Λ) (i := 0) h2
      rw [Nat.zero_add] at this
      exact this
    · by_cases hk : i + 1 = k
      · have hc := qm_cat (Λ := Λ) (h3 hk)
        simp [h1, h1b, hc]
      · simp [h1, h1b, hk]
end
section
/-- where a jump goes -/
def qm_sk {G : Type} : List (Nat × qm_op G) → Nat → List (Nat × qm_op G)
  | [], _ => []
  | (pc, f) :: k, t => match Nat.beq pc t with
    | true => (pc, f) :: k
    | false => qm_sk k t
def qm_hd {G : Type} : List (Nat × qm_op G) → Nat
  | [] => 99999
  | (pc, _) :: _ => pc
def qm_px {G : Type} (code : List (Nat × qm_op G)) (stop : Nat) : Nat → List (Nat × qm_op G) → qm_O G → qm_S G → List Prop × List (Nat × qm_op G) × qm_S G
  | 0, _, _, s => ([False], [], s)
  | _ + 1, [], _, s => ([False], [], s)
  | n + 1, (_, f) :: k, o, s => match f o s with
    | (c, some none, s', _) => (c, [], s')
    | (c, none, s', o') => match k with
      | [] => ([False], [], s')
      | x :: k => match Nat.beq x.1 stop with
        | true => (c, x :: k, s')
        | false => match qm_px code stop n (x :: k) o' s' with
          | (c2, r) => (c ++ c2, r)
    | (c, some (some t), s', o') => match qm_sk code t with
      | [] => ([False], [], s')
      | x :: k => match Nat.beq t stop with
        | true => (c, x :: k, s')
        | false => match qm_px code stop n (x :: k) o' s' with
          | (c2, r) => (c ++ c2, r)
section QMR
variable {G : Type}
/-- the state of the pure machine is the JVM's -/
def qm_at (Λ : Nat → Nat → Nat) (V : Nat → Nat → Prop) (hold : State → G → Heap → Prop) (A : Nat → Prop) (nL : Nat) (s : State) (t : qm_S G) (H : Heap) (locs : List Loc) (ls : Array Slot) : Prop :=
  hold s t.2.2 H ∧ (∀ k v, qm_nth t.1 k = some v → qm_ok V v) ∧ (∀ v ∈ t.2.1, qm_ok V v) ∧ qm_lo Λ nL ls t.1 ∧ va_S A s.heap H locs
def qm_W (Λ : Nat → Nat → Nat) (V : Nat → Nat → Prop) (hold : State → G → Heap → Prop) (A : Nat → Prop) (nL : Nat) (p : Program) (l : Launch) (e : Env) (R : Room) (s : State) (m : MethodId) (args : Array Value) (below : List Frame) (meth : Method) (c : Code) (Q : State → Prop) (pc : Nat) (t : qm_S G) : Prop :=
  ∀ (H : Heap) (locs : List Loc) (ls : Array Slot), qm_at Λ V hold A nL s t H locs ls → W p l e R s m args below meth c H locs 0 0 Q (F0 m pc ls (t.2.1.map (qm_cv Λ)))
def qm_Qc (Λ : Nat → Nat → Nat) (V : Nat → Nat → Prop) (hold : State → G → Heap → Prop) (A : Nat → Prop) (Fq : Option qm_v → G → Prop) : Array Value → State → Outcome → State → Prop := fun _ st oc t =>
  ∃ (r : Option qm_v) (g : G), oc = .returned (r.map (qm_cv Λ)) ∧ Fq r g ∧ (∀ v, r = some v → qm_ok V v) ∧ hold t g t.heap ∧ va_F A st t
/-- what a walk of a method's body stands on -/
def qm_C (Λ : Nat → Nat → Nat) (V : Nat → Nat → Prop) (hold : State → G → Heap → Prop) (A : Nat → Prop) (Fq : Option qm_v → G → Prop) (cc : ByteArray) (nL : Nat) (own : String) (Ts : List Cond) (ret : Option FieldType) (p : Program) (s : State) (m : MethodId) (args : Array Value) (below : List Frame) (meth : Method) (c : Code) (Q : State → Prop) : Prop :=
  CallFix p m c cc nL s args Ts own ∧ meth.sig.returnType = ret ∧ meth.locks = false ∧ Q = MQ below (qm_Qc Λ V hold A Fq) args s 0 0 A
/-- an instruction is right at pc, with nx behind it -/
def qm_K (Λ : Nat → Nat → Nat) (V : Nat → Nat → Prop) (hold : State → G → Heap → Prop) (A : Nat → Prop) (l : Launch) (R : Room) (cc : ByteArray) (nL : Nat) (own : String) (Ts : List Cond) (ret : Option FieldType) (pc nx : Nat) (f : qm_op G) : Prop :=
  ∀ (Fq : Option qm_v → G → Prop) (p : Program) (e : Env) (s : State) (m : MethodId) (args : Array Value) (below : List Frame) (meth : Method) (c : Code) (Q : State → Prop), qm_C Λ V hold A Fq cc nL own Ts ret p s m args below meth c Q →
    ∀ (o : qm_O G) (t : qm_S G), qm_all (f o t).1 →
    (match (f o t).2.1 with
      | none => qm_W Λ V hold A nL p l e R s m args below meth c Q nx (f o t).2.2.1
      | some none => Fq (f o t).2.2.1.2.1.head? (f o t).2.2.1.2.2
      | some (some tg) => qm_W Λ V hold A nL p l e R s m args below meth c Q tg (f o t).2.2.1) →
    qm_W Λ V hold A nL p l e R s m args below meth c Q pc t
def qm_cok (K : Nat → Nat → qm_op G → Prop) : List (Nat × qm_op G) → Prop
  | [] => True
  | [x] => K x.1 0 x.2
  | x :: y :: r => K x.1 y.1 x.2 ∧ qm_cok K (y :: r)
theorem qm_cok_sk {K : Nat → Nat → qm_op G → Prop} : ∀ {code : List (Nat × qm_op G)} {t : Nat}, qm_cok K code → qm_cok K (qm_sk code t)
  | [], _, h => h
  | (pc, f) :: k, t, h => by
    unfold qm_sk
    cases hb : Nat.beq pc t with
    | true => exact h
    | false =>
      cases k with
      | nil => exact trivial
      | cons y r => exact qm_cok_sk (code := y :: r) h.2
theorem qm_sk_hd : ∀ {code : List (Nat × qm_op G)} {t : Nat} {x : Nat × qm_op G} {k : List (Nat × qm_op G)}, qm_sk code t = x :: k → x.1 = t
  | [], _, _, _, h => by cases h
  | (pc, f) :: k, t, x, k2, h => by
    unfold qm_sk at h
    cases hb : Nat.beq pc t with
    | true => rw [hb] at h; cases h; exact Nat.eq_of_beq_eq_true hb
    | false => rw [hb] at h; exact qm_sk_hd h
variable {Λ : Nat → Nat → Nat} {V : Nat → Nat → Prop} {hold : State → G → Heap → Prop} {A : Nat → Prop} {Fq : Option qm_v → G → Prop} {l : Launch} {R : Room} {cc : ByteArray} {nL : Nat} {own : String} {Ts : List Cond} {ret : Option FieldType}
variable {p : Program} {e : Env} {s : State} {m : MethodId} {args : Array Value} {below : List Frame} {meth : Method} {c : Code} {Q : State → Prop}
/-- where the pure machine stands -/
def qm_Z (Λ : Nat → Nat → Nat) (V : Nat → Nat → Prop) (hold : State → G → Heap → Prop) (A : Nat → Prop) (Fq : Option qm_v → G → Prop) (nL : Nat) (p : Program) (l : Launch) (e : Env) (R : Room) (s : State) (m : MethodId) (args : Array Value) (below : List Frame) (meth : Method) (c : Code) (Q : State → Prop) : List (Nat × qm_op G) → qm_S G → Prop
  | [], t => Fq t.2.1.head? t.2.2
  | x :: _, t => qm_W Λ V hold A nL p l e R s m args below meth c Q x.1 t
theorem qm_run {code : List (Nat × qm_op G)} (hc : qm_cok (qm_K Λ V hold A l R cc nL own Ts ret) code) (C : qm_C Λ V hold A Fq cc nL own Ts ret p s m args below meth c Q) (stop : Nat) :
    ∀ (n : Nat) (k : List (Nat × qm_op G)) (o : qm_O G) (t : qm_S G), qm_cok (qm_K Λ V hold A l R cc nL own Ts ret) k → k ≠ [] → qm_all (qm_px code stop n k o t).1 → qm_Z Λ V hold A Fq nL p l e R s m args below meth c Q (qm_px code stop n k o t).2.1 (qm_px code stop n k o t).2.2 → qm_Z Λ V hold A Fq nL p l e R s m args below meth c Q k t := by
  intro n
  induction n with
  | zero => intro k o t _ _ h _; exact h.elim
  | succ n ih =>
    intro k o t hk hne h hz
    cases k with
    | nil => exact absurd rfl hne
    | cons x k =>
      obtain ⟨pc, f⟩ := x
      have hK : qm_K Λ V hold A l R cc nL own Ts ret pc (match k with | [] => 0 | y :: _ => y.1) f := by
        cases k with
        | nil => exact hk
        | cons y r => exact hk.1
      have hk2 : qm_cok (qm_K Λ V hold A l R cc nL own Ts ret) k := by
        cases k with
        | nil => exact trivial
        | cons y r => exact hk.2
      show qm_W Λ V hold A nL p l e R s m args below meth c Q pc t
      have hK := hK Fq p e s m args below meth c Q C o t
      unfold qm_px at h hz
      rcases hf : f o t with ⟨cs, j, t', o'⟩
      rw [hf] at h hz hK
      rcases j with _ | _ | tg
      · cases k with
        | nil => exact h.elim
        | cons y r =>
          dsimp only at h hz hK
          cases hb : Nat.beq y.1 stop with
          | true =>
            rw [hb] at h hz
            exact hK h hz
          | false =>
            rw [hb] at h hz
            dsimp only at h hz
            obtain ⟨h1, h2⟩ := qm_all_app h
            exact hK h1 (ih (y :: r) o' t' hk2 (by simp) h2 hz)
      · exact hK h hz
      · dsimp only at h hz hK
        rcases hs : qm_sk code tg with _ | ⟨y, r⟩
        · rw [hs] at h; exact h.elim
        · rw [hs] at h hz
          dsimp only at h hz
          have hy := qm_sk_hd hs
          cases hb : Nat.beq tg stop with
          | true =>
            rw [hb] at h hz
            refine hK h ?_
            rw [← hy]
            exact hz
          | false =>
            rw [hb] at h hz
            dsimp only at h hz
            obtain ⟨h1, h2⟩ := qm_all_app h
            refine hK h1 ?_
            rw [← hy]
            exact ih (y :: r) o' t' (hs ▸ qm_cok_sk hc) (by simp) h2 hz
/-- what is to be shown of a run: its conditions, and the place where it ends -/
def qm_cj : List Prop → Prop → Prop
  | [], z => z
  | c :: r, z => c ∧ qm_cj r z
theorem qm_cj_of : ∀ {cs : List Prop} {z : Prop}, qm_cj cs z → qm_all cs ∧ z
  | [], _, h => ⟨trivial, h⟩
  | [_], _, h => h
  | _ :: d :: r, _, h => by
    obtain ⟨h1, h2⟩ := qm_cj_of (cs := d :: r) h.2
    exact ⟨⟨h.1, h1⟩, h2⟩
theorem qm_step {code : List (Nat × qm_op G)} (hc : qm_cok (qm_K Λ V hold A l R cc nL own Ts ret) code) (C : qm_C Λ V hold A Fq cc nL own Ts ret p s m args below meth c Q) (pc stop n : Nat) (o : qm_O G) {t : qm_S G} (h : qm_cj (qm_px code stop n (qm_sk code pc) o t).1 (qm_Z Λ V hold A Fq nL p l e R s m args below meth c Q (qm_px code stop n (qm_sk code pc) o t).2.1 (qm_px code stop n (qm_sk code pc) o t).2.2)) : qm_W Λ V hold A nL p l e R s m args below meth c Q pc t := by
  obtain ⟨h1, h2⟩ := qm_cj_of h
  rcases hs : qm_sk code pc with _ | ⟨x, k⟩
  · rw [hs] at h1
    cases n <;> exact h1.elim
  · have hy := qm_sk_hd hs
    have h3 := qm_run hc C stop n (qm_sk code pc) o t (qm_cok_sk hc) (by rw [hs]; simp) h1 h2
    rw [hs] at h3
    rw [← hy]
    exact h3
end QMR
end
section
section QMO
variable {G : Type} {Λ : Nat → Nat → Nat} {V : Nat → Nat → Prop} {hold : State → G → Heap → Prop} {A : Nat → Prop} {l : Launch} {R : Room} {cc : ByteArray} {nL : Nat} {own : String} {Ts : List Cond} {ret : Option FieldType}
/-- an instruction that works on the stack alone -/
def o_stk (F : List qm_v → Option (List Prop × List qm_v)) : qm_op G := fun o t => match F t.2.1 with
  | some (cs, S) => (cs, none, (t.1, S, t.2.2), o)
  | none => ([False], none, t, o)
def qm_row (Λ : Nat → Nat → Nat) (l : Launch) (R : Room) (cc : ByteArray) (nL : Nat) (own : String) (Ts : List Cond) (pc nx : Nat) (S S' : List qm_v) : Prop :=
  ∀ (p : Program) (e : Env) (s : State) (m : MethodId) (args : Array Value) (below : List Frame) (meth : Method) (c : Code) (H : Heap) (locs : List Loc) (Q : State → Prop) (ls : Array Slot), CallFix p m c cc nL s args Ts own → ls.size = nL →
    W p l e R s m args below meth c H locs 0 0 Q (F0 m nx ls (S'.map (qm_cv Λ))) → W p l e R s m args below meth c H locs 0 0 Q (F0 m pc ls (S.map (qm_cv Λ)))
theorem os_stk {F : List qm_v → Option (List Prop × List qm_v)} {pc nx : Nat} (hF : ∀ (S : List qm_v) (cs : List Prop) (S' : List qm_v), F S = some (cs, S') → qm_all cs → ((∀ v ∈ S, qm_ok V v) → ∀ v ∈ S', qm_ok V v) ∧ qm_row Λ l R cc nL own Ts pc nx S S') : qm_K Λ V hold A l R cc nL own Ts ret pc nx (o_stk F) := by
  intro Fq p e s m args below meth c Q C o t hc hn H locs ls hA
  unfold o_stk at hc hn
  rcases hf : F t.2.1 with _ | ⟨cs, S⟩
  · rw [hf] at hc; exact hc.elim
  · rw [hf] at hc hn
    obtain ⟨h1, h2⟩ := hF _ _ _ hf hc
    obtain ⟨a1, a2, a3, a4, a5⟩ := hA
    exact h2 p e s m args below meth c H locs Q ls C.1 a4.1.1 (hn H locs ls ⟨a1, a2, h1 a3, a4, a5⟩)
theorem qm_fa2 {v : qm_v} {S : List qm_v} (h : ∀ u ∈ v :: S, qm_ok V u) : qm_ok V v ∧ ∀ u ∈ S, qm_ok V u := ⟨h v List.mem_cons_self, fun u hu => h u (List.mem_cons_of_mem _ hu)⟩
theorem qm_fa {v : qm_v} {S : List qm_v} (h : qm_ok V v) (hS : ∀ u ∈ S, qm_ok V u) : ∀ u ∈ v :: S, qm_ok V u := fun u hu => by
  rcases List.mem_cons.mp hu with rfl | hu
  · exact h
  · exact hS u hu
/-- two ints to an int -/
def f_bi (f : Int32 → Int32 → Int32) : List qm_v → Option (List Prop × List qm_v)
  | .inl y :: .inl x :: S => some ([], .inl (f x y) :: S)
  | _ => none
def f_di (f : Int32 → Int32 → Int32) : List qm_v → Option (List Prop × List qm_v)
  | .inl y :: .inl x :: S => some ([¬ y = 0], .inl (f x y) :: S)
  | _ => none
def f_bl (f : Int64 → Int64 → Int64) : List qm_v → Option (List Prop × List qm_v)
  | .inr (.inl y) :: .inr (.inl x) :: S => some ([], .inr (.inl (f x y)) :: S)
  | _ => none
def f_dl (f : Int64 → Int64 → Int64) : List qm_v → Option (List Prop × List qm_v)
  | .inr (.inl y) :: .inr (.inl x) :: S => some ([¬ y = 0], .inr (.inl (f x y)) :: S)
  | _ => none
def f_sl (f : Int64 → Int32 → Int64) : List qm_v → Option (List Prop × List qm_v)
  | .inl y :: .inr (.inl x) :: S => some ([], .inr (.inl (f x y)) :: S)
  | _ => none
def f_cmp : List qm_v → Option (List Prop × List qm_v)
  | .inr (.inl y) :: .inr (.inl x) :: S => some ([], .inl (lg_cmp x y) :: S)
  | _ => none
def f_ui (f : Int32 → Int32) : List qm_v → Option (List Prop × List qm_v)
  | .inl x :: S => some ([], .inl (f x) :: S)
  | _ => none
def f_ul (f : Int64 → Int64) : List qm_v → Option (List Prop × List qm_v)
  | .inr (.inl x) :: S => some ([], .inr (.inl (f x)) :: S)
  | _ => none
def f_il (f : Int32 → Int64) : List qm_v → Option (List Prop × List qm_v)
  | .inl x :: S => some ([], .inr (.inl (f x)) :: S)
  | _ => none
def f_li (f : Int64 → Int32) : List qm_v → Option (List Prop × List qm_v)
  | .inr (.inl x) :: S => some ([], .inl (f x) :: S)
  | _ => none
def f_c (v : qm_v) : List qm_v → Option (List Prop × List qm_v) := fun S => some ([], v :: S)
def qm_c1 : qm_v → Bool
  | .inr (.inl _) => false
  | _ => true
def f_dup : List qm_v → Option (List Prop × List qm_v)
  | v :: S => match qm_c1 v with
    | true => some ([], v :: v :: S)
    | false => none
  | _ => none
def f_pop : List qm_v → Option (List Prop × List qm_v)
  | v :: S => match qm_c1 v with
    | true => some ([], S)
    | false => none
  | _ => none
def f_dupx1 : List qm_v → Option (List Prop × List qm_v)
  | v :: w :: S => match qm_c1 v, qm_c1 w with
    | true, true => some ([], v :: w :: v :: S)
    | _, _ => none
  | _ => none
def f_dup2 : List qm_v → Option (List Prop × List qm_v)
  | v :: w :: S => match qm_c1 v, qm_c1 w with
    | true, true => some ([], v :: w :: v :: w :: S)
    | _, _ => none
  | _ => none
theorem qm_c1_cat {v : qm_v} (h : qm_c1 v = true) : (qm_cv Λ v).category = 1 := by
  rcases v with x | ⟨x | ⟨_ | x⟩⟩
  · rfl
  · cases h
  · rfl
  · rfl
theorem os_bi {f : Int32 → Int32 → Int32} {pc nx : Nat} (h : ∀ (x y : Int32) (S : List qm_v), qm_row Λ l R cc nL own Ts pc nx (qI y :: qI x :: S) (qI (f x y) :: S)) : qm_K Λ V hold A l R cc nL own Ts ret pc nx (o_stk (f_bi f)) := by
  refine os_stk fun S cs S' hf hc => ?_
  rcases S with _ | ⟨y | y, _ | ⟨x | x, S⟩⟩ <;> cases hf
  exact ⟨fun k => qm_fa trivial (qm_fa2 (qm_fa2 k).2).2, h x y S⟩
theorem os_di {f : Int32 → Int32 → Int32} {pc nx : Nat} (h : ∀ (x y : Int32) (S : List qm_v), ¬ y = 0 → qm_row Λ l R cc nL own Ts pc nx (qI y :: qI x :: S) (qI (f x y) :: S)) : qm_K Λ V hold A l R cc nL own Ts ret pc nx (o_stk (f_di f)) := by
  refine os_stk fun S cs S' hf hc => ?_
  rcases S with _ | ⟨y | y, _ | ⟨x | x, S⟩⟩ <;> cases hf
  exact ⟨fun k => qm_fa trivial (qm_fa2 (qm_fa2 k).2).2, h x y S hc⟩
theorem os_bl {f : Int64 → Int64 → Int64} {pc nx : Nat} (h : ∀ (x y : Int64) (S : List qm_v), qm_row Λ l R cc nL own Ts pc nx (qL y :: qL x :: S) (qL (f x y) :: S)) : qm_K Λ V hold A l R cc nL own Ts ret pc nx (o_stk (f_bl f)) := by
  refine os_stk fun S cs S' hf hc => ?_
  rcases S with _ | ⟨y | y | y, _ | ⟨x | x | x, S⟩⟩ <;> cases hf
  exact ⟨fun k => qm_fa trivial (qm_fa2 (qm_fa2 k).2).2, h x y S⟩
theorem os_dl {f : Int64 → Int64 → Int64} {pc nx : Nat} (h : ∀ (x y : Int64) (S : List qm_v), ¬ y = 0 → qm_row Λ l R cc nL own Ts pc nx (qL y :: qL x :: S) (qL (f x y) :: S)) : qm_K Λ V hold A l R cc nL own Ts ret pc nx (o_stk (f_dl f)) := by
  refine os_stk fun S cs S' hf hc => ?_
  rcases S with _ | ⟨y | y | y, _ | ⟨x | x | x, S⟩⟩ <;> cases hf
  exact ⟨fun k => qm_fa trivial (qm_fa2 (qm_fa2 k).2).2, h x y S hc⟩
theorem os_sl {f : Int64 → Int32 → Int64} {pc nx : Nat} (h : ∀ (x : Int64) (y : Int32) (S : List qm_v), qm_row Λ l R cc nL own Ts pc nx (qI y :: qL x :: S) (qL (f x y) :: S)) : qm_K Λ V hold A l R cc nL own Ts ret pc nx (o_stk (f_sl f)) := by
  refine os_stk fun S cs S' hf hc => ?_
  rcases S with _ | ⟨y | y | y, _ | ⟨x | x | x, S⟩⟩ <;> cases hf
  exact ⟨fun k => qm_fa trivial (qm_fa2 (qm_fa2 k).2).2, h x y S⟩
theorem os_cmp {pc : Nat} (hd : decode cc pc = .ok (.lcmp, 1)) : qm_K Λ V hold A l R cc nL own Ts ret pc (pc + 1) (o_stk f_cmp) := by
  refine os_stk fun S cs S' hf hc => ?_
  rcases S with _ | ⟨y | y | y, _ | ⟨x | x | x, S⟩⟩ <;> cases hf
  exact ⟨fun k => qm_fa trivial (qm_fa2 (qm_fa2 k).2).2, fun p e s m args below meth c H locs Q ls C _ k => W.lcmp C.1 C.2.1 hd k⟩
theorem os_ui {f : Int32 → Int32} {pc nx : Nat} (h : ∀ (x : Int32) (S : List qm_v), qm_row Λ l R cc nL own Ts pc nx (qI x :: S) (qI (f x) :: S)) : qm_K Λ V hold A l R cc nL own Ts ret pc nx (o_stk (f_ui f)) := by
  refine os_stk fun S cs S' hf hc => ?_
  rcases S with _ | ⟨x | x, S⟩ <;> cases hf
  exact ⟨fun k => qm_fa trivial (qm_fa2 k).2, h x S⟩
theorem os_ul {f : Int64 → Int64} {pc nx : Nat} (h : ∀ (x : Int64) (S : List qm_v), qm_row Λ l R cc nL own Ts pc nx (qL x :: S) (qL (f x) :: S)) : qm_K Λ V hold A l R cc nL own Ts ret pc nx (o_stk (f_ul f)) := by
  refine os_stk fun S cs S' hf hc => ?_
  rcases S with _ | ⟨x | x | x, S⟩ <;> cases hf
  exact ⟨fun k => qm_fa trivial (qm_fa2 k).2, h x S⟩
theorem os_cil {f : Int32 → Int64} {pc nx : Nat} (h : ∀ (x : Int32) (S : List qm_v), qm_row Λ l R cc nL own Ts pc nx (qI x :: S) (qL (f x) :: S)) : qm_K Λ V hold A l R cc nL own Ts ret pc nx (o_stk (f_il f)) := by
  refine os_stk fun S cs S' hf hc => ?_
  rcases S with _ | ⟨x | x, S⟩ <;> cases hf
  exact ⟨fun k => qm_fa trivial (qm_fa2 k).2, h x S⟩
theorem os_cli {f : Int64 → Int32} {pc nx : Nat} (h : ∀ (x : Int64) (S : List qm_v), qm_row Λ l R cc nL own Ts pc nx (qL x :: S) (qI (f x) :: S)) : qm_K Λ V hold A l R cc nL own Ts ret pc nx (o_stk (f_li f)) := by
  refine os_stk fun S cs S' hf hc => ?_
  rcases S with _ | ⟨x | x | x, S⟩ <;> cases hf
  exact ⟨fun k => qm_fa trivial (qm_fa2 k).2, h x S⟩
theorem os_c {v : qm_v} {pc nx : Nat} (hv : qm_ok V v) (h : ∀ S : List qm_v, qm_row Λ l R cc nL own Ts pc nx S (v :: S)) : qm_K Λ V hold A l R cc nL own Ts ret pc nx (o_stk (f_c v)) := by
  refine os_stk fun S cs S' hf hc => ?_
  cases hf
  exact ⟨fun k => qm_fa hv k, h S⟩
theorem os_dup {pc : Nat} (hd : decode cc pc = .ok (.dup, 1)) : qm_K Λ V hold A l R cc nL own Ts ret pc (pc + 1) (o_stk f_dup) := by
  refine os_stk fun S cs S' hf hc => ?_
  rcases S with _ | ⟨v, S⟩
  · cases hf
  · unfold f_dup at hf
    dsimp only at hf
    cases hv : qm_c1 v <;> rw [hv] at hf <;> cases hf
    exact ⟨fun k => qm_fa (qm_fa2 k).1 k, fun p e s m args below meth c H locs Q ls C _ k => lv_dup C.1 C.2.1 hd (qm_c1_cat hv) k⟩
theorem os_pop {pc : Nat} (hd : decode cc pc = .ok (.pop, 1)) : qm_K Λ V hold A l R cc nL own Ts ret pc (pc + 1) (o_stk f_pop) := by
  refine os_stk fun S cs S' hf hc => ?_
  rcases S with _ | ⟨v, S⟩
  · cases hf
  · unfold f_pop at hf
    dsimp only at hf
    cases hv : qm_c1 v <;> rw [hv] at hf <;> cases hf
    exact ⟨fun k => (qm_fa2 k).2, fun p e s m args below meth c H locs Q ls C _ k => lv_pop C.1 C.2.1 hd (qm_c1_cat hv) k⟩
theorem os_dupx1 {pc : Nat} (hd : decode cc pc = .ok (.dup_x1, 1)) : qm_K Λ V hold A l R cc nL own Ts ret pc (pc + 1) (o_stk f_dupx1) := by
  refine os_stk fun S cs S' hf hc => ?_
  rcases S with _ | ⟨v, _ | ⟨w, S⟩⟩
  · cases hf
  · cases hf
  · unfold f_dupx1 at hf
    dsimp only at hf
    cases hv : qm_c1 v <;> cases hw : qm_c1 w <;> rw [hv, hw] at hf <;> cases hf
    exact ⟨fun k => qm_fa (qm_fa2 k).1 (qm_fa (qm_fa2 (qm_fa2 k).2).1 (qm_fa (qm_fa2 k).1 (qm_fa2 (qm_fa2 k).2).2)), fun p e s m args below meth c H locs Q ls C _ k => lv_dup_x1 C.1 C.2.1 hd (qm_c1_cat hv) (qm_c1_cat hw) k⟩
theorem os_dup2 {pc : Nat} (hd : decode cc pc = .ok (.dup2, 1)) : qm_K Λ V hold A l R cc nL own Ts ret pc (pc + 1) (o_stk f_dup2) := by
  refine os_stk fun S cs S' hf hc => ?_
  rcases S with _ | ⟨v, _ | ⟨w, S⟩⟩
  · cases hf
  · cases hf
  · unfold f_dup2 at hf
    dsimp only at hf
    cases hv : qm_c1 v <;> cases hw : qm_c1 w <;> rw [hv, hw] at hf <;> cases hf
    exact ⟨fun k => qm_fa (qm_fa2 k).1 (qm_fa (qm_fa2 (qm_fa2 k).2).1 k), fun p e s m args below meth c H locs Q ls C _ k => lv_dup2_11 C.1 C.2.1 hd (qm_c1_cat hv) (qm_c1_cat hw) k⟩
-- loads and stores
def o_il (k : Nat) : qm_op G := fun o t => match qm_nth t.1 k with
  | some (.inl x) => ([], none, (t.1, .inl x :: t.2.1, t.2.2), o)
  | _ => ([False], none, t, o)
def o_ll (k : Nat) : qm_op G := fun o t => match qm_nth t.1 k with
  | some (.inr (.inl x)) => ([], none, (t.1, .inr (.inl x) :: t.2.1, t.2.2), o)
  | _ => ([False], none, t, o)
def o_al (k : Nat) : qm_op G := fun o t => match qm_nth t.1 k with
  | some (.inr (.inr x)) => ([], none, (t.1, .inr (.inr x) :: t.2.1, t.2.2), o)
  | _ => ([False], none, t, o)
theorem os_il' {pc nx k : Nat} (h : ∀ (p : Program) (e : Env) (s : State) (m : MethodId) (args : Array Value) (below : List Frame) (meth : Method) (c : Code) (H : Heap) (locs : List Loc) (Q : State → Prop) (ls : Array Slot) (x : Int32) (rest : List Value), CallFix p m c cc nL s args Ts own → ls[k]? = some (.val (.int x)) → W p l e R s m args below meth c H locs 0 0 Q (F0 m nx ls (.int x :: rest)) → W p l e R s m args below meth c H locs 0 0 Q (F0 m pc ls rest)) : qm_K Λ V hold A l R cc nL own Ts ret pc nx (o_il k) := by
  intro Fq p e s m args below meth c Q C o t hc hn H locs ls hA
  unfold o_il at hc hn
  obtain ⟨a1, a2, a3, a4, a5⟩ := hA
  rcases hf : qm_nth t.1 k with _ | x | x <;> rw [hf] at hc hn
  · exact hc.elim
  · exact h p e s m args below meth c H locs Q ls x _ C.1 (a4.at hf) (hn H locs ls ⟨a1, a2, qm_fa trivial a3, a4, a5⟩)
  · exact hc.elim
theorem os_ll' {pc nx k : Nat} (h : ∀ (p : Program) (e : Env) (s : State) (m : MethodId) (args : Array Value) (below : List Frame) (meth : Method) (c : Code) (H : Heap) (locs : List Loc) (Q : State → Prop) (ls : Array Slot) (x : Int64) (rest : List Value), CallFix p m c cc nL s args Ts own → ls[k]? = some (.val (.long x)) → W p l e R s m args below meth c H locs 0 0 Q (F0 m nx ls (.long x :: rest)) → W p l e R s m args below meth c H locs 0 0 Q (F0 m pc ls rest)) : qm_K Λ V hold A l R cc nL own Ts ret pc nx (o_ll k) := by
  intro Fq p e s m args below meth c Q C o t hc hn H locs ls hA
  unfold o_ll at hc hn
  obtain ⟨a1, a2, a3, a4, a5⟩ := hA
  rcases hf : qm_nth t.1 k with _ | x | x | x <;> rw [hf] at hc hn
  · exact hc.elim
  · exact hc.elim
  · exact h p e s m args below meth c H locs Q ls x _ C.1 (a4.at hf) (hn H locs ls ⟨a1, a2, qm_fa trivial a3, a4, a5⟩)
  · exact hc.elim
theorem os_al' {pc nx k : Nat} (h : ∀ (p : Program) (e : Env) (s : State) (m : MethodId) (args : Array Value) (below : List Frame) (meth : Method) (c : Code) (H : Heap) (locs : List Loc) (Q : State → Prop) (ls : Array Slot) (x : Option (Nat × Nat)) (rest : List Value), CallFix p m c cc nL s args Ts own → ls[k]? = some (.val (qm_cv Λ (.inr (.inr x)))) → W p l e R s m args below meth c H locs 0 0 Q (F0 m nx ls (qm_cv Λ (.inr (.inr x)) :: rest)) → W p l e R s m args below meth c H locs 0 0 Q (F0 m pc ls rest)) : qm_K Λ V hold A l R cc nL own Ts ret pc nx (o_al k) := by
  intro Fq p e s m args below meth c Q C o t hc hn H locs ls hA
  unfold o_al at hc hn
  obtain ⟨a1, a2, a3, a4, a5⟩ := hA
  rcases hf : qm_nth t.1 k with _ | x | x | x <;> rw [hf] at hc hn
  · exact hc.elim
  · exact hc.elim
  · exact hc.elim
  · exact h p e s m args below meth c H locs Q ls x _ C.1 (a4.at hf) (hn H locs ls ⟨a1, a2, qm_fa (a2 k _ hf) a3, a4, a5⟩)
theorem os_il_n {pc k : Nat} {j : Fin 4} (hd : decode cc pc = .ok (.iload_n j, 1)) (hj : (j : Nat) = k) : qm_K Λ V hold A l R cc nL own Ts ret pc (pc + 1) (o_il k) := os_il' fun p e s m args below meth c H locs Q ls x rest C hl k => lv_iload_n C.1 C.2.1 hd hj hl k
theorem os_il {pc k : Nat} (hd : decode cc pc = .ok (.iload k, 2)) : qm_K Λ V hold A l R cc nL own Ts ret pc (pc + 2) (o_il k) := os_il' fun p e s m args below meth c H locs Q ls x rest C hl k => lv_iload C.1 C.2.1 hd hl k
theorem os_ll_n {pc k : Nat} {j : Fin 4} (hd : decode cc pc = .ok (.lload_n j, 1)) (hj : (j : Nat) = k) : qm_K Λ V hold A l R cc nL own Ts ret pc (pc + 1) (o_ll k) := os_ll' fun p e s m args below meth c H locs Q ls x rest C hl k => lv_lload_n C.1 C.2.1 hd hj hl k
theorem os_ll {pc k : Nat} (hd : decode cc pc = .ok (.lload k, 2)) : qm_K Λ V hold A l R cc nL own Ts ret pc (pc + 2) (o_ll k) := os_ll' fun p e s m args below meth c H locs Q ls x rest C hl k => lv_lload C.1 C.2.1 hd hl k
theorem os_al_n {pc k : Nat} {j : Fin 4} (hd : decode cc pc = .ok (.aload_n j, 1)) (hj : (j : Nat) = k) : qm_K Λ V hold A l R cc nL own Ts ret pc (pc + 1) (o_al k) := os_al' fun p e s m args below meth c H locs Q ls x rest C hl k => by
  rcases x with _ | x
  · exact lv_aload_nN C.1 C.2.1 hd hj hl k
  · exact lv_aload_n C.1 C.2.1 hd hj hl k
theorem os_al {pc k : Nat} (hd : decode cc pc = .ok (.aload k, 2)) : qm_K Λ V hold A l R cc nL own Ts ret pc (pc + 2) (o_al k) := os_al' fun p e s m args below meth c H locs Q ls x rest C hl k => by
  rcases x with _ | x
  · exact lv_aloadN C.1 C.2.1 hd hl k
  · exact lv_aload C.1 C.2.1 hd hl k
def o_is (k : Nat) : qm_op G := fun o t => match t.2.1 with
  | .inl x :: S => ([], none, (qm_st1 t.1 k (.inl x), S, t.2.2), o)
  | _ => ([False], none, t, o)
def o_ls (k : Nat) : qm_op G := fun o t => match t.2.1 with
  | .inr (.inl x) :: S => ([], none, (qm_st2 t.1 k (.inr (.inl x)), S, t.2.2), o)
  | _ => ([False], none, t, o)
def o_as (k : Nat) : qm_op G := fun o t => match t.2.1 with
  | .inr (.inr x) :: S => ([], none, (qm_st1 t.1 k (.inr (.inr x)), S, t.2.2), o)
  | _ => ([False], none, t, o)
theorem qm_st1_ok {L : List (Option qm_v)} {k : Nat} {v : qm_v} (h : ∀ k v, qm_nth L k = some v → qm_ok V v) (hv : qm_ok V v) : ∀ i u, qm_nth (qm_st1 L k v) i = some u → qm_ok V u := fun i u hu => by
  rcases qm_st1_nth hu with ⟨-, rfl⟩ | ⟨-, h2, -⟩
  · exact hv
  · exact h i u h2
theorem qm_st2_ok {L : List (Option qm_v)} {k : Nat} {v : qm_v} (h : ∀ k v, qm_nth L k = some v → qm_ok V v) (hv : qm_ok V v) : ∀ i u, qm_nth (qm_st2 L k v) i = some u → qm_ok V u := fun i u hu => by
  rcases qm_st2_nth hu with ⟨-, rfl⟩ | ⟨-, -, h2, -⟩
  · exact hv
  · exact h i u h2
theorem os_is_n {pc k : Nat} {j : Fin 4} (hd : decode cc pc = .ok (.istore_n j, 1)) (hj : (j : Nat) = k) (hk : k < nL) : qm_K Λ V hold A l R cc nL own Ts ret pc (pc + 1) (o_is k) := by
  intro Fq p e s m args below meth c Q C o t hc hn H locs ls hA
  obtain ⟨L, S, g⟩ := t
  rcases S with _ | ⟨x | x, S⟩
  · exact hc.elim
  · obtain ⟨a1, a2, a3, a4, a5⟩ := hA
    exact lv_istore_n C.1.1 C.1.2.1 hd hj a4.1 hk rfl fun ls' hl' => hn H locs ls' ⟨a1, qm_st1_ok a2 trivial, (qm_fa2 a3).2, a4.st1 (v := .inl x) hl', a5⟩
  · exact hc.elim
theorem os_is {pc k : Nat} (hd : decode cc pc = .ok (.istore k, 2)) (hk : k < nL) : qm_K Λ V hold A l R cc nL own Ts ret pc (pc + 2) (o_is k) := by
  intro Fq p e s m args below meth c Q C o t hc hn H locs ls hA
  obtain ⟨L, S, g⟩ := t
  rcases S with _ | ⟨x | x, S⟩
  · exact hc.elim
  · obtain ⟨a1, a2, a3, a4, a5⟩ := hA
    exact lv_istore C.1.1 C.1.2.1 hd a4.1 hk rfl fun ls' hl' => hn H locs ls' ⟨a1, qm_st1_ok a2 trivial, (qm_fa2 a3).2, a4.st1 (v := .inl x) hl', a5⟩
  · exact hc.elim
theorem os_ls_n {pc k : Nat} {j : Fin 4} (hd : decode cc pc = .ok (.lstore_n j, 1)) (hj : (j : Nat) = k) (hk : k + 1 < nL) : qm_K Λ V hold A l R cc nL own Ts ret pc (pc + 1) (o_ls k) := by
  intro Fq p e s m args below meth c Q C o t hc hn H locs ls hA
  obtain ⟨L, S, g⟩ := t
  rcases S with _ | ⟨x | x | x, S⟩
  · exact hc.elim
  · exact hc.elim
  · obtain ⟨a1, a2, a3, a4, a5⟩ := hA
    exact lv_lstore_n C.1.1 C.1.2.1 hd hj a4.1 hk rfl fun ls' hl' => hn H locs ls' ⟨a1, qm_st2_ok a2 trivial, (qm_fa2 a3).2, a4.st2 (v := .inr (.inl x)) hk hl', a5⟩
  · exact hc.elim
theorem os_ls {pc k : Nat} (hd : decode cc pc = .ok (.lstore k, 2)) (hk : k + 1 < nL) : qm_K Λ V hold A l R cc nL own Ts ret pc (pc + 2) (o_ls k) := by
  intro Fq p e s m args below meth c Q C o t hc hn H locs ls hA
  obtain ⟨L, S, g⟩ := t
  rcases S with _ | ⟨x | x | x, S⟩
  · exact hc.elim
  · exact hc.elim
  · obtain ⟨a1, a2, a3, a4, a5⟩ := hA
    exact lv_lstore C.1.1 C.1.2.1 hd a4.1 hk rfl fun ls' hl' => hn H locs ls' ⟨a1, qm_st2_ok a2 trivial, (qm_fa2 a3).2, a4.st2 (v := .inr (.inl x)) hk hl', a5⟩
  · exact hc.elim
theorem os_as_n {pc k : Nat} {j : Fin 4} (hd : decode cc pc = .ok (.astore_n j, 1)) (hj : (j : Nat) = k) (hk : k < nL) : qm_K Λ V hold A l R cc nL own Ts ret pc (pc + 1) (o_as k) := by
  intro Fq p e s m args below meth c Q C o t hc hn H locs ls hA
  obtain ⟨L, S, g⟩ := t
  rcases S with _ | ⟨x | x | x, S⟩
  · exact hc.elim
  · exact hc.elim
  · exact hc.elim
  · obtain ⟨a1, a2, a3, a4, a5⟩ := hA
    rcases x with _ | x
    · exact lv_astore_nN C.1.1 C.1.2.1 hd hj a4.1 hk rfl fun ls' hl' => hn H locs ls' ⟨a1, qm_st1_ok a2 trivial, (qm_fa2 a3).2, a4.st1 (v := .inr (.inr none)) hl', a5⟩
    · exact lv_astore_n C.1.1 C.1.2.1 hd hj a4.1 hk rfl fun ls' hl' => hn H locs ls' ⟨a1, qm_st1_ok a2 (qm_fa2 a3).1, (qm_fa2 a3).2, a4.st1 (v := .inr (.inr (some x))) hl', a5⟩
theorem os_as {pc k : Nat} (hd : decode cc pc = .ok (.astore k, 2)) (hk : k < nL) : qm_K Λ V hold A l R cc nL own Ts ret pc (pc + 2) (o_as k) := by
  intro Fq p e s m args below meth c Q C o t hc hn H locs ls hA
  obtain ⟨L, S, g⟩ := t
  rcases S with _ | ⟨x | x | x, S⟩
  · exact hc.elim
  · exact hc.elim
  · exact hc.elim
  · obtain ⟨a1, a2, a3, a4, a5⟩ := hA
    rcases x with _ | x
    · exact lv_astoreN C.1.1 C.1.2.1 hd a4.1 hk rfl fun ls' hl' => hn H locs ls' ⟨a1, qm_st1_ok a2 trivial, (qm_fa2 a3).2, a4.st1 (v := .inr (.inr none)) hl', a5⟩
    · exact lv_astore C.1.1 C.1.2.1 hd a4.1 hk rfl fun ls' hl' => hn H locs ls' ⟨a1, qm_st1_ok a2 (qm_fa2 a3).1, (qm_fa2 a3).2, a4.st1 (v := .inr (.inr (some x))) hl', a5⟩
def o_inc (k : Nat) (d : Int32) : qm_op G := fun o t => match qm_nth t.1 k with
  | some (.inl x) => ([], none, (qm_st1 t.1 k (.inl (x + d)), t.2.1, t.2.2), o)
  | _ => ([False], none, t, o)
theorem os_inc {pc k : Nat} {n : Int} {d : Int32} (hd : decode cc pc = .ok (.iinc k n, 3)) (hv : Int32.ofInt n = d) (hk : k < nL) : qm_K Λ V hold A l R cc nL own Ts ret pc (pc + 3) (o_inc k d) := by
  intro Fq p e s m args below meth c Q C o t hc hn H locs ls hA
  unfold o_inc at hc hn
  obtain ⟨a1, a2, a3, a4, a5⟩ := hA
  rcases hf : qm_nth t.1 k with _ | x | x <;> rw [hf] at hc hn
  · exact hc.elim
  · have hm := qm_ll_mem (Λ := Λ) (i := 0) hf
    rw [Nat.zero_add] at hm
    obtain ⟨k0, hk0⟩ := List.getElem?_of_mem hm
    exact lv_iinc (v := x + d) C.1.1 C.1.2.1 hd a4.1 hk0 (by rw [hv]) hk rfl fun ls' hl' => hn H locs ls' ⟨a1, qm_st1_ok a2 trivial, a3, a4.st1 (v := .inl (x + d)) hl', a5⟩
  · exact hc.elim
-- branches
def o_br (T : List qm_v → Option (Prop × Prop × List qm_v)) (tg : Nat) : qm_op G := fun o t => match o.1 with
  | 0 :: ds => match T t.2.1 with
    | some (_, cf, S) => ([cf], none, (t.1, S, t.2.2), (ds, o.2))
    | none => ([False], none, t, o)
  | (_ + 1) :: ds => match T t.2.1 with
    | some (ct, _, S) => ([ct], some (some tg), (t.1, S, t.2.2), (ds, o.2))
    | none => ([False], none, t, o)
  | [] => ([False], none, t, o)
theorem os_br {T : List qm_v → Option (Prop × Prop × List qm_v)} {tg pc nx : Nat} (hT : ∀ (S : List qm_v) (ct cf : Prop) (S' : List qm_v), T S = some (ct, cf, S') → ((∀ v ∈ S, qm_ok V v) → ∀ v ∈ S', qm_ok V v) ∧ (ct → qm_row Λ l R cc nL own Ts pc tg S S') ∧ (cf → qm_row Λ l R cc nL own Ts pc nx S S')) : qm_K Λ V hold A l R cc nL own Ts ret pc nx (o_br T tg) := by
  intro Fq p e s m args below meth c Q C o t hc hn H locs ls hA
  obtain ⟨d, o2⟩ := o
  obtain ⟨L, S, g⟩ := t
  obtain ⟨a1, a2, a3, a4, a5⟩ := hA
  rcases d with _ | ⟨_ | d, ds⟩
  · exact hc.elim
  · unfold o_br at hc hn
    dsimp only at hc hn
    rcases hf : T S with _ | ⟨ct, cf, S'⟩ <;> rw [hf] at hc hn
    · exact hc.elim
    · obtain ⟨h1, -, h3⟩ := hT _ _ _ _ hf
      exact h3 hc p e s m args below meth c H locs Q ls C.1 a4.1.1 (hn H locs ls ⟨a1, a2, h1 a3, a4, a5⟩)
  · unfold o_br at hc hn
    dsimp only at hc hn
    rcases hf : T S with _ | ⟨ct, cf, S'⟩ <;> rw [hf] at hc hn
    · exact hc.elim
    · obtain ⟨h1, h2, -⟩ := hT _ _ _ _ hf
      exact h2 hc p e s m args below meth c H locs Q ls C.1 a4.1.1 (hn H locs ls ⟨a1, a2, h1 a3, a4, a5⟩)
/-- two ints compared; an int with 0 -/
def t_ii (f g : Int32 → Int32 → Prop) : List qm_v → Option (Prop × Prop × List qm_v)
  | .inl y :: .inl x :: S => some (f x y, g x y, S)
  | _ => none
def t_i (f g : Int32 → Prop) : List qm_v → Option (Prop × Prop × List qm_v)
  | .inl x :: S => some (f x, g x, S)
  | _ => none
def t_nul : List qm_v → Option (Prop × Prop × List qm_v)
  | .inr (.inr none) :: S => some (True, False, S)
  | .inr (.inr (some _)) :: S => some (False, True, S)
  | _ => none
def t_nnul : List qm_v → Option (Prop × Prop × List qm_v)
  | .inr (.inr none) :: S => some (False, True, S)
  | .inr (.inr (some _)) :: S => some (True, False, S)
  | _ => none
theorem os_ii {f g : Int32 → Int32 → Prop} {tg pc nx : Nat} (h1 : ∀ (x y : Int32) (S : List qm_v), f x y → qm_row Λ l R cc nL own Ts pc tg (qI y :: qI x :: S) S) (h2 : ∀ (x y : Int32) (S : List qm_v), g x y → qm_row Λ l R cc nL own Ts pc nx (qI y :: qI x :: S) S) : qm_K Λ V hold A l R cc nL own Ts ret pc nx (o_br (t_ii f g) tg) := by
  refine os_br fun S ct cf S' hf => ?_
  rcases S with _ | ⟨y | y, _ | ⟨x | x, S⟩⟩ <;> cases hf
  exact ⟨fun k => (qm_fa2 (qm_fa2 k).2).2, h1 x y _, h2 x y _⟩
theorem os_i {f g : Int32 → Prop} {tg pc nx : Nat} (h1 : ∀ (x : Int32) (S : List qm_v), f x → qm_row Λ l R cc nL own Ts pc tg (qI x :: S) S) (h2 : ∀ (x : Int32) (S : List qm_v), g x → qm_row Λ l R cc nL own Ts pc nx (qI x :: S) S) : qm_K Λ V hold A l R cc nL own Ts ret pc nx (o_br (t_i f g) tg) := by
  refine os_br fun S ct cf S' hf => ?_
  rcases S with _ | ⟨x | x, S⟩ <;> cases hf
  exact ⟨fun k => (qm_fa2 k).2, h1 x _, h2 x _⟩
theorem os_null {tg pc : Nat} {off : Int} (hd : decode cc pc = .ok (.ifnull off, 3)) (ht : (pc : Int) + off = (tg : Int)) : qm_K Λ V hold A l R cc nL own Ts ret pc (pc + 3) (o_br t_nul tg) := by
  refine os_br fun S ct cf S' hf => ?_
  rcases S with _ | ⟨x | x | _ | x, S⟩ <;> cases hf
  · exact ⟨fun k => (qm_fa2 k).2, fun _ p e s m args below meth c H locs Q ls C _ k => lv_ifnullN C.1 C.2.1 hd ht k, fun h => h.elim⟩
  · exact ⟨fun k => (qm_fa2 k).2, fun h => h.elim, fun _ p e s m args below meth c H locs Q ls C _ k => lv_ifnull C.1 C.2.1 hd k⟩
theorem os_nonnull {tg pc : Nat} {off : Int} (hd : decode cc pc = .ok (.ifnonnull off, 3)) (ht : (pc : Int) + off = (tg : Int)) : qm_K Λ V hold A l R cc nL own Ts ret pc (pc + 3) (o_br t_nnul tg) := by
  refine os_br fun S ct cf S' hf => ?_
  rcases S with _ | ⟨x | x | _ | x, S⟩ <;> cases hf
  · exact ⟨fun k => (qm_fa2 k).2, fun h => h.elim, fun _ p e s m args below meth c H locs Q ls C _ k => lv_ifnonnullN C.1 C.2.1 hd k⟩
  · exact ⟨fun k => (qm_fa2 k).2, fun _ p e s m args below meth c H locs Q ls C _ k => lv_ifnonnull C.1 C.2.1 hd ht k, fun h => h.elim⟩
def o_go (tg : Nat) : qm_op G := fun o t => ([], some (some tg), t, o)
theorem os_go {tg pc nx : Nat} {off : Int} (hd : decode cc pc = .ok (.goto off, 3)) (ht : (pc : Int) + off = (tg : Int)) : qm_K Λ V hold A l R cc nL own Ts ret pc nx (o_go tg) := by
  intro Fq p e s m args below meth c Q C o t hc hn H locs ls hA
  exact lv_goto C.1.1 C.1.2.1 hd ht (hn H locs ls hA)
/-- a switch: the oracle says which case, 0 the default -/
def o_sw (cs : List (Int32 × Nat)) (df : Nat) : qm_op G := fun o t => match t.2.1 with
  | .inl x :: S => match o.1 with
    | 0 :: ds => ([∀ q ∈ cs, ¬ x = q.1], some (some df), (t.1, S, t.2.2), (ds, o.2))
    | (n + 1) :: ds => match cs[n]? with
      | some q => ([x = q.1], some (some q.2), (t.1, S, t.2.2), (ds, o.2))
      | none => ([False], none, t, o)
    | [] => ([False], none, t, o)
  | _ => ([False], none, t, o)
theorem os_sw {cs : List (Int32 × Nat)} {df pc nx : Nat} (h1 : ∀ (x : Int32) (S : List qm_v), (∀ q ∈ cs, ¬ x = q.1) → qm_row Λ l R cc nL own Ts pc df (qI x :: S) S) (h2 : ∀ q ∈ cs, ∀ S : List qm_v, qm_row Λ l R cc nL own Ts pc q.2 (qI q.1 :: S) S) : qm_K Λ V hold A l R cc nL own Ts ret pc nx (o_sw cs df) := by
  intro Fq p e s m args below meth c Q C o t hc hn H locs ls hA
  obtain ⟨d, o2⟩ := o
  obtain ⟨L, S, g⟩ := t
  obtain ⟨a1, a2, a3, a4, a5⟩ := hA
  rcases S with _ | ⟨x | x, S⟩
  · exact hc.elim
  · rcases d with _ | ⟨_ | d, ds⟩
    · exact hc.elim
    · exact h1 x S hc p e s m args below meth c H locs Q ls C.1 a4.1.1 (hn H locs ls ⟨a1, a2, (qm_fa2 a3).2, a4, a5⟩)
    · unfold o_sw at hc hn
      dsimp only at hc hn
      rcases hf : cs[d]? with _ | q <;> rw [hf] at hc hn
      · exact hc.elim
      · have hq : x = q.1 := hc
        subst hq
        exact h2 q (List.mem_of_getElem? hf) S p e s m args below meth c H locs Q ls C.1 a4.1.1 (hn H locs ls ⟨a1, a2, (qm_fa2 a3).2, a4, a5⟩)
  · exact hc.elim
/-- a tableswitch by its table: lo, the offsets; cs names the places that aren't the default's -/
theorem os_table {cs : List (Int32 × Nat)} {df pc nx len : Nat} {dflt lo hi : Int} {offs : Array Int} (hd : decode cc pc = .ok (.tableswitch dflt lo hi offs, len)) (hdf : (pc : Int) + dflt = (df : Int)) (hlo : -2147483648 ≤ lo ∧ hi ≤ 2147483647 ∧ (offs.size : Int) = hi - lo + 1)
    (hcs : (cs.all fun q => decide (lo ≤ q.1.toInt) && decide (q.1.toInt ≤ hi) && match offs[(q.1.toInt - lo).toNat]? with | some off => decide ((pc : Int) + off = (q.2 : Int)) | none => false) = true)
    (hall : ((List.range offs.size).all fun n => (cs.any fun q => decide (q.1.toInt = lo + n)) || (match offs[n]? with | some off => decide (off = dflt) | none => false)) = true) : qm_K Λ V hold A l R cc nL own Ts ret pc nx (o_sw cs df) := by
  refine os_sw (fun x S hx p e s m args below meth c H locs Q ls C _ k => ?_) (fun q hq S p e s m args below meth c H locs Q ls C _ k => ?_)
  · by_cases h1 : x.toInt < lo
    · exact lv_tableOut C.1 C.2.1 hd (Or.inl h1) hdf k
    · by_cases h2 : hi < x.toInt
      · exact lv_tableOut C.1 C.2.1 hd (Or.inr h2) hdf k
      · have hn : (x.toInt - lo).toNat < offs.size := by omega
        have h3 := List.all_eq_true.mp hall _ (List.mem_range.mpr hn)
        rw [Bool.or_eq_true] at h3
        rcases h3 with h3 | h3
        · obtain ⟨q, hq, hqe⟩ := List.any_eq_true.mp h3
          have hqe := of_decide_eq_true hqe
          exact absurd (Int32.toInt_inj.mp (show x.toInt = q.1.toInt by rw [hqe]; omega)) (hx q hq)
        · rcases ho : offs[(x.toInt - lo).toNat]? with _ | off <;> rw [ho] at h3
          · cases h3
          · have := of_decide_eq_true h3
            subst this
            exact lv_tableIn C.1 C.2.1 hd h1 h2 ho hdf k
  · have h3 := List.all_eq_true.mp hcs q hq
    rw [Bool.and_eq_true, Bool.and_eq_true] at h3
    obtain ⟨⟨h4, h5⟩, h6⟩ := h3
    have h4 := of_decide_eq_true h4
    have h5 := of_decide_eq_true h5
    rcases ho : offs[(q.1.toInt - lo).toNat]? with _ | off <;> rw [ho] at h6
    · cases h6
    · exact lv_tableIn C.1 C.2.1 hd (by omega) (by omega) ho (of_decide_eq_true h6) k
theorem qm_lk_out : ∀ {ps : List (Int × Int)} {d x : Int}, (∀ q ∈ ps, ¬ q.1 = x) → Op.lookupswitch.offset ps d x = d
  | [], d, x, _ => rfl
  | (a, o) :: r, d, x, h => by
    rw [Op.lookupswitch.offset_cons, if_neg (h (a, o) List.mem_cons_self)]
    exact qm_lk_out fun q hq => h q (List.mem_cons_of_mem _ hq)
/-- a lookupswitch by its pairs -/
theorem os_look {cs : List (Int32 × Nat)} {df pc nx len : Nat} {dflt : Int} {ps : Array (Int × Int)} (hd : decode cc pc = .ok (.lookupswitch dflt ps, len)) (hp : (ps.toList.zip (ps.toList.drop 1)).all (fun (a, next) => a.1 < next.1) = true) (hdf : (pc : Int) + dflt = (df : Int))
    (hcs : (cs.all fun q => decide ((pc : Int) + Op.lookupswitch.offset ps.toList dflt q.1.toInt = (q.2 : Int))) = true)
    (hall : (ps.toList.all fun z => cs.any fun q => decide (q.1.toInt = z.1)) = true) : qm_K Λ V hold A l R cc nL own Ts ret pc nx (o_sw cs df) := by
  refine os_sw (fun x S hx p e s m args below meth c H locs Q ls C _ k => ?_) (fun q hq S p e s m args below meth c H locs Q ls C _ k => ?_)
  · refine lv_lookup C.1 C.2.1 hd hp (qm_lk_out fun z hz he => ?_) hdf k
    obtain ⟨q, hq, hqe⟩ := List.any_eq_true.mp (List.all_eq_true.mp hall z hz)
    have hqe := of_decide_eq_true hqe
    exact hx q hq (Int32.toInt_inj.mp (by rw [hqe, he]))
  · exact lv_lookup C.1 C.2.1 hd hp rfl (of_decide_eq_true (List.all_eq_true.mp hcs q hq)) k
end QMO
end
section
/-- the heap holds a system's state g: every place that there is holds its cell; 'ex' is what is held beside (statics, texts) -/
def qm_hold {G : Type} (D : va_G) (cl : List vw_C) (tys : List (ClassId × FieldType)) (Λ : Nat → Nat → Nat) (V : Nat → Nat → Prop) (ce : G → Nat → Nat → va_E) (okg : G → Prop) (ex : State → Heap → Prop) : State → G → Heap → Prop := fun s g H =>
  va_K D cl tys s ∧ (∀ k i, V k i → va_at D cl (Λ k i, ce g k i) H) ∧ okg g ∧ ex s H
section QMH
variable {G : Type} {D : va_G} {cl : List vw_C} {tys : List (ClassId × FieldType)} {Λ : Nat → Nat → Nat} {V : Nat → Nat → Prop} {ce : G → Nat → Nat → va_E} {okg : G → Prop} {ex : State → Heap → Prop} {A : Nat → Prop} {l : Launch} {R : Room} {cc : ByteArray} {nL : Nat} {own : String} {Ts : List Cond} {ret : Option FieldType}
/-- places are apart, and lie in A; what is beside stays when A alone changes, and when tables move -/
def qm_sys (Λ : Nat → Nat → Nat) (V : Nat → Nat → Prop) (ex : State → Heap → Prop) (A : Nat → Prop) : Prop :=
  (∀ k i k' i', V k i → V k' i' → Λ k i = Λ k' i' → k = k' ∧ i = i') ∧ (∀ k i, V k i → A (Λ k i)) ∧ (∀ (s : State) (H H1 : Heap), ex s H → (∀ q : Nat, q < H.size → ¬ A q → H1[q]? = H[q]?) → ex s H1) ∧ ∀ (s t : State) (H : Heap), s.vm.Alike t.vm → ex s H → ex t H
theorem qm_hold.moved (hsys : qm_sys Λ V ex A) {s t : State} {g : G} {H : Heap} (hv : s.vm.Alike t.vm) (h : qm_hold D cl tys Λ V ce okg ex s g H) : qm_hold D cl tys Λ V ce okg ex t g H := ⟨va_K.moved hv h.1, h.2.1, h.2.2.1, hsys.2.2.2 s t H hv h.2.2.2⟩
theorem qm_one {D : va_G} {cl : List vw_C} {a : Nat} {e : va_E} {H : Heap} (h : va_at D cl (a, e) H) : va_P D cl [(a, e)] H := by
  intro k q hk
  have hz : k < 1 := (List.getElem?_eq_some_iff.mp hk).1
  rw [show k = 0 by omega] at hk
  cases hk
  exact h
/-- a cell is written: the heap holds the new state -/
theorem qm_hold.set (hsys : qm_sys Λ V ex A) {s : State} {g g' : G} {H H1 : Heap} {kd i : Nat} (h : qm_hold D cl tys Λ V ce okg ex s g H) (hV : V kd i) (hg : okg g') (hat : va_at D cl (Λ kd i, ce g' kd i) H1) (hz : H1.size = H.size) (oq : ∀ q : Nat, q ≠ Λ kd i → H1[q]? = H[q]?) (ho : ∀ k j, V k j → (k ≠ kd ∨ j ≠ i) → ce g' k j = ce g k j) : qm_hold D cl tys Λ V ce okg ex s g' H1 := by
  refine ⟨h.1, fun k j hkj => ?_, hg, hsys.2.2.1 s H H1 h.2.2.2 (fun q _ hq => oq q (fun e => hq (e ▸ hsys.2.1 kd i hV)))⟩
  by_cases he : k = kd ∧ j = i
  · obtain ⟨rfl, rfl⟩ := he
    exact hat
  · have hne : k ≠ kd ∨ j ≠ i := by
      by_cases hk : k = kd
      · exact Or.inr fun hj => he ⟨hk, hj⟩
      · exact Or.inl hk
    rw [ho k j hkj hne]
    exact (h.2.1 k j hkj).kept (oq _ (fun e => he (hsys.1 k j kd i hkj hV e)))
def o_get (kd : Nat) (fd : G → Nat → qm_v) : qm_op G := fun o t => match t.2.1 with
  | .inr (.inr (some (k, i))) :: S => match Nat.beq k kd with
    | true => ([], none, (t.1, fd t.2.2 i :: S, t.2.2), o)
    | false => ([False], none, t, o)
  | _ => ([False], none, t, o)
theorem os_get {kd f ci N pc idx : Nat} {C : String} {T : u_T} {fd : G → Nat → qm_v} (hd : decode cc pc = .ok (.getfield idx, 3)) (hc : cl[ci]? = some (C, T, N)) (hin : ∀ w ∈ u_ws C T N, w ∈ Ts) (hf : f < N) (hlk : Cond.fieldLink own idx (T f).1 (T f).2.1 (T f).2.2.1 ∈ Ts)
    (hce : ∀ (g : G) (i : Nat), V kd i → okg g → ∃ fs, ce g kd i = .inr (ci, fs) ∧ fs[f]? = some (qm_cv Λ (fd g i)) ∧ qm_ok V (fd g i)) : qm_K Λ V (qm_hold D cl tys Λ V ce okg ex) A l R cc nL own Ts ret pc (pc + 3) (o_get kd fd) := by
  intro Fq p e s m args below meth c Q C0 o t hc1 hn H locs ls hA
  obtain ⟨L, S, g⟩ := t
  obtain ⟨a1, a2, a3, a4, a5⟩ := hA
  rcases S with _ | ⟨x | x | _ | ⟨k, i⟩, S⟩
  · exact hc1.elim
  · exact hc1.elim
  · exact hc1.elim
  · exact hc1.elim
  · unfold o_get at hc1 hn
    dsimp only at hc1 hn
    cases hb : Nat.beq k kd <;> rw [hb] at hc1 hn
    · exact hc1.elim
    · have hk := Nat.eq_of_beq_eq_true hb
      subst hk
      obtain ⟨b1, b2⟩ := qm_fa2 a3
      obtain ⟨fs, e1, e2, e3⟩ := hce g i b1 a1.2.2.1
      have hat := a1.2.1 k i b1
      rw [e1] at hat
      exact va_get C0.1.1 C0.1.2.1 C0.1.2.2.2.2 hin C0.1.2.2.2.1 a1.1 (qm_one hat) 0 rfl hc f hf (C0.1.2.2.2.2 _ hlk) (fun _ h9 => h9) e2 hd (hn H locs ls ⟨a1, a2, qm_fa e3 b2, a4, a5⟩)
/-- a field that may hold null: the oracle says what it holds -/
def o_getq (kd : Nat) (fd : G → Nat → Option (Nat × Nat)) : qm_op G := fun o t => match t.2.1 with
  | .inr (.inr (some (k, i))) :: S => match Nat.beq k kd with
    | true => match o.2.1 with
      | r :: rs => ([fd t.2.2 i = r], none, (t.1, .inr (.inr r) :: S, t.2.2), (o.1, rs, o.2.2))
      | [] => ([False], none, t, o)
    | false => ([False], none, t, o)
  | _ => ([False], none, t, o)
theorem os_getq {kd f ci N pc idx : Nat} {C : String} {T : u_T} {fd : G → Nat → Option (Nat × Nat)} (hd : decode cc pc = .ok (.getfield idx, 3)) (hc : cl[ci]? = some (C, T, N)) (hin : ∀ w ∈ u_ws C T N, w ∈ Ts) (hf : f < N) (hlk : Cond.fieldLink own idx (T f).1 (T f).2.1 (T f).2.2.1 ∈ Ts)
    (hce : ∀ (g : G) (i : Nat), V kd i → okg g → ∃ fs, ce g kd i = .inr (ci, fs) ∧ fs[f]? = some (qm_cv Λ (.inr (.inr (fd g i)))) ∧ qm_ok V (.inr (.inr (fd g i)))) : qm_K Λ V (qm_hold D cl tys Λ V ce okg ex) A l R cc nL own Ts ret pc (pc + 3) (o_getq kd fd) := by
  intro Fq p e s m args below meth c Q C0 o t hc1 hn H locs ls hA
  obtain ⟨L, S, g⟩ := t
  obtain ⟨o1, o2, o3⟩ := o
  obtain ⟨a1, a2, a3, a4, a5⟩ := hA
  rcases S with _ | ⟨x | x | _ | ⟨k, i⟩, S⟩
  · exact hc1.elim
  · exact hc1.elim
  · exact hc1.elim
  · exact hc1.elim
  · unfold o_getq at hc1 hn
    dsimp only at hc1 hn
    cases hb : Nat.beq k kd <;> rw [hb] at hc1 hn
    · exact hc1.elim
    · have hk := Nat.eq_of_beq_eq_true hb
      subst hk
      obtain ⟨b1, b2⟩ := qm_fa2 a3
      rcases o2 with _ | ⟨r, rs⟩
      · exact hc1.elim
      · have hr : fd g i = r := hc1
        obtain ⟨fs, e1, e2, e3⟩ := hce g i b1 a1.2.2.1
        rw [hr] at e2 e3
        have hat := a1.2.1 k i b1
        rw [e1] at hat
        exact va_get C0.1.1 C0.1.2.1 C0.1.2.2.2.2 hin C0.1.2.2.2.1 a1.1 (qm_one hat) 0 rfl hc f hf (C0.1.2.2.2.2 _ hlk) (fun _ h9 => h9) e2 hd (hn H locs ls ⟨a1, a2, qm_fa e3 b2, a4, a5⟩)
def o_put (kd : Nat) (sf : G → Nat → qm_v → Option (List Prop × G)) : qm_op G := fun o t => match t.2.1 with
  | v :: .inr (.inr (some (k, i))) :: S => match Nat.beq k kd with
    | true => match sf t.2.2 i v with
      | some (cs, g) => (cs, none, (t.1, S, g), o)
      | none => ([False], none, t, o)
    | false => ([False], none, t, o)
  | _ => ([False], none, t, o)
theorem os_put (hsys : qm_sys Λ V ex A) {kd f ci N pc idx : Nat} {C : String} {T : u_T} {ty0 : Nat → FieldType} {ty : FieldType} {sf : G → Nat → qm_v → Option (List Prop × G)} (hd : decode cc pc = .ok (.putfield idx, 3)) (hc : cl[ci]? = some (C, T, N)) (hin : ∀ w ∈ u_ws C T N, w ∈ Ts) (hty : ∀ k, k < N → parseFieldDescriptor (T k).2.2.1 = some (ty0 k)) (hnm : ∀ a, a < N → ∀ b, b < N → a ≠ b → (T a).2.1 ≠ (T b).2.1) (hf : f < N) (hlk : Cond.fieldLink own idx (T f).1 (T f).2.1 (T f).2.2.1 ∈ Ts) (hfin : (T f).2.2.2 = false) (hdt : parseFieldDescriptor (T f).2.2.1 = some ty)
    (hsf : ∀ (g : G) (i : Nat) (v : qm_v) (cs : List Prop) (g' : G), V kd i → okg g → qm_ok V v → sf g i v = some (cs, g') → qm_all cs → okg g' ∧ (∃ fs, ce g kd i = .inr (ci, fs) ∧ f < fs.length ∧ ce g' kd i = .inr (ci, fs.set f (qm_cv Λ v))) ∧ (∀ k j, V k j → (k ≠ kd ∨ j ≠ i) → ce g' k j = ce g k j) ∧ narrow ty (qm_cv Λ v) = qm_cv Λ v ∧ fits ty (qm_cv Λ v) = true) : qm_K Λ V (qm_hold D cl tys Λ V ce okg ex) A l R cc nL own Ts ret pc (pc + 3) (o_put kd sf) := by
  intro Fq p e s m args below meth c Q C0 o t hc1 hn H locs ls hA
  obtain ⟨L, S, g⟩ := t
  obtain ⟨a1, a2, a3, a4, a5⟩ := hA
  rcases S with _ | ⟨v, _ | ⟨x | x | _ | ⟨k, i⟩, S⟩⟩
  · exact hc1.elim
  · exact hc1.elim
  · exact hc1.elim
  · exact hc1.elim
  · exact hc1.elim
  · unfold o_put at hc1 hn
    dsimp only at hc1 hn
    cases hb : Nat.beq k kd <;> rw [hb] at hc1 hn
    · exact hc1.elim
    · dsimp only at hc1 hn
      have hk := Nat.eq_of_beq_eq_true hb
      subst hk
      obtain ⟨b1, b2⟩ := qm_fa2 a3
      obtain ⟨b2, b3⟩ := qm_fa2 b2
      rcases hs : sf g i v with _ | ⟨cs, g'⟩ <;> rw [hs] at hc1 hn
      · exact hc1.elim
      · obtain ⟨e1, ⟨fs, e2, e3, e4⟩, e5, e6, e7⟩ := hsf g i v cs g' b2 a1.2.2.1 b1 hs hc1
        have hat := a1.2.1 k i b2
        rw [e2] at hat
        have hts := C0.1.2.2.2.2
        have hap := va_apart (own := own) hts hin ty0 hty hnm a1.1 hc
        obtain ⟨r, h1, cell, q1, q2, q3, q4⟩ := hat
        have hr : r = (C, T, N) := Option.some.inj (h1.symm.trans hc)
        subst hr
        obtain ⟨hS, hfc, kC, hkC, hkind⟩ := a1.1.1 ci _ hc
        obtain ⟨cf, kf, fi, fl, hi, hsl⟩ := hS f hf
        have hlay := hts _ (hin _ (u_in_lay hf))
        unfold u_lay at hlay
        rw [if_neg (by rw [hfin]; decide)] at hlay
        have hst := (u_facts hfc hkC (u_lays hts hin hf) hi).1
        have h6 := u_store hfc hkC hkind hlay hi hdt e6 e7
        refine W.putK C0.1.1 C0.1.2.1 (f := fl) ⟨C0.1.2.2.2.1, hts _ hlk, ⟨_, _, _, hi⟩, hst⟩ (by rw [q2]; exact h6) q1 q3 (by rw [hsl]; exact k2_hasslot (q4 f hf)) rfl rfl hd fun H' z1 z2 z3 => ?_
        rw [hsl] at z1 ⊢
        refine hn H' _ ls ⟨a1.set hsys b2 e1 ?_ z2 z3 e5, a2, b3, a4, a5.put z2 z3 (hsys.2.1 k i b2)⟩
        rw [e4]
        exact ⟨_, hc, t_OB.to (V := updV (vp_V fs) f (qm_cv Λ v)) ⟨_, z1, q2, q3, t_set q4 hap hf _⟩ (fun j _ => vp_updV_set e3 _ j)⟩
-- arrays of numbers
def o_ald (kd : Nat) (ln : G → Nat → Nat) (rd : G → Nat → Nat → Int32) : qm_op G := fun o t => match t.2.1 with
  | .inl x :: .inr (.inr (some (k, i))) :: S => match Nat.beq k kd with
    | true => ([vp_in x (ln t.2.2 i)], none, (t.1, .inl (rd t.2.2 i x.toNatClampNeg) :: S, t.2.2), o)
    | false => ([False], none, t, o)
  | _ => ([False], none, t, o)
theorem os_ald' {kd pc : Nat} {ln : G → Nat → Nat} {rd : G → Nat → Nat → Int32}
    (hrow : ∀ (p : Program) (e : Env) (s : State) (m : MethodId) (args : Array Value) (below : List Frame) (meth : Method) (c : Code) (H : Heap) (locs : List Loc) (Q : State → Prop) (ls : Array Slot) (g : G) (i : Nat) (x : Int32) (rest : List Value), CallFix p m c cc nL s args Ts own → V kd i → va_K D cl tys s → okg g → va_at D cl (Λ kd i, ce g kd i) H → vp_in x (ln g i) → W p l e R s m args below meth c H locs 0 0 Q (F0 m (pc + 1) ls (.int (rd g i x.toNatClampNeg) :: rest)) → W p l e R s m args below meth c H locs 0 0 Q (F0 m pc ls (.int x :: .ref (Λ kd i) :: rest))) : qm_K Λ V (qm_hold D cl tys Λ V ce okg ex) A l R cc nL own Ts ret pc (pc + 1) (o_ald kd ln rd) := by
  intro Fq p e s m args below meth c Q C0 o t hc1 hn H locs ls hA
  obtain ⟨L, S, g⟩ := t
  obtain ⟨a1, a2, a3, a4, a5⟩ := hA
  rcases S with _ | ⟨x | x, _ | ⟨z | z | _ | ⟨k, i⟩, S⟩⟩
  case cons.inl.cons.inr.inr.some =>
    unfold o_ald at hc1 hn
    dsimp only at hc1 hn
    cases hb : Nat.beq k kd <;> rw [hb] at hc1 hn
    · exact hc1.elim
    · have hk := Nat.eq_of_beq_eq_true hb
      subst hk
      obtain ⟨-, b2⟩ := qm_fa2 a3
      obtain ⟨b2, b3⟩ := qm_fa2 b2
      exact hrow p e s m args below meth c H locs Q ls g i x _ C0.1 b2 a1.1 a1.2.2.1 (a1.2.1 k i b2) hc1 (hn H locs ls ⟨a1, a2, qm_fa trivial b3, a4, a5⟩)
  all_goals exact hc1.elim
theorem os_iald {kd pc t0 : Nat} {cA : ClassId} {ln : G → Nat → Nat} {rd : G → Nat → Nat → Int32} (hd : decode cc pc = .ok (.iaload, 1)) (ht : tys[t0]? = some (cA, .int)) (hce : ∀ (g : G) (i : Nat), V kd i → ce g kd i = .inl (cA, ln g i, .inl (rd g i))) : qm_K Λ V (qm_hold D cl tys Λ V ce okg ex) A l R cc nL own Ts ret pc (pc + 1) (o_ald kd ln rd) :=
  os_ald' fun p e s m args below meth c H locs Q ls g i x rest C hV hK _ hat hin k => by
    rw [hce g i hV] at hat
    exact va_iald C.1 C.2.1 hK (qm_one hat) 0 t0 rfl ht hin hd k
theorem os_bald {kd pc t0 : Nat} {cA : ClassId} {ln : G → Nat → Nat} {rd : G → Nat → Nat → Int32} (hd : decode cc pc = .ok (.baload, 1)) (ht : tys[t0]? = some (cA, .byte)) (hce : ∀ (g : G) (i : Nat), V kd i → ce g kd i = .inl (cA, ln g i, .inl (rd g i))) : qm_K Λ V (qm_hold D cl tys Λ V ce okg ex) A l R cc nL own Ts ret pc (pc + 1) (o_ald kd ln rd) :=
  os_ald' fun p e s m args below meth c H locs Q ls g i x rest C hV hK _ hat hin k => by
    rw [hce g i hV] at hat
    exact va_bald C.1 C.2.1 hK (qm_one hat) 0 t0 rfl ht hin hd k
def o_ast (kd : Nat) (ln : G → Nat → Nat) (wr : G → Nat → Nat → Int32 → G) : qm_op G := fun o t => match t.2.1 with
  | .inl v :: .inl x :: .inr (.inr (some (k, i))) :: S => match Nat.beq k kd with
    | true => ([vp_in x (ln t.2.2 i)], none, (t.1, S, wr t.2.2 i x.toNatClampNeg v), o)
    | false => ([False], none, t, o)
  | _ => ([False], none, t, o)
theorem os_ast' (hsys : qm_sys Λ V ex A) {kd pc : Nat} {ln : G → Nat → Nat} {wr : G → Nat → Nat → Int32 → G} (hok : ∀ (g : G) (i j : Nat) (v : Int32), V kd i → okg g → okg (wr g i j v) ∧ ∀ k j2, V k j2 → (k ≠ kd ∨ j2 ≠ i) → ce (wr g i j v) k j2 = ce g k j2)
    (hrow : ∀ (p : Program) (e : Env) (s : State) (m : MethodId) (args : Array Value) (below : List Frame) (meth : Method) (c : Code) (H : Heap) (locs : List Loc) (Q : State → Prop) (ls : Array Slot) (g : G) (i : Nat) (x v : Int32) (rest : List Value), CallFix p m c cc nL s args Ts own → V kd i → va_K D cl tys s → va_at D cl (Λ kd i, ce g kd i) H → vp_in x (ln g i) → (∀ H1 : Heap, va_at D cl (Λ kd i, ce (wr g i x.toNatClampNeg v) kd i) H1 → H1.size = H.size → (∀ q : Nat, q ≠ Λ kd i → H1[q]? = H[q]?) → W p l e R s m args below meth c H1 (locs ++ [⟨Λ kd i, x.toNatClampNeg⟩]) 0 0 Q (F0 m (pc + 1) ls rest)) → W p l e R s m args below meth c H locs 0 0 Q (F0 m pc ls (.int v :: .int x :: .ref (Λ kd i) :: rest))) : qm_K Λ V (qm_hold D cl tys Λ V ce okg ex) A l R cc nL own Ts ret pc (pc + 1) (o_ast kd ln wr) := by
  intro Fq p e s m args below meth c Q C0 o t hc1 hn H locs ls hA
  obtain ⟨L, S, g⟩ := t
  obtain ⟨a1, a2, a3, a4, a5⟩ := hA
  rcases S with _ | ⟨v | v, _ | ⟨x | x, _ | ⟨z | z | _ | ⟨k, i⟩, S⟩⟩⟩
  case cons.inl.cons.inl.cons.inr.inr.some =>
    unfold o_ast at hc1 hn
    dsimp only at hc1 hn
    cases hb : Nat.beq k kd <;> rw [hb] at hc1 hn
    · exact hc1.elim
    · have hk := Nat.eq_of_beq_eq_true hb
      subst hk
      obtain ⟨-, b2⟩ := qm_fa2 a3
      obtain ⟨-, b2⟩ := qm_fa2 b2
      obtain ⟨b2, b3⟩ := qm_fa2 b2
      obtain ⟨c1, c2⟩ := hok g i x.toNatClampNeg v b2 a1.2.2.1
      exact hrow p e s m args below meth c H locs Q ls g i x v _ C0.1 b2 a1.1 (a1.2.1 k i b2) hc1 fun H1 z1 z2 z3 => hn H1 _ ls ⟨a1.set hsys b2 c1 z1 z2 z3 c2, a2, b3, a4, a5.put z2 z3 (hsys.2.1 k i b2)⟩
  all_goals exact hc1.elim
theorem os_iast (hsys : qm_sys Λ V ex A) {kd pc t0 : Nat} {cA : ClassId} {ln : G → Nat → Nat} {rd : G → Nat → Nat → Int32} {wr : G → Nat → Nat → Int32 → G} (hd : decode cc pc = .ok (.iastore, 1)) (ht : tys[t0]? = some (cA, .int)) (hce : ∀ (g : G) (i : Nat), V kd i → ce g kd i = .inl (cA, ln g i, .inl (rd g i))) (hwr : ∀ (g : G) (i j : Nat) (v : Int32), V kd i → ln (wr g i j v) i = ln g i ∧ rd (wr g i j v) i = upd (rd g i) j v)
    (hok : ∀ (g : G) (i j : Nat) (v : Int32), V kd i → okg g → okg (wr g i j v) ∧ ∀ k j2, V k j2 → (k ≠ kd ∨ j2 ≠ i) → ce (wr g i j v) k j2 = ce g k j2) : qm_K Λ V (qm_hold D cl tys Λ V ce okg ex) A l R cc nL own Ts ret pc (pc + 1) (o_ast kd ln wr) :=
  os_ast' hsys hok fun p e s m args below meth c H locs Q ls g i x v rest C hV hK hat hin kk => by
    rw [hce g i hV] at hat
    refine W.iast C.1 C.2.1 hat ((hK.2 t0 _ ht).1 (ln g i) (fun j => .int (rd g i j))) (fun q => by cases q) (by show ¬ (x < 0 ∨ (arrV _ _ _).slots.size ≤ _); rw [arrV_size]; exact hin) rfl rfl hd fun H1 e z oq => kk H1 ?_ z oq
    rw [hce _ i hV, (hwr g i _ v hV).1, (hwr g i _ v hV).2]
    show H1[_]? = some (vp_cell _ _)
    rw [e]
    rw [vp_cell_i, vp_cell_i, arrV_store]
    congr 2
    funext q
    by_cases hq : q = x.toNatClampNeg
    · subst hq
      simp [updV, upd]
    · simp [updV, upd, hq]
theorem os_bast (hsys : qm_sys Λ V ex A) {kd pc t0 : Nat} {cA : ClassId} {ln : G → Nat → Nat} {rd : G → Nat → Nat → Int32} {wr : G → Nat → Nat → Int32 → G} (hd : decode cc pc = .ok (.bastore, 1)) (ht : tys[t0]? = some (cA, .byte)) (hce : ∀ (g : G) (i : Nat), V kd i → ce g kd i = .inl (cA, ln g i, .inl (rd g i))) (hwr : ∀ (g : G) (i j : Nat) (v : Int32), V kd i → ln (wr g i j v) i = ln g i ∧ rd (wr g i j v) i = upd (rd g i) j v.toInt8.toInt32)
    (hok : ∀ (g : G) (i j : Nat) (v : Int32), V kd i → okg g → okg (wr g i j v) ∧ ∀ k j2, V k j2 → (k ≠ kd ∨ j2 ≠ i) → ce (wr g i j v) k j2 = ce g k j2) : qm_K Λ V (qm_hold D cl tys Λ V ce okg ex) A l R cc nL own Ts ret pc (pc + 1) (o_ast kd ln wr) :=
  os_ast' hsys hok fun p e s m args below meth c H locs Q ls g i x v rest C hV hK hat hin kk => by
    rw [hce g i hV] at hat
    refine W.bast C.1 C.2.1 hat ((hK.2 t0 _ ht).1 (ln g i) (fun j => .int (rd g i j))) (fun q => by cases q) (by show ¬ (x < 0 ∨ (arrV _ _ _).slots.size ≤ _); rw [arrV_size]; exact hin) rfl rfl hd fun H1 e z oq => kk H1 ?_ z oq
    rw [hce _ i hV, (hwr g i _ v hV).1, (hwr g i _ v hV).2]
    show H1[_]? = some (vp_cell _ _)
    rw [e]
    rw [vp_cell_i, vp_cell_i, arrV_store]
    congr 2
    funext q
    by_cases hq : q = x.toNatClampNeg
    · subst hq
      simp [updV, upd, vp_nar]
      try rfl
    · simp [updV, upd, hq]
/-- arrays of references -/
def o_aald (kd : Nat) (ln : G → Nat → Nat) (rd : G → Nat → Nat → qm_v) : qm_op G := fun o t => match t.2.1 with
  | .inl x :: .inr (.inr (some (k, i))) :: S => match Nat.beq k kd with
    | true => ([vp_in x (ln t.2.2 i)], none, (t.1, rd t.2.2 i x.toNatClampNeg :: S, t.2.2), o)
    | false => ([False], none, t, o)
  | _ => ([False], none, t, o)
theorem os_aald {kd pc t0 : Nat} {cA : ClassId} {C : String} {ln : G → Nat → Nat} {rd : G → Nat → Nat → qm_v} (hd : decode cc pc = .ok (.aaload, 1)) (ht : tys[t0]? = some (cA, .object C)) (hce : ∀ (g : G) (i : Nat), V kd i → okg g → ∃ f : Nat → Option Nat, ce g kd i = .inl (cA, ln g i, .inr (.inr (.inr (.inr f)))) ∧ ∀ j, j < ln g i → va_rf (f j) = qm_cv Λ (rd g i j) ∧ qm_ok V (rd g i j)) : qm_K Λ V (qm_hold D cl tys Λ V ce okg ex) A l R cc nL own Ts ret pc (pc + 1) (o_aald kd ln rd) := by
  intro Fq p e s m args below meth c Q C0 o t hc1 hn H locs ls hA
  obtain ⟨L, S, g⟩ := t
  obtain ⟨a1, a2, a3, a4, a5⟩ := hA
  rcases S with _ | ⟨x | x, _ | ⟨z | z | _ | ⟨k, i⟩, S⟩⟩
  case cons.inl.cons.inr.inr.some =>
    unfold o_aald at hc1 hn
    dsimp only at hc1 hn
    cases hb : Nat.beq k kd <;> rw [hb] at hc1 hn
    · exact hc1.elim
    · have hk := Nat.eq_of_beq_eq_true hb
      subst hk
      obtain ⟨-, b2⟩ := qm_fa2 a3
      obtain ⟨b2, b3⟩ := qm_fa2 b2
      obtain ⟨f, e1, e2⟩ := hce g i b2 a1.2.2.1
      have hat := a1.2.1 k i b2
      rw [e1] at hat
      have hin : vp_in x (ln g i) := hc1
      obtain ⟨e3, e4⟩ := e2 _ (Nat.not_le.mp fun q => hin (Or.inr q))
      refine va_aldq C0.1.1 C0.1.2.1 a1.1 (qm_one hat) 0 t0 rfl ht hin hd ?_
      rw [e3]
      exact hn H locs ls ⟨a1, a2, qm_fa e4 b3, a4, a5⟩
  all_goals exact hc1.elim
def o_alen (kd : Nat) (ln : G → Nat → Nat) : qm_op G := fun o t => match t.2.1 with
  | .inr (.inr (some (k, i))) :: S => match Nat.beq k kd with
    | true => ([], none, (t.1, .inl (Int32.ofNat (ln t.2.2 i)) :: S, t.2.2), o)
    | false => ([False], none, t, o)
  | _ => ([False], none, t, o)
theorem os_alen {kd pc t0 : Nat} {cA : ClassId} {ty : FieldType} {ln : G → Nat → Nat} (hd : decode cc pc = .ok (.arraylength, 1)) (ht : tys[t0]? = some (cA, ty)) (hce : ∀ (g : G) (i : Nat), V kd i → ∃ x : vp_A, ce g kd i = .inl (cA, x) ∧ x.1 = ln g i) : qm_K Λ V (qm_hold D cl tys Λ V ce okg ex) A l R cc nL own Ts ret pc (pc + 1) (o_alen kd ln) := by
  intro Fq p e s m args below meth c Q C0 o t hc1 hn H locs ls hA
  obtain ⟨L, S, g⟩ := t
  obtain ⟨a1, a2, a3, a4, a5⟩ := hA
  rcases S with _ | ⟨z | z | _ | ⟨k, i⟩, S⟩
  case cons.inr.inr.some =>
    unfold o_alen at hc1 hn
    dsimp only at hc1 hn
    cases hb : Nat.beq k kd <;> rw [hb] at hc1 hn
    · exact hc1.elim
    · have hk := Nat.eq_of_beq_eq_true hb
      subst hk
      obtain ⟨b2, b3⟩ := qm_fa2 a3
      obtain ⟨x, e1, e2⟩ := hce g i b2
      have hat := a1.2.1 k i b2
      rw [e1] at hat
      exact va_alen C0.1.1 C0.1.2.1 a1.1 (qm_one hat) 0 t0 rfl ht (by rw [e2]) hd (hn H locs ls ⟨a1, a2, qm_fa trivial b3, a4, a5⟩)
  all_goals exact hc1.elim
-- arrays of longs
def o_lald (kd : Nat) (ln : G → Nat → Nat) (rd : G → Nat → Nat → Int64) : qm_op G := fun o t => match t.2.1 with
  | .inl x :: .inr (.inr (some (k, i))) :: S => match Nat.beq k kd with
    | true => ([vp_in x (ln t.2.2 i)], none, (t.1, .inr (.inl (rd t.2.2 i x.toNatClampNeg)) :: S, t.2.2), o)
    | false => ([False], none, t, o)
  | _ => ([False], none, t, o)
theorem os_lald {kd pc t0 : Nat} {cA : ClassId} {ln : G → Nat → Nat} {rd : G → Nat → Nat → Int64} (hd : decode cc pc = .ok (.laload, 1)) (ht : tys[t0]? = some (cA, .long)) (hce : ∀ (g : G) (i : Nat), V kd i → ce g kd i = .inl (cA, ln g i, .inr (.inl (rd g i)))) : qm_K Λ V (qm_hold D cl tys Λ V ce okg ex) A l R cc nL own Ts ret pc (pc + 1) (o_lald kd ln rd) := by
  intro Fq p e s m args below meth c Q C0 o t hc1 hn H locs ls hA
  obtain ⟨L, S, g⟩ := t
  obtain ⟨a1, a2, a3, a4, a5⟩ := hA
  rcases S with _ | ⟨x | x, _ | ⟨z | z | _ | ⟨k, i⟩, S⟩⟩
  case cons.inl.cons.inr.inr.some =>
    unfold o_lald at hc1 hn
    dsimp only at hc1 hn
    cases hb : Nat.beq k kd <;> rw [hb] at hc1 hn
    · exact hc1.elim
    · have hk := Nat.eq_of_beq_eq_true hb
      subst hk
      obtain ⟨-, b2⟩ := qm_fa2 a3
      obtain ⟨b2, b3⟩ := qm_fa2 b2
      have hat := a1.2.1 k i b2
      rw [hce g i b2] at hat
      exact va_lald C0.1.1 C0.1.2.1 a1.1 (qm_one hat) 0 t0 rfl ht hc1 hd (hn H locs ls ⟨a1, a2, qm_fa trivial b3, a4, a5⟩)
  all_goals exact hc1.elim
def o_last (kd : Nat) (ln : G → Nat → Nat) (wr : G → Nat → Nat → Int64 → G) : qm_op G := fun o t => match t.2.1 with
  | .inr (.inl v) :: .inl x :: .inr (.inr (some (k, i))) :: S => match Nat.beq k kd with
    | true => ([vp_in x (ln t.2.2 i)], none, (t.1, S, wr t.2.2 i x.toNatClampNeg v), o)
    | false => ([False], none, t, o)
  | _ => ([False], none, t, o)
theorem os_last (hsys : qm_sys Λ V ex A) {kd pc t0 : Nat} {cA : ClassId} {ln : G → Nat → Nat} {rd : G → Nat → Nat → Int64} {wr : G → Nat → Nat → Int64 → G} (hd : decode cc pc = .ok (.lastore, 1)) (ht : tys[t0]? = some (cA, .long)) (hce : ∀ (g : G) (i : Nat), V kd i → ce g kd i = .inl (cA, ln g i, .inr (.inl (rd g i)))) (hwr : ∀ (g : G) (i j : Nat) (v : Int64), V kd i → ln (wr g i j v) i = ln g i ∧ rd (wr g i j v) i = vp_updL (rd g i) j v)
    (hok : ∀ (g : G) (i j : Nat) (v : Int64), V kd i → okg g → okg (wr g i j v) ∧ ∀ k j2, V k j2 → (k ≠ kd ∨ j2 ≠ i) → ce (wr g i j v) k j2 = ce g k j2) : qm_K Λ V (qm_hold D cl tys Λ V ce okg ex) A l R cc nL own Ts ret pc (pc + 1) (o_last kd ln wr) := by
  intro Fq p e s m args below meth c Q C0 o t hc1 hn H locs ls hA
  obtain ⟨L, S, g⟩ := t
  obtain ⟨a1, a2, a3, a4, a5⟩ := hA
  rcases S with _ | ⟨v | v | v, _ | ⟨x | x, _ | ⟨z | z | _ | ⟨k, i⟩, S⟩⟩⟩
  case cons.inr.inl.cons.inl.cons.inr.inr.some =>
    unfold o_last at hc1 hn
    dsimp only at hc1 hn
    cases hb : Nat.beq k kd <;> rw [hb] at hc1 hn
    · exact hc1.elim
    · have hk := Nat.eq_of_beq_eq_true hb
      subst hk
      obtain ⟨-, b2⟩ := qm_fa2 a3
      obtain ⟨-, b2⟩ := qm_fa2 b2
      obtain ⟨b2, b3⟩ := qm_fa2 b2
      obtain ⟨c1, c2⟩ := hok g i x.toNatClampNeg v b2 a1.2.2.1
      have hat := a1.2.1 k i b2
      rw [hce g i b2] at hat
      have hin : vp_in x (ln g i) := hc1
      refine W.last C0.1.1 C0.1.2.1 hat ((a1.1.2 t0 _ ht).1 (ln g i) (fun j => .long (rd g i j))) (fun q => by cases q) (by show ¬ (x < 0 ∨ (arrV _ _ _).slots.size ≤ _); rw [arrV_size]; exact hin) rfl rfl hd fun H1 z1 z2 z3 => hn H1 _ ls ⟨a1.set hsys b2 c1 ?_ z2 z3 c2, a2, b3, a4, a5.put z2 z3 (hsys.2.1 k i b2)⟩
      rw [hce _ i b2, (hwr g i _ v b2).1, (hwr g i _ v b2).2]
      show H1[_]? = some (vp_cell _ _)
      rw [z1]
      rw [vp_cell_l, vp_cell_l, arrV_store]
      congr 2
      funext q
      by_cases hq : q = x.toNatClampNeg
      · subst hq
        simp [updV, vp_updL]
      · simp [updV, vp_updL, hq]
  all_goals exact hc1.elim
end QMH
end
section
section QMC
variable {G : Type} {D : va_G} {cl : List vw_C} {tys : List (ClassId × FieldType)} {Λ : Nat → Nat → Nat} {V : Nat → Nat → Prop} {ce : G → Nat → Nat → va_E} {okg : G → Prop} {ex : State → Heap → Prop} {A : Nat → Prop} {l : Launch} {R : Room} {cc : ByteArray} {nL : Nat} {own : String} {Ts : List Cond} {ret : Option FieldType}
def o_ret0 : qm_op G := fun o t => match t.2.1 with
  | [] => ([], some none, t, o)
  | _ => ([False], none, t, o)
def o_reti : qm_op G := fun o t => match t.2.1 with
  | [.inl x] => ([], some none, (t.1, [.inl x], t.2.2), o)
  | _ => ([False], none, t, o)
def o_retz : qm_op G := fun o t => match t.2.1 with
  | [.inl x] => ([x = 0 ∨ x = 1], some none, (t.1, [.inl x], t.2.2), o)
  | _ => ([False], none, t, o)
def o_retl : qm_op G := fun o t => match t.2.1 with
  | [.inr (.inl x)] => ([], some none, (t.1, [.inr (.inl x)], t.2.2), o)
  | _ => ([False], none, t, o)
def o_reta : qm_op G := fun o t => match t.2.1 with
  | [.inr (.inr x)] => ([], some none, (t.1, [.inr (.inr x)], t.2.2), o)
  | _ => ([False], none, t, o)
theorem qm_hold.out (hsys : qm_sys Λ V ex A) {s t : State} {g : G} {H : Heap} (h : qm_hold D cl tys Λ V ce okg ex s g H) (hv : s.vm.Alike t.vm) (ht : t.heap = H) : qm_hold D cl tys Λ V ce okg ex t g t.heap := by
  rw [ht]; exact h.moved hsys hv
theorem os_ret0 (hsys : qm_sys Λ V ex A) {pc nx : Nat} (hd : decode cc pc = .ok (.return_, 1)) (hr : ret = none) : qm_K Λ V (qm_hold D cl tys Λ V ce okg ex) A l R cc nL own Ts ret pc nx o_ret0 := by
  intro Fq p e s m args below meth c Q C0 o t hc1 hn H locs ls hA
  obtain ⟨L, S, g⟩ := t
  obtain ⟨a1, a2, a3, a4, a5⟩ := hA
  rcases S with _ | ⟨v, S⟩
  · obtain ⟨c1, c2, c3, c4⟩ := C0
    subst c4
    exact W.vret (hlocks := c3) c1.1 c1.2.1 (c2.trans hr) (fun t ht hW => ⟨none, g, rfl, hn, (fun v hv => by cases hv), a1.out hsys hW.alike ht, a5.F ht⟩) a5.2.2 hd
  · exact hc1.elim
theorem os_reti (hsys : qm_sys Λ V ex A) {pc nx : Nat} (hd : decode cc pc = .ok (.ireturn, 1)) (hr : ret = some .int) : qm_K Λ V (qm_hold D cl tys Λ V ce okg ex) A l R cc nL own Ts ret pc nx o_reti := by
  intro Fq p e s m args below meth c Q C0 o t hc1 hn H locs ls hA
  obtain ⟨L, S, g⟩ := t
  obtain ⟨a1, a2, a3, a4, a5⟩ := hA
  rcases S with _ | ⟨x | x, _ | ⟨v, S⟩⟩
  case cons.inl.nil =>
    obtain ⟨c1, c2, c3, c4⟩ := C0
    subst c4
    exact W.iret (hlocks := c3) c1.1 c1.2.1 (c2.trans hr) (fun t ht hW => ⟨some (.inl x), g, rfl, hn, (fun v hv => by cases hv; trivial), a1.out hsys hW.alike ht, a5.F ht⟩) a5.2.2 hd
  all_goals exact hc1.elim
theorem os_retz (hsys : qm_sys Λ V ex A) {pc nx : Nat} (hd : decode cc pc = .ok (.ireturn, 1)) (hr : ret = some .boolean) : qm_K Λ V (qm_hold D cl tys Λ V ce okg ex) A l R cc nL own Ts ret pc nx o_retz := by
  intro Fq p e s m args below meth c Q C0 o t hc1 hn H locs ls hA
  obtain ⟨L, S, g⟩ := t
  obtain ⟨a1, a2, a3, a4, a5⟩ := hA
  rcases S with _ | ⟨x | x, _ | ⟨v, S⟩⟩
  case cons.inl.nil =>
    obtain ⟨c1, c2, c3, c4⟩ := C0
    subst c4
    have hx : narrow .boolean (.int x) = .int x := by
      rcases (show x = 0 ∨ x = 1 from hc1) with rfl | rfl <;> decide +kernel
    exact W.zret (hlocks := c3) c1.1 c1.2.1 (c2.trans hr) hx (fun t ht hW => ⟨some (.inl x), g, rfl, hn, (fun v hv => by cases hv; trivial), a1.out hsys hW.alike ht, a5.F ht⟩) a5.2.2 hd
  all_goals exact hc1.elim
theorem os_retl (hsys : qm_sys Λ V ex A) {pc nx : Nat} (hd : decode cc pc = .ok (.lreturn, 1)) (hr : ret = some .long) : qm_K Λ V (qm_hold D cl tys Λ V ce okg ex) A l R cc nL own Ts ret pc nx o_retl := by
  intro Fq p e s m args below meth c Q C0 o t hc1 hn H locs ls hA
  obtain ⟨L, S, g⟩ := t
  obtain ⟨a1, a2, a3, a4, a5⟩ := hA
  rcases S with _ | ⟨x | x | x, _ | ⟨v, S⟩⟩
  case cons.inr.inl.nil =>
    obtain ⟨c1, c2, c3, c4⟩ := C0
    subst c4
    exact W.lret (hlocks := c3) c1.1 c1.2.1 (c2.trans hr) (fun t ht hW => ⟨some (.inr (.inl x)), g, rfl, hn, (fun v hv => by cases hv; trivial), a1.out hsys hW.alike ht, a5.F ht⟩) a5.2.2 hd
  all_goals exact hc1.elim
theorem os_reta (hsys : qm_sys Λ V ex A) {pc nx : Nat} {rt : FieldType} (hd : decode cc pc = .ok (.areturn, 1)) (hr : ret = some rt) (hrt : (∃ n, rt = .object n) ∨ ∃ t, rt = .array t) : qm_K Λ V (qm_hold D cl tys Λ V ce okg ex) A l R cc nL own Ts ret pc nx o_reta := by
  intro Fq p e s m args below meth c Q C0 o t hc1 hn H locs ls hA
  obtain ⟨L, S, g⟩ := t
  obtain ⟨a1, a2, a3, a4, a5⟩ := hA
  rcases S with _ | ⟨x | x | x, _ | ⟨v, S⟩⟩
  case cons.inr.inr.nil =>
    obtain ⟨c1, c2, c3, c4⟩ := C0
    subst c4
    exact W.aret (v := qm_cv Λ (.inr (.inr x))) (hlocks := c3) c1.1 c1.2.1 (c2.trans hr) hrt (by rcases x with _ | x; exact Or.inl rfl; exact Or.inr ⟨_, rfl⟩) (fun t ht hW => ⟨some (.inr (.inr x)), g, rfl, hn, (fun v hv => by cases hv; exact (qm_fa2 a3).1), a1.out hsys hW.alike ht, a5.F ht⟩) a5.2.2 hd
  all_goals exact hc1.elim
/-- a method's contract: from g with these arguments it answers r and leaves g' -/
def qm_Sd (Λ : Nat → Nat → Nat) (V : Nat → Nat → Prop) (hold : State → G → Heap → Prop) (A : Nat → Prop) (l : Launch) (mt : MethodName × List Cond × Room) (as : List qm_v) (g : G) (r : Option qm_v) (g' : G) : Prop :=
  Met l mt.1 mt.2.1 mt.2.2 (fun v U => v = (as.map (qm_cv Λ)).toArray ∧ hold U g U.heap ∧ ∀ v ∈ as, qm_ok V v) (qm_Qc Λ V hold A (fun r1 g1 => r1 = r ∧ g1 = g')) 0 0 A
def qm_ent : Nat → List qm_v → List (Option qm_v)
  | 0, _ => []
  | n + 1, [] => none :: qm_ent n []
  | 1, v :: _ => [some v]
  | n + 2, .inr (.inl x) :: r => some (.inr (.inl x)) :: none :: qm_ent n r
  | n + 2, .inl x :: r => some (.inl x) :: qm_ent (n + 1) r
  | n + 2, .inr (.inr x) :: r => some (.inr (.inr x)) :: qm_ent (n + 1) r
theorem qm_ent_len : ∀ (n : Nat) (as : List qm_v), (qm_ent n as).length = n
  | 0, _ => by unfold qm_ent; rfl
  | n + 1, [] => by unfold qm_ent; simp [qm_ent_len n []]
  | 1, v :: r => by unfold qm_ent; rfl
  | n + 2, .inr (.inl x) :: r => by unfold qm_ent; simp [qm_ent_len n r]
  | n + 2, .inl x :: r => by unfold qm_ent; simp [qm_ent_len (n + 1) r]
  | n + 2, .inr (.inr x) :: r => by unfold qm_ent; simp [qm_ent_len (n + 1) r]
theorem qm_ent_nil (Λ : Nat → Nat → Nat) : ∀ (n i : Nat), qm_ll Λ i (qm_ent n []) = []
  | 0, _ => by unfold qm_ent; rfl
  | n + 1, i => by unfold qm_ent; unfold qm_ll; exact qm_ent_nil Λ n (i + 1)
theorem qm_ent_in (Λ : Nat → Nat → Nat) : ∀ (n i : Nat) (as : List qm_v), ∀ q ∈ qm_ll Λ i (qm_ent n as), q ∈ lv_args i (as.map (qm_cv Λ))
  | 0, i, as => by unfold qm_ent; intro q hq; cases hq
  | n + 1, i, [] => by rw [qm_ent_nil]; intro q hq; cases hq
  | 1, i, v :: r => by
    unfold qm_ent
    intro q hq
    simp only [qm_ll, List.mem_singleton] at hq
    subst hq
    exact List.mem_cons_self
  | n + 2, i, .inr (.inl x) :: r => by
    unfold qm_ent
    intro q hq
    simp only [qm_ll, List.mem_cons] at hq
    rcases hq with rfl | hq
    · exact List.mem_cons_self
    · exact List.mem_cons_of_mem _ (qm_ent_in Λ n (i + 2) r q hq)
  | n + 2, i, .inl x :: r => by
    unfold qm_ent
    intro q hq
    simp only [qm_ll, List.mem_cons] at hq
    rcases hq with rfl | hq
    · exact List.mem_cons_self
    · exact List.mem_cons_of_mem _ (qm_ent_in Λ (n + 1) (i + 1) r q hq)
  | n + 2, i, .inr (.inr x) :: r => by
    unfold qm_ent
    intro q hq
    simp only [qm_ll, List.mem_cons] at hq
    rcases hq with rfl | hq
    · exact List.mem_cons_self
    · refine List.mem_cons_of_mem _ ?_
      have h := qm_ent_in Λ (n + 1) (i + 1) r q hq
      rcases x with _ | x <;> exact h
theorem qm_ent_ok {V : Nat → Nat → Prop} : ∀ (n : Nat) (as : List qm_v), (∀ v ∈ as, qm_ok V v) → ∀ k v, qm_nth (qm_ent n as) k = some v → qm_ok V v
  | 0, as, _, k, v, h => by unfold qm_ent at h; cases h
  | n + 1, [], _, 0, v, h => by unfold qm_ent at h; cases h
  | n + 1, [], ha, k + 1, v, h => by unfold qm_ent at h; exact qm_ent_ok n [] ha k v h
  | 1, u :: r, ha, 0, v, h => by unfold qm_ent at h; cases h; exact ha _ List.mem_cons_self
  | 1, u :: r, ha, k + 1, v, h => by unfold qm_ent at h; cases h
  | n + 2, .inr (.inl x) :: r, ha, 0, v, h => by unfold qm_ent at h; cases h; trivial
  | n + 2, .inr (.inl x) :: r, ha, 1, v, h => by unfold qm_ent at h; cases h
  | n + 2, .inr (.inl x) :: r, ha, k + 2, v, h => by unfold qm_ent at h; exact qm_ent_ok n r (qm_fa2 ha).2 k v h
  | n + 2, .inl x :: r, ha, 0, v, h => by unfold qm_ent at h; cases h; trivial
  | n + 2, .inl x :: r, ha, k + 1, v, h => by unfold qm_ent at h; exact qm_ent_ok (n + 1) r (qm_fa2 ha).2 k v h
  | n + 2, .inr (.inr x) :: r, ha, 0, v, h => by unfold qm_ent at h; cases h; exact ha _ List.mem_cons_self
  | n + 2, .inr (.inr x) :: r, ha, k + 1, v, h => by unfold qm_ent at h; exact qm_ent_ok (n + 1) r (qm_fa2 ha).2 k v h
/-- a method by its code: the walk of the pure machine from its entry -/
theorem qm_meth (hsys : qm_sys Λ V ex A) {y : MethodName} {ws' : List Cond} {as : List qm_v} {g g' : G} {r : Option qm_v} (hy : plainName y.cls = true) (hyo : y.cls = own) (hws : Ts = Cond.code y cc nL ret :: ws') (hfit : (lg_sl (as.map (qm_cv Λ))).length ≤ nL)
    (body : ∀ (p : Program) (e : Env) (s : State) (m : MethodId) (args : Array Value) (below : List Frame) (meth : Method) (c : Code) (Q : State → Prop), qm_C Λ V (qm_hold D cl tys Λ V ce okg ex) A (fun r1 g1 => r1 = r ∧ g1 = g') cc nL own Ts ret p s m args below meth c Q → (∀ v ∈ as, qm_ok V v) → okg g →
      qm_W Λ V (qm_hold D cl tys Λ V ce okg ex) A nL p l e R s m args below meth c Q 0 (qm_ent nL as, [], g)) : qm_Sd Λ V (qm_hold D cl tys Λ V ce okg ex) A l (y, Ts, R) as g r g' := by
  refine Met.ofW (cc := cc) (maxL := nL) (ret := ret) hy hws ?_
  intro p e s m args below meth c s₁ B hml hv
  obtain ⟨rfl, hH, hok⟩ := hv
  have hts := atoms_spec (ws := Ts) B.pre
  have hown : s.vm.findClass own = some m.cls := hyo ▸ findClass_of_methodNamed B.named
  have hl := lv_entry (as.map (qm_cv Λ)) (n := nL) hfit
  rw [lg_entry_eq]
  generalize (lg_sl (as.map (qm_cv Λ)) ++ List.replicate (nL - (lg_sl (as.map (qm_cv Λ))).length) Slot.unset).toArray = ls at hl ⊢
  exact body p e s m _ below meth c _ ⟨⟨B.exec, B.bytes, hml, hown, hts⟩, B.returns, B.notSynchronized, rfl⟩ hok hH.2.2.1 s.heap [] ls ⟨hH, qm_ent_ok nL as hok, (fun v hv => by cases hv), ⟨⟨hl.1, hl.2.1, fun q hq => hl.2.2 q (qm_ent_in Λ nL 0 as q hq)⟩, qm_ent_len nL as⟩, va_S.rf⟩
-- calls
def qm_pop : Nat → List qm_v → List qm_v → Option (List qm_v × List qm_v)
  | 0, S, acc => some (acc, S)
  | _ + 1, [], _ => none
  | n + 1, v :: S, acc => qm_pop n S (v :: acc)
theorem qm_pop_of : ∀ {n : Nat} {S0 acc as S : List qm_v}, qm_pop n S0 acc = some (as, S) → as.length = n + acc.length ∧ as.reverse ++ S = acc.reverse ++ S0
  | 0, S0, acc, as, S, h => by cases h; simp
  | n + 1, [], acc, as, S, h => by cases h
  | n + 1, v :: S0, acc, as, S, h => by
    obtain ⟨h1, h2⟩ := qm_pop_of (n := n) (S0 := S0) (acc := v :: acc) h
    refine ⟨by rw [h1]; simp; omega, by rw [h2]; simp⟩
def qm_wt : List qm_v → Nat
  | [] => 0
  | .inr (.inl _) :: S => qm_wt S + 2
  | .inl _ :: S => qm_wt S + 1
  | .inr (.inr _) :: S => qm_wt S + 1
theorem qm_wt_eq (Λ : Nat → Nat → Nat) : ∀ S : List qm_v, ((S.map (qm_cv Λ)).map fun v => v.category).sum = qm_wt S
  | [] => rfl
  | .inr (.inl _) :: S => by
    have h := qm_wt_eq Λ S
    show 2 + ((S.map (qm_cv Λ)).map fun v => v.category).sum = qm_wt S + 2
    omega
  | .inl _ :: S => by
    have h := qm_wt_eq Λ S
    show 1 + ((S.map (qm_cv Λ)).map fun v => v.category).sum = qm_wt S + 1
    omega
  | .inr (.inr none) :: S => by
    have h := qm_wt_eq Λ S
    show 1 + ((S.map (qm_cv Λ)).map fun v => v.category).sum = qm_wt S + 1
    omega
  | .inr (.inr (some _)) :: S => by
    have h := qm_wt_eq Λ S
    show 1 + ((S.map (qm_cv Λ)).map fun v => v.category).sum = qm_wt S + 1
    omega
def o_call (n : Nat) (P : List qm_v → G → Option qm_v → G → Prop) : qm_op G := fun o t => match qm_pop n t.2.1 [] with
  | some (as, S) => match o.2.2, Nat.ble (qm_wt S) 8 with
    | (r, g') :: rs, true => ([P as t.2.2 r g'], none, (t.1, (match r with | some v => v :: S | none => S), g'), (o.1, o.2.1, rs))
    | _, _ => ([False], none, t, o)
  | none => ([False], none, t, o)
def o_callv (kd n : Nat) (P : List qm_v → G → Option qm_v → G → Prop) : qm_op G := fun o t => match qm_pop n t.2.1 [] with
  | some (.inr (.inr (some (k, i))) :: as, S) => match Nat.beq k kd, o.2.2, Nat.ble (qm_wt S) 8 with
    | true, (r, g') :: rs, true => ([P (.inr (.inr (some (k, i))) :: as) t.2.2 r g'], none, (t.1, (match r with | some v => v :: S | none => S), g'), (o.1, o.2.1, rs))
    | _, _, _ => ([False], none, t, o)
  | _ => ([False], none, t, o)
theorem qm_go (hsys : qm_sys Λ V ex A) {p : Program} {e : Env} {s : State} {m : MethodId} {args : Array Value} {below : List Frame} {meth : Method} {c : Code} {H : Heap} {locs : List Loc} {Q : State → Prop} {pc : Nat} {ls : Array Slot} {st0 rest : List Value} {a : Array Value} {Fq : Option qm_v → G → Prop}
    (hr : va_Run p l e R s m args below meth c H locs 0 0 0 0 (F0 m pc ls st0) rest (qm_Qc Λ V (qm_hold D cl tys Λ V ce okg ex) A Fq a) A) (hS : va_S A s.heap H locs)
    (kk : ∀ (r : Option qm_v) (g : G) (H1 : Heap) (locs1 : List Loc), Fq r g → (∀ v, r = some v → qm_ok V v) → qm_hold D cl tys Λ V ce okg ex s g H1 → va_S A s.heap H1 locs1 → W p l e R s m args below meth c H1 locs1 0 0 Q (F0 m (pc + 3) ls ((r.map (qm_cv Λ)).toList ++ rest))) : W p l e R s m args below meth c H locs 0 0 Q (F0 m pc ls st0) := by
  intro T hT X
  obtain ⟨v, st₀, t, T', L, h0, X', hL, e1, e2, ⟨r, g, hv, hF, hok, hh, hz, hk⟩, st⟩ := hr T hT X
  cases hv
  rw [h0] at hz hk
  have hal : s.vm.Alike t.vm := by rw [← e2]; exact X'.warmed.alike
  have hh2 := hh.moved hsys (t := s) hal.symm
  obtain ⟨t2, a1, b1⟩ := kk r g T'.heap (locs ++ L) hF hok (by rw [e1]; exact hh2)
    ⟨Nat.le_trans hS.1 (by rw [e1]; exact hz), fun q h1 h2 => by rw [e1, hk q (Nat.lt_of_lt_of_le h1 hS.1) h2]; exact hS.2.1 q h1 h2, fun q hq => by
      rcases List.mem_append.mp hq with h | h
      · exact hS.2.2 q h
      · exact hL q h⟩ T' rfl X'
  exact ⟨t2, st t2 a1, b1⟩
theorem qm_pre (hsys : qm_sys Λ V ex A) {s : State} {g : G} {H : Heap} {as : List qm_v} (h : qm_hold D cl tys Λ V ce okg ex s g H) (ha : ∀ v ∈ as, qm_ok V v) : PreS s H (fun v U => v = (as.map (qm_cv Λ)).toArray ∧ qm_hold D cl tys Λ V ce okg ex U g U.heap ∧ ∀ v ∈ as, qm_ok V v) (as.map (qm_cv Λ)) :=
  ⟨fun a U f mk q => ⟨q.1, q.2.1.moved hsys (s := U) (t := U.calling f mk a) (Vm.Alike.refl U.vm), q.2.2⟩, fun U hU hW => ⟨rfl, h.out hsys hW.alike hU, ha⟩⟩
theorem os_call (hsys : qm_sys Λ V ex A) {pc idx n maxL : Nat} {y : MethodName} {bytes : ByteArray} {rc : Option FieldType} {ws : List Cond} {rm : Room} (hd : decode cc pc = .ok (.invokestatic idx, 3)) (cw : ∀ (s : State) (args : Array Value), (∀ w ∈ Ts, w.before args s = true) → CallB R s args own idx y bytes maxL rc ws rm 0 0 n ∧ (Cond.static y).before args s = true) : qm_K Λ V (qm_hold D cl tys Λ V ce okg ex) A l R cc nL own Ts ret pc (pc + 3) (o_call n (qm_Sd Λ V (qm_hold D cl tys Λ V ce okg ex) A l (y, ws, rm))) := by
  intro Fq p e s m args below meth c Q C0 o t hc1 hn H locs ls hA
  obtain ⟨L, S, g⟩ := t
  obtain ⟨o1, o2, o3⟩ := o
  obtain ⟨a1, a2, a3, a4, a5⟩ := hA
  unfold o_call at hc1 hn
  dsimp only at hc1 hn
  rcases hp : qm_pop n S [] with _ | ⟨as, S'⟩ <;> rw [hp] at hc1 hn
  · exact hc1.elim
  · rcases o3 with _ | ⟨⟨r, g'⟩, rs⟩
    · exact hc1.elim
    · dsimp only at hc1 hn
      cases hb : Nat.ble (qm_wt S') 8 <;> rw [hb] at hc1 hn
      · exact hc1.elim
      · obtain ⟨p1, p2⟩ := qm_pop_of hp
        have p2 : as.reverse ++ S' = S := p2
        have hM : qm_Sd Λ V (qm_hold D cl tys Λ V ce okg ex) A l (y, ws, rm) as g r g' := hc1
        have hS' : ∀ v ∈ S', qm_ok V v := fun v hv => a3 v (p2 ▸ List.mem_append_right _ hv)
        have has : ∀ v ∈ as, qm_ok V v := fun v hv => a3 v (p2 ▸ List.mem_append_left _ (List.mem_reverse.mpr hv))
        refine qm_go hsys (va_runS (As := as.map (qm_cv Λ)) (rest := S'.map (qm_cv Λ)) C0.1 hM (cw s args C0.1.2.2.2.2) (qm_pre hsys a1 has) rfl (by rw [List.length_map]; exact p1) a4.1.1 (by show S.map (qm_cv Λ) = _; rw [← p2, List.map_append, List.map_reverse]) (lv_room (by rw [qm_wt_eq]; exact Nat.le_of_ble_eq_true hb)) hd ⟨Nat.zero_le _, Nat.zero_le _⟩) a5 ?_
        rintro r1 g1 H1 locs1 ⟨rfl, rfl⟩ hok hh hS1
        have hn := hn H1 locs1 ls
        rcases r1 with _ | v
        · exact hn ⟨hh, a2, hS', a4, hS1⟩
        · exact hn ⟨hh, a2, qm_fa (hok v rfl) hS', a4, hS1⟩
theorem os_callv (hsys : qm_sys Λ V ex A) {kd ci pc idx n maxL N : Nat} {C : String} {T : u_T} {y : MethodName} {bytes : ByteArray} {rc : Option FieldType} {ws : List Cond} {rm : Room} (hd : decode cc pc = .ok (.invokevirtual idx, 3)) (hc : cl[ci]? = some (C, T, N)) (hce : ∀ (g : G) (i : Nat), V kd i → okg g → ∃ fs, ce g kd i = .inr (ci, fs)) (cw : ∀ (s : State) (args : Array Value), (∀ w ∈ Ts, w.before args s = true) → CallW R s args own C idx y bytes maxL rc ws rm 0 0 n) : qm_K Λ V (qm_hold D cl tys Λ V ce okg ex) A l R cc nL own Ts ret pc (pc + 3) (o_callv kd (n + 1) (qm_Sd Λ V (qm_hold D cl tys Λ V ce okg ex) A l (y, ws, rm))) := by
  intro Fq p e s m args below meth c Q C0 o t hc1 hn H locs ls hA
  obtain ⟨L, S, g⟩ := t
  obtain ⟨o1, o2, o3⟩ := o
  obtain ⟨a1, a2, a3, a4, a5⟩ := hA
  unfold o_callv at hc1 hn
  dsimp only at hc1 hn
  rcases hp : qm_pop (n + 1) S [] with _ | ⟨_ | ⟨x | x | _ | ⟨k, i⟩, as⟩, S'⟩ <;> rw [hp] at hc1 hn
  · exact hc1.elim
  · exact hc1.elim
  · exact hc1.elim
  · exact hc1.elim
  · exact hc1.elim
  · dsimp only at hc1 hn
    cases hbk : Nat.beq k kd <;> rw [hbk] at hc1 hn
    · exact hc1.elim
    · have hk := Nat.eq_of_beq_eq_true hbk
      subst hk
      rcases o3 with _ | ⟨⟨r, g'⟩, rs⟩
      · exact hc1.elim
      · cases hb : Nat.ble (qm_wt S') 8 <;> rw [hb] at hc1 hn
        · exact hc1.elim
        · obtain ⟨p1, p2⟩ := qm_pop_of hp
          have p2 : (qR k i :: as).reverse ++ S' = S := p2
          have p1 : as.length = n := by simpa using p1
          have hM : qm_Sd Λ V (qm_hold D cl tys Λ V ce okg ex) A l (y, ws, rm) (qR k i :: as) g r g' := hc1
          have hS' : ∀ v ∈ S', qm_ok V v := fun v hv => a3 v (p2 ▸ List.mem_append_right _ hv)
          have has : ∀ v ∈ qR k i :: as, qm_ok V v := fun v hv => a3 v (p2 ▸ List.mem_append_left _ (List.mem_reverse.mpr hv))
          have hV : V k i := has _ List.mem_cons_self
          obtain ⟨fs, hfs⟩ := hce g i hV a1.2.2.1
          have hat := a1.2.1 k i hV
          rw [hfs] at hat
          have hpre := qm_pre hsys (as := qR k i :: as) a1 has
          refine qm_go hsys (va_runV (b := Λ k i) (As := as.map (qm_cv Λ)) (rest := S'.map (qm_cv Λ)) C0.1 hM (cw s args C0.1.2.2.2.2) ⟨hpre.1, va_recv a1.1 (qm_one hat) hc (q0 := 0) rfl, hpre.2⟩ rfl (by rw [List.length_map]; exact p1) a4.1.1 (by show S.map (qm_cv Λ) = _; rw [← p2, List.reverse_cons, List.append_assoc, List.map_append, List.map_reverse]; rfl) (lv_room (by rw [qm_wt_eq]; exact Nat.le_of_ble_eq_true hb)) hd ⟨Nat.zero_le _, Nat.zero_le _⟩) a5 ?_
          rintro r1 g1 H1 locs1 ⟨rfl, rfl⟩ hok hh hS1
          have hn := hn H1 locs1 ls
          rcases r1 with _ | v
          · exact hn ⟨hh, a2, hS', a4, hS1⟩
          · exact hn ⟨hh, a2, qm_fa (hok v rfl) hS', a4, hS1⟩
end QMC
end
section
section QMM
variable {G : Type} {Λ : Nat → Nat → Nat} {V : Nat → Nat → Prop} {hold : State → G → Heap → Prop} {A : Nat → Prop} {l : Launch} {R : Room} {cc : ByteArray} {nL : Nat} {own : String} {Ts : List Cond} {ret : Option FieldType}
abbrev o_ic (v : Int32) : qm_op G := o_stk (f_c (.inl v))
abbrev o_lc (v : Int64) : qm_op G := o_stk (f_c (.inr (.inl v)))
theorem os_iconst {pc : Nat} {n : Int} {v : Int32} (hd : decode cc pc = .ok (.iconst n, 1)) (hv : Int32.ofInt n = v) : qm_K Λ V hold A l R cc nL own Ts ret pc (pc + 1) (o_ic v) := os_c trivial fun S p e s m args below meth c H locs Q ls C _ k => lv_iconst C.1 C.2.1 hd hv k
theorem os_bipush {pc : Nat} {n : Int} {v : Int32} (hd : decode cc pc = .ok (.bipush n, 2)) (hv : (Int8.ofInt n).toInt32 = v) : qm_K Λ V hold A l R cc nL own Ts ret pc (pc + 2) (o_ic v) := os_c trivial fun S p e s m args below meth c H locs Q ls C _ k => lv_bipush C.1 C.2.1 hd hv k
theorem os_sipush {pc : Nat} {n : Int} {v : Int32} (hd : decode cc pc = .ok (.sipush n, 3)) (hv : (Int16.ofInt n).toInt32 = v) : qm_K Λ V hold A l R cc nL own Ts ret pc (pc + 3) (o_ic v) := os_c trivial fun S p e s m args below meth c H locs Q ls C _ k => lv_sipush C.1 C.2.1 hd hv k
theorem os_lconst {pc : Nat} {n : Fin 2} {v : Int64} (hd : decode cc pc = .ok (.lconst n, 1)) (hv : Int64.ofNat (n : Nat) = v) : qm_K Λ V hold A l R cc nL own Ts ret pc (pc + 1) (o_lc v) := os_c trivial fun S p e s m args below meth c H locs Q ls C _ k => lv_lconst C.1 C.2.1 hd hv k
theorem os_ldc2 {pc idx : Nat} {v : Int64} (hd : decode cc pc = .ok (.ldc2_w idx, 3)) (hw : Cond.constantLong own idx v ∈ Ts) : qm_K Λ V hold A l R cc nL own Ts ret pc (pc + 3) (o_lc v) := os_c trivial fun S p e s m args below meth c H locs Q ls C _ k => lv_ldc2 C.1 C.2.1 C.2.2.2.1 (C.2.2.2.2 _ hw) hd k
abbrev o_iadd : qm_op G := o_stk (f_bi (fun x y => x + y))
theorem os_iadd {pc : Nat} (hd : decode cc pc = .ok (.iadd, 1)) : qm_K Λ V hold A l R cc nL own Ts ret pc (pc + 1) o_iadd := os_bi fun x y S p e s m args below meth c H locs Q ls C _ k => lv_iadd C.1 C.2.1 hd k
abbrev o_isub : qm_op G := o_stk (f_bi (fun x y => x - y))
theorem os_isub {pc : Nat} (hd : decode cc pc = .ok (.isub, 1)) : qm_K Λ V hold A l R cc nL own Ts ret pc (pc + 1) o_isub := os_bi fun x y S p e s m args below meth c H locs Q ls C _ k => lv_isub C.1 C.2.1 hd k
abbrev o_imul : qm_op G := o_stk (f_bi (fun x y => x * y))
theorem os_imul {pc : Nat} (hd : decode cc pc = .ok (.imul, 1)) : qm_K Λ V hold A l R cc nL own Ts ret pc (pc + 1) o_imul := os_bi fun x y S p e s m args below meth c H locs Q ls C _ k => lv_imul C.1 C.2.1 hd k
abbrev o_iand : qm_op G := o_stk (f_bi (fun x y => x &&& y))
theorem os_iand {pc : Nat} (hd : decode cc pc = .ok (.iand, 1)) : qm_K Λ V hold A l R cc nL own Ts ret pc (pc + 1) o_iand := os_bi fun x y S p e s m args below meth c H locs Q ls C _ k => lv_iand C.1 C.2.1 hd k
abbrev o_ior : qm_op G := o_stk (f_bi (fun x y => x ||| y))
theorem os_ior {pc : Nat} (hd : decode cc pc = .ok (.ior, 1)) : qm_K Λ V hold A l R cc nL own Ts ret pc (pc + 1) o_ior := os_bi fun x y S p e s m args below meth c H locs Q ls C _ k => lv_ior C.1 C.2.1 hd k
abbrev o_ixor : qm_op G := o_stk (f_bi (fun x y => x ^^^ y))
theorem os_ixor {pc : Nat} (hd : decode cc pc = .ok (.ixor, 1)) : qm_K Λ V hold A l R cc nL own Ts ret pc (pc + 1) o_ixor := os_bi fun x y S p e s m args below meth c H locs Q ls C _ k => lv_ixor C.1 C.2.1 hd k
abbrev o_ishl : qm_op G := o_stk (f_bi (fun x y => x <<< (y &&& 31)))
theorem os_ishl {pc : Nat} (hd : decode cc pc = .ok (.ishl, 1)) : qm_K Λ V hold A l R cc nL own Ts ret pc (pc + 1) o_ishl := os_bi fun x y S p e s m args below meth c H locs Q ls C _ k => lv_ishl C.1 C.2.1 hd k
abbrev o_ishr : qm_op G := o_stk (f_bi (fun x y => x >>> (y &&& 31)))
theorem os_ishr {pc : Nat} (hd : decode cc pc = .ok (.ishr, 1)) : qm_K Λ V hold A l R cc nL own Ts ret pc (pc + 1) o_ishr := os_bi fun x y S p e s m args below meth c H locs Q ls C _ k => lv_ishr C.1 C.2.1 hd k
abbrev o_ladd : qm_op G := o_stk (f_bl (fun x y => x + y))
theorem os_ladd {pc : Nat} (hd : decode cc pc = .ok (.ladd, 1)) : qm_K Λ V hold A l R cc nL own Ts ret pc (pc + 1) o_ladd := os_bl fun x y S p e s m args below meth c H locs Q ls C _ k => lv_ladd C.1 C.2.1 hd k
abbrev o_lsub : qm_op G := o_stk (f_bl (fun x y => x - y))
theorem os_lsub {pc : Nat} (hd : decode cc pc = .ok (.lsub, 1)) : qm_K Λ V hold A l R cc nL own Ts ret pc (pc + 1) o_lsub := os_bl fun x y S p e s m args below meth c H locs Q ls C _ k => lv_lsub C.1 C.2.1 hd k
abbrev o_lmul : qm_op G := o_stk (f_bl (fun x y => x * y))
theorem os_lmul {pc : Nat} (hd : decode cc pc = .ok (.lmul, 1)) : qm_K Λ V hold A l R cc nL own Ts ret pc (pc + 1) o_lmul := os_bl fun x y S p e s m args below meth c H locs Q ls C _ k => lv_lmul C.1 C.2.1 hd k
abbrev o_land : qm_op G := o_stk (f_bl (fun x y => x &&& y))
theorem os_land {pc : Nat} (hd : decode cc pc = .ok (.land, 1)) : qm_K Λ V hold A l R cc nL own Ts ret pc (pc + 1) o_land := os_bl fun x y S p e s m args below meth c H locs Q ls C _ k => lv_land C.1 C.2.1 hd k
abbrev o_lor : qm_op G := o_stk (f_bl (fun x y => x ||| y))
theorem os_lor {pc : Nat} (hd : decode cc pc = .ok (.lor, 1)) : qm_K Λ V hold A l R cc nL own Ts ret pc (pc + 1) o_lor := os_bl fun x y S p e s m args below meth c H locs Q ls C _ k => lv_lor C.1 C.2.1 hd k
abbrev o_ldiv : qm_op G := o_stk (f_dl (fun x y => x / y))
theorem os_ldiv {pc : Nat} (hd : decode cc pc = .ok (.ldiv, 1)) : qm_K Λ V hold A l R cc nL own Ts ret pc (pc + 1) o_ldiv := os_dl fun x y S hy p e s m args below meth c H locs Q ls C _ k => lv_ldiv C.1 C.2.1 hd hy k
abbrev o_lrem : qm_op G := o_stk (f_dl (fun x y => x - x / y * y))
theorem os_lrem {pc : Nat} (hd : decode cc pc = .ok (.lrem, 1)) : qm_K Λ V hold A l R cc nL own Ts ret pc (pc + 1) o_lrem := os_dl fun x y S hy p e s m args below meth c H locs Q ls C _ k => lv_lrem C.1 C.2.1 hd hy k
abbrev o_lshl : qm_op G := o_stk (f_sl (fun x y => x <<< (y.toInt64 &&& 63)))
theorem os_lshl {pc : Nat} (hd : decode cc pc = .ok (.lshl, 1)) : qm_K Λ V hold A l R cc nL own Ts ret pc (pc + 1) o_lshl := os_sl fun x y S p e s m args below meth c H locs Q ls C _ k => lv_lshl C.1 C.2.1 hd rfl k
abbrev o_lushr : qm_op G := o_stk (f_sl (fun x y => (x.toUInt64 >>> (y.toInt64.toUInt64 &&& Int64.toUInt64 63)).toInt64))
theorem os_lushr {pc : Nat} (hd : decode cc pc = .ok (.lushr, 1)) : qm_K Λ V hold A l R cc nL own Ts ret pc (pc + 1) o_lushr := os_sl fun x y S p e s m args below meth c H locs Q ls C _ k => lv_lushr C.1 C.2.1 hd rfl k
abbrev o_lneg : qm_op G := o_stk (f_ul (fun x => -x))
theorem os_lneg {pc : Nat} (hd : decode cc pc = .ok (.lneg, 1)) : qm_K Λ V hold A l R cc nL own Ts ret pc (pc + 1) o_lneg := os_ul fun x S p e s m args below meth c H locs Q ls C _ k => lv_lneg C.1 C.2.1 hd k
abbrev o_i2l : qm_op G := o_stk (f_il (fun x => x.toInt64))
theorem os_i2l {pc : Nat} (hd : decode cc pc = .ok (.i2l, 1)) : qm_K Λ V hold A l R cc nL own Ts ret pc (pc + 1) o_i2l := os_cil fun x S p e s m args below meth c H locs Q ls C _ k => lv_i2l C.1 C.2.1 hd rfl k
abbrev o_l2i : qm_op G := o_stk (f_li (fun x => x.toInt32))
theorem os_l2i {pc : Nat} (hd : decode cc pc = .ok (.l2i, 1)) : qm_K Λ V hold A l R cc nL own Ts ret pc (pc + 1) o_l2i := os_cli fun x S p e s m args below meth c H locs Q ls C _ k => lv_l2i C.1 C.2.1 hd rfl k
abbrev o_i2b : qm_op G := o_stk (f_ui (fun x => x.toInt8.toInt32))
theorem os_i2b {pc : Nat} (hd : decode cc pc = .ok (.i2b, 1)) : qm_K Λ V hold A l R cc nL own Ts ret pc (pc + 1) o_i2b := os_ui fun x S p e s m args below meth c H locs Q ls C _ k => lv_i2b C.1 C.2.1 hd rfl k
abbrev o_ifeq (tg : Nat) : qm_op G := o_br (t_i (fun x => x = 0) (fun x => ¬ x = 0)) tg
abbrev o_iceq (tg : Nat) : qm_op G := o_br (t_ii (fun x y => x = y) (fun x y => ¬ x = y)) tg
theorem os_ifeq {tg pc : Nat} {off : Int} (hd : decode cc pc = .ok (.ifCond .eq off, 3)) (ht : (pc : Int) + off = (tg : Int)) : qm_K Λ V hold A l R cc nL own Ts ret pc (pc + 3) (o_ifeq tg) := os_i (fun x S h p e s m args below meth c H locs Q ls C _ k => lv_if_eq C.1 C.2.1 hd ht (fun _ => k) (fun h2 => absurd h h2)) (fun x S h p e s m args below meth c H locs Q ls C _ k => lv_if_eq C.1 C.2.1 hd ht (fun h2 => absurd h2 h) (fun _ => k))
theorem os_iceq {tg pc : Nat} {off : Int} (hd : decode cc pc = .ok (.if_icmp .eq off, 3)) (ht : (pc : Int) + off = (tg : Int)) : qm_K Λ V hold A l R cc nL own Ts ret pc (pc + 3) (o_iceq tg) := os_ii (fun x y S h p e s m args below meth c H locs Q ls C _ k => lv_icmp_eq C.1 C.2.1 hd ht (fun _ => k) (fun h2 => absurd h h2)) (fun x y S h p e s m args below meth c H locs Q ls C _ k => lv_icmp_eq C.1 C.2.1 hd ht (fun h2 => absurd h2 h) (fun _ => k))
abbrev o_ifne (tg : Nat) : qm_op G := o_br (t_i (fun x => ¬ x = 0) (fun x => x = 0)) tg
abbrev o_icne (tg : Nat) : qm_op G := o_br (t_ii (fun x y => ¬ x = y) (fun x y => x = y)) tg
theorem os_ifne {tg pc : Nat} {off : Int} (hd : decode cc pc = .ok (.ifCond .ne off, 3)) (ht : (pc : Int) + off = (tg : Int)) : qm_K Λ V hold A l R cc nL own Ts ret pc (pc + 3) (o_ifne tg) := os_i (fun x S h p e s m args below meth c H locs Q ls C _ k => lv_if_ne C.1 C.2.1 hd ht (fun _ => k) (fun h2 => absurd h2 h)) (fun x S h p e s m args below meth c H locs Q ls C _ k => lv_if_ne C.1 C.2.1 hd ht (fun h2 => absurd h h2) (fun _ => k))
theorem os_icne {tg pc : Nat} {off : Int} (hd : decode cc pc = .ok (.if_icmp .ne off, 3)) (ht : (pc : Int) + off = (tg : Int)) : qm_K Λ V hold A l R cc nL own Ts ret pc (pc + 3) (o_icne tg) := os_ii (fun x y S h p e s m args below meth c H locs Q ls C _ k => lv_icmp_ne C.1 C.2.1 hd ht (fun _ => k) (fun h2 => absurd h2 h)) (fun x y S h p e s m args below meth c H locs Q ls C _ k => lv_icmp_ne C.1 C.2.1 hd ht (fun h2 => absurd h h2) (fun _ => k))
abbrev o_iflt (tg : Nat) : qm_op G := o_br (t_i (fun x => x < 0) (fun x => ¬ x < 0)) tg
abbrev o_iclt (tg : Nat) : qm_op G := o_br (t_ii (fun x y => x < y) (fun x y => ¬ x < y)) tg
theorem os_iflt {tg pc : Nat} {off : Int} (hd : decode cc pc = .ok (.ifCond .lt off, 3)) (ht : (pc : Int) + off = (tg : Int)) : qm_K Λ V hold A l R cc nL own Ts ret pc (pc + 3) (o_iflt tg) := os_i (fun x S h p e s m args below meth c H locs Q ls C _ k => lv_if_lt C.1 C.2.1 hd ht (fun _ => k) (fun h2 => absurd h h2)) (fun x S h p e s m args below meth c H locs Q ls C _ k => lv_if_lt C.1 C.2.1 hd ht (fun h2 => absurd h2 h) (fun _ => k))
theorem os_iclt {tg pc : Nat} {off : Int} (hd : decode cc pc = .ok (.if_icmp .lt off, 3)) (ht : (pc : Int) + off = (tg : Int)) : qm_K Λ V hold A l R cc nL own Ts ret pc (pc + 3) (o_iclt tg) := os_ii (fun x y S h p e s m args below meth c H locs Q ls C _ k => lv_icmp_lt C.1 C.2.1 hd ht (fun _ => k) (fun h2 => absurd h h2)) (fun x y S h p e s m args below meth c H locs Q ls C _ k => lv_icmp_lt C.1 C.2.1 hd ht (fun h2 => absurd h2 h) (fun _ => k))
abbrev o_ifge (tg : Nat) : qm_op G := o_br (t_i (fun x => 0 ≤ x) (fun x => ¬ 0 ≤ x)) tg
abbrev o_icge (tg : Nat) : qm_op G := o_br (t_ii (fun x y => y ≤ x) (fun x y => ¬ y ≤ x)) tg
theorem os_ifge {tg pc : Nat} {off : Int} (hd : decode cc pc = .ok (.ifCond .ge off, 3)) (ht : (pc : Int) + off = (tg : Int)) : qm_K Λ V hold A l R cc nL own Ts ret pc (pc + 3) (o_ifge tg) := os_i (fun x S h p e s m args below meth c H locs Q ls C _ k => lv_if_ge C.1 C.2.1 hd ht (fun _ => k) (fun h2 => absurd h h2)) (fun x S h p e s m args below meth c H locs Q ls C _ k => lv_if_ge C.1 C.2.1 hd ht (fun h2 => absurd h2 h) (fun _ => k))
theorem os_icge {tg pc : Nat} {off : Int} (hd : decode cc pc = .ok (.if_icmp .ge off, 3)) (ht : (pc : Int) + off = (tg : Int)) : qm_K Λ V hold A l R cc nL own Ts ret pc (pc + 3) (o_icge tg) := os_ii (fun x y S h p e s m args below meth c H locs Q ls C _ k => lv_icmp_ge C.1 C.2.1 hd ht (fun _ => k) (fun h2 => absurd h h2)) (fun x y S h p e s m args below meth c H locs Q ls C _ k => lv_icmp_ge C.1 C.2.1 hd ht (fun h2 => absurd h2 h) (fun _ => k))
abbrev o_ifgt (tg : Nat) : qm_op G := o_br (t_i (fun x => 0 < x) (fun x => ¬ 0 < x)) tg
abbrev o_icgt (tg : Nat) : qm_op G := o_br (t_ii (fun x y => y < x) (fun x y => ¬ y < x)) tg
theorem os_ifgt {tg pc : Nat} {off : Int} (hd : decode cc pc = .ok (.ifCond .gt off, 3)) (ht : (pc : Int) + off = (tg : Int)) : qm_K Λ V hold A l R cc nL own Ts ret pc (pc + 3) (o_ifgt tg) := os_i (fun x S h p e s m args below meth c H locs Q ls C _ k => lv_if_gt C.1 C.2.1 hd ht (fun _ => k) (fun h2 => absurd h h2)) (fun x S h p e s m args below meth c H locs Q ls C _ k => lv_if_gt C.1 C.2.1 hd ht (fun h2 => absurd h2 h) (fun _ => k))
theorem os_icgt {tg pc : Nat} {off : Int} (hd : decode cc pc = .ok (.if_icmp .gt off, 3)) (ht : (pc : Int) + off = (tg : Int)) : qm_K Λ V hold A l R cc nL own Ts ret pc (pc + 3) (o_icgt tg) := os_ii (fun x y S h p e s m args below meth c H locs Q ls C _ k => lv_icmp_gt C.1 C.2.1 hd ht (fun _ => k) (fun h2 => absurd h h2)) (fun x y S h p e s m args below meth c H locs Q ls C _ k => lv_icmp_gt C.1 C.2.1 hd ht (fun h2 => absurd h2 h) (fun _ => k))
abbrev o_ifle (tg : Nat) : qm_op G := o_br (t_i (fun x => x ≤ 0) (fun x => ¬ x ≤ 0)) tg
abbrev o_icle (tg : Nat) : qm_op G := o_br (t_ii (fun x y => x ≤ y) (fun x y => ¬ x ≤ y)) tg
theorem os_ifle {tg pc : Nat} {off : Int} (hd : decode cc pc = .ok (.ifCond .le off, 3)) (ht : (pc : Int) + off = (tg : Int)) : qm_K Λ V hold A l R cc nL own Ts ret pc (pc + 3) (o_ifle tg) := os_i (fun x S h p e s m args below meth c H locs Q ls C _ k => lv_if_le C.1 C.2.1 hd ht (fun _ => k) (fun h2 => absurd h h2)) (fun x S h p e s m args below meth c H locs Q ls C _ k => lv_if_le C.1 C.2.1 hd ht (fun h2 => absurd h2 h) (fun _ => k))
theorem os_icle {tg pc : Nat} {off : Int} (hd : decode cc pc = .ok (.if_icmp .le off, 3)) (ht : (pc : Int) + off = (tg : Int)) : qm_K Λ V hold A l R cc nL own Ts ret pc (pc + 3) (o_icle tg) := os_ii (fun x y S h p e s m args below meth c H locs Q ls C _ k => lv_icmp_le C.1 C.2.1 hd ht (fun _ => k) (fun h2 => absurd h h2)) (fun x y S h p e s m args below meth c H locs Q ls C _ k => lv_icmp_le C.1 C.2.1 hd ht (fun h2 => absurd h2 h) (fun _ => k))
def t_ll (f g : Int64 → Int64 → Prop) : List qm_v → Option (Prop × Prop × List qm_v)
  | .inr (.inl y) :: .inr (.inl x) :: S => some (f x y, g x y, S)
  | _ => none
theorem os_ll2 {f g : Int64 → Int64 → Prop} {tg pc nx : Nat} (h1 : ∀ (x y : Int64) (S : List qm_v), f x y → qm_row Λ l R cc nL own Ts pc tg (qL y :: qL x :: S) S) (h2 : ∀ (x y : Int64) (S : List qm_v), g x y → qm_row Λ l R cc nL own Ts pc nx (qL y :: qL x :: S) S) : qm_K Λ V hold A l R cc nL own Ts ret pc nx (o_br (t_ll f g) tg) := by
  refine os_br fun S ct cf S' hf => ?_
  rcases S with _ | ⟨y | y | y, _ | ⟨x | x | x, S⟩⟩ <;> cases hf
  exact ⟨fun k => (qm_fa2 (qm_fa2 k).2).2, h1 x y _, h2 x y _⟩
abbrev o_lceq (tg : Nat) : qm_op G := o_br (t_ll (fun x y => x = y) (fun x y => ¬ x = y)) tg
theorem os_lceq {tg pc : Nat} {off : Int} (hd : decode cc pc = .ok (.lcmp, 1)) (hd2 : decode cc (pc + 1) = .ok (.ifCond .eq off, 3)) (ht : ((pc + 1 : Nat) : Int) + off = (tg : Int)) : qm_K Λ V hold A l R cc nL own Ts ret pc (pc + 4) (o_lceq tg) := os_ll2 (fun x y S h p e s m args below meth c H locs Q ls C _ k => W.lcmp C.1 C.2.1 hd (lv_if_eq C.1 C.2.1 hd2 ht (fun _ => k) (fun h2 => absurd ((lg_cmp_eq x y).mpr h) h2))) (fun x y S h p e s m args below meth c H locs Q ls C _ k => W.lcmp C.1 C.2.1 hd (lv_if_eq C.1 C.2.1 hd2 ht (fun h2 => absurd ((lg_cmp_eq x y).mp h2) h) (fun _ => k)))
abbrev o_lcne (tg : Nat) : qm_op G := o_br (t_ll (fun x y => ¬ x = y) (fun x y => x = y)) tg
theorem os_lcne {tg pc : Nat} {off : Int} (hd : decode cc pc = .ok (.lcmp, 1)) (hd2 : decode cc (pc + 1) = .ok (.ifCond .ne off, 3)) (ht : ((pc + 1 : Nat) : Int) + off = (tg : Int)) : qm_K Λ V hold A l R cc nL own Ts ret pc (pc + 4) (o_lcne tg) := os_ll2 (fun x y S h p e s m args below meth c H locs Q ls C _ k => W.lcmp C.1 C.2.1 hd (lv_if_ne C.1 C.2.1 hd2 ht (fun _ => k) (fun h2 => absurd ((lg_cmp_eq x y).mp h2) h))) (fun x y S h p e s m args below meth c H locs Q ls C _ k => W.lcmp C.1 C.2.1 hd (lv_if_ne C.1 C.2.1 hd2 ht (fun h2 => absurd ((lg_cmp_eq x y).mpr h) h2) (fun _ => k)))
abbrev o_lclt (tg : Nat) : qm_op G := o_br (t_ll (fun x y => x < y) (fun x y => ¬ x < y)) tg
theorem os_lclt {tg pc : Nat} {off : Int} (hd : decode cc pc = .ok (.lcmp, 1)) (hd2 : decode cc (pc + 1) = .ok (.ifCond .lt off, 3)) (ht : ((pc + 1 : Nat) : Int) + off = (tg : Int)) : qm_K Λ V hold A l R cc nL own Ts ret pc (pc + 4) (o_lclt tg) := os_ll2 (fun x y S h p e s m args below meth c H locs Q ls C _ k => W.lcmp C.1 C.2.1 hd (lv_if_lt C.1 C.2.1 hd2 ht (fun _ => k) (fun h2 => absurd ((lg_cmp_lt x y).mpr h) h2))) (fun x y S h p e s m args below meth c H locs Q ls C _ k => W.lcmp C.1 C.2.1 hd (lv_if_lt C.1 C.2.1 hd2 ht (fun h2 => absurd ((lg_cmp_lt x y).mp h2) h) (fun _ => k)))
abbrev o_lcge (tg : Nat) : qm_op G := o_br (t_ll (fun x y => y ≤ x) (fun x y => ¬ y ≤ x)) tg
theorem os_lcge {tg pc : Nat} {off : Int} (hd : decode cc pc = .ok (.lcmp, 1)) (hd2 : decode cc (pc + 1) = .ok (.ifCond .ge off, 3)) (ht : ((pc + 1 : Nat) : Int) + off = (tg : Int)) : qm_K Λ V hold A l R cc nL own Ts ret pc (pc + 4) (o_lcge tg) := os_ll2 (fun x y S h p e s m args below meth c H locs Q ls C _ k => W.lcmp C.1 C.2.1 hd (lv_if_ge C.1 C.2.1 hd2 ht (fun _ => k) (fun h2 => absurd ((lg_cmp_ge x y).mpr h) h2))) (fun x y S h p e s m args below meth c H locs Q ls C _ k => W.lcmp C.1 C.2.1 hd (lv_if_ge C.1 C.2.1 hd2 ht (fun h2 => absurd ((lg_cmp_ge x y).mp h2) h) (fun _ => k)))
abbrev o_lcgt (tg : Nat) : qm_op G := o_br (t_ll (fun x y => y < x) (fun x y => ¬ y < x)) tg
theorem os_lcgt {tg pc : Nat} {off : Int} (hd : decode cc pc = .ok (.lcmp, 1)) (hd2 : decode cc (pc + 1) = .ok (.ifCond .gt off, 3)) (ht : ((pc + 1 : Nat) : Int) + off = (tg : Int)) : qm_K Λ V hold A l R cc nL own Ts ret pc (pc + 4) (o_lcgt tg) := os_ll2 (fun x y S h p e s m args below meth c H locs Q ls C _ k => W.lcmp C.1 C.2.1 hd (lv_if_gt C.1 C.2.1 hd2 ht (fun _ => k) (fun h2 => absurd ((lg_cmp_gt x y).mpr h) h2))) (fun x y S h p e s m args below meth c H locs Q ls C _ k => W.lcmp C.1 C.2.1 hd (lv_if_gt C.1 C.2.1 hd2 ht (fun h2 => absurd ((lg_cmp_gt x y).mp h2) h) (fun _ => k)))
abbrev o_lcle (tg : Nat) : qm_op G := o_br (t_ll (fun x y => x ≤ y) (fun x y => ¬ x ≤ y)) tg
theorem os_lcle {tg pc : Nat} {off : Int} (hd : decode cc pc = .ok (.lcmp, 1)) (hd2 : decode cc (pc + 1) = .ok (.ifCond .le off, 3)) (ht : ((pc + 1 : Nat) : Int) + off = (tg : Int)) : qm_K Λ V hold A l R cc nL own Ts ret pc (pc + 4) (o_lcle tg) := os_ll2 (fun x y S h p e s m args below meth c H locs Q ls C _ k => W.lcmp C.1 C.2.1 hd (lv_if_le C.1 C.2.1 hd2 ht (fun _ => k) (fun h2 => absurd ((lg_cmp_le x y).mpr h) h2))) (fun x y S h p e s m args below meth c H locs Q ls C _ k => W.lcmp C.1 C.2.1 hd (lv_if_le C.1 C.2.1 hd2 ht (fun h2 => absurd ((lg_cmp_le x y).mp h2) h) (fun _ => k)))
def f_biw (f : Int32 → Int32 → Int32) : List qm_v → Option (List Prop × List qm_v)
  | .inl y :: .inl x :: S => match Nat.ble (qm_wt S) 8 with
    | true => some ([], .inl (f x y) :: S)
    | false => none
  | _ => none
def f_blw (f : Int64 → Int64 → Int64) : List qm_v → Option (List Prop × List qm_v)
  | .inr (.inl y) :: .inr (.inl x) :: S => match Nat.ble (qm_wt S) 8 with
    | true => some ([], .inr (.inl (f x y)) :: S)
    | false => none
  | _ => none
def f_ulw (f : Int64 → Int64) : List qm_v → Option (List Prop × List qm_v)
  | .inr (.inl x) :: S => match Nat.ble (qm_wt S) 8 with
    | true => some ([], .inr (.inl (f x)) :: S)
    | false => none
  | _ => none
theorem os_biw {f : Int32 → Int32 → Int32} {pc nx : Nat} (h : ∀ (x y : Int32) (S : List qm_v), qm_wt S ≤ 8 → qm_row Λ l R cc nL own Ts pc nx (qI y :: qI x :: S) (qI (f x y) :: S)) : qm_K Λ V hold A l R cc nL own Ts ret pc nx (o_stk (f_biw f)) := by
  refine os_stk fun S cs S' hf hc => ?_
  rcases S with _ | ⟨y | y, _ | ⟨x | x, S⟩⟩ <;> try cases hf
  unfold f_biw at hf
  dsimp only at hf
  cases hb : Nat.ble (qm_wt S) 8 <;> rw [hb] at hf <;> cases hf
  exact ⟨fun k => qm_fa trivial (qm_fa2 (qm_fa2 k).2).2, h x y S (Nat.le_of_ble_eq_true hb)⟩
theorem os_blw {f : Int64 → Int64 → Int64} {pc nx : Nat} (h : ∀ (x y : Int64) (S : List qm_v), qm_wt S ≤ 8 → qm_row Λ l R cc nL own Ts pc nx (qL y :: qL x :: S) (qL (f x y) :: S)) : qm_K Λ V hold A l R cc nL own Ts ret pc nx (o_stk (f_blw f)) := by
  refine os_stk fun S cs S' hf hc => ?_
  rcases S with _ | ⟨y | y | y, _ | ⟨x | x | x, S⟩⟩ <;> try cases hf
  unfold f_blw at hf
  dsimp only at hf
  cases hb : Nat.ble (qm_wt S) 8 <;> rw [hb] at hf <;> cases hf
  exact ⟨fun k => qm_fa trivial (qm_fa2 (qm_fa2 k).2).2, h x y S (Nat.le_of_ble_eq_true hb)⟩
theorem os_ulw {f : Int64 → Int64} {pc nx : Nat} (h : ∀ (x : Int64) (S : List qm_v), qm_wt S ≤ 8 → qm_row Λ l R cc nL own Ts pc nx (qL x :: S) (qL (f x) :: S)) : qm_K Λ V hold A l R cc nL own Ts ret pc nx (o_stk (f_ulw f)) := by
  refine os_stk fun S cs S' hf hc => ?_
  rcases S with _ | ⟨x | x | x, S⟩ <;> try cases hf
  unfold f_ulw at hf
  dsimp only at hf
  cases hb : Nat.ble (qm_wt S) 8 <;> rw [hb] at hf <;> cases hf
  exact ⟨fun k => qm_fa trivial (qm_fa2 k).2, h x S (Nat.le_of_ble_eq_true hb)⟩
abbrev o_imax : qm_op G := o_stk (f_biw (fun x y => if x < y then y else x))
theorem os_imax {pc idx : Nat} (hd : decode cc pc = .ok (.invokestatic idx, 3)) (w1 : Cond.methodLink own idx Lib.Math.max.name ∈ Ts) (w2 : Cond.static Lib.Math.max.name ∈ Ts) (w3 : Cond.initialized "java/lang/Math" ∈ Ts) (w4 : Cond.code Lib.Math.max.name Lib.Math.max.code 2 (some .int) ∈ Ts) (hf : 1 ≤ R.frames) (hl : 21 ≤ R.locals) : qm_K Λ V hold A l R cc nL own Ts ret pc (pc + 3) o_imax := os_biw fun x y S hS p e s m args below meth c H locs Q ls C hz k => va_mmax C.1 C.2.1 (C.2.2.1.trans hz.symm) C.2.2.2.1 (C.2.2.2.2 _ w1) (C.2.2.2.2 _ w2) (C.2.2.2.2 _ w3) (C.2.2.2.2 _ w4) hf (by rw [qm_wt_eq]; omega) (Nat.zero_le _) (Nat.zero_le _) hd k
abbrev o_imin : qm_op G := o_stk (f_biw (fun x y => if y < x then y else x))
theorem os_imin {pc idx : Nat} (hd : decode cc pc = .ok (.invokestatic idx, 3)) (w1 : Cond.methodLink own idx Lib.Math.min.name ∈ Ts) (w2 : Cond.static Lib.Math.min.name ∈ Ts) (w3 : Cond.initialized "java/lang/Math" ∈ Ts) (w4 : Cond.code Lib.Math.min.name Lib.Math.min.code 2 (some .int) ∈ Ts) (hf : 1 ≤ R.frames) (hl : 21 ≤ R.locals) : qm_K Λ V hold A l R cc nL own Ts ret pc (pc + 3) o_imin := os_biw fun x y S hS p e s m args below meth c H locs Q ls C hz k => va_mmin C.1 C.2.1 (C.2.2.1.trans hz.symm) C.2.2.2.1 (C.2.2.2.2 _ w1) (C.2.2.2.2 _ w2) (C.2.2.2.2 _ w3) (C.2.2.2.2 _ w4) hf (by rw [qm_wt_eq]; omega) (Nat.zero_le _) (Nat.zero_le _) hd k
abbrev o_lmax : qm_op G := o_stk (f_blw (fun x y => if y < x then x else y))
theorem os_lmax {pc idx : Nat} (hd : decode cc pc = .ok (.invokestatic idx, 3)) (w1 : Cond.methodLink own idx Lib.MathLoose.max_long.x ∈ Ts) (w2 : Cond.static Lib.MathLoose.max_long.x ∈ Ts) (w3 : Cond.initialized "java/lang/Math" ∈ Ts) (w4 : Cond.code Lib.MathLoose.max_long.x Lib.MathLoose.max_long.code 4 (some .long) ∈ Ts) (hf : 1 ≤ R.frames) (hl : 23 ≤ R.locals) : qm_K Λ V hold A l R cc nL own Ts ret pc (pc + 3) o_lmax := os_blw fun x y S hS p e s m args below meth c H locs Q ls C hz k => va_mmax_long C.1 C.2.1 (C.2.2.1.trans hz.symm) C.2.2.2.1 (C.2.2.2.2 _ w1) (C.2.2.2.2 _ w2) (C.2.2.2.2 _ w3) (C.2.2.2.2 _ w4) hf (by rw [qm_wt_eq]; omega) (Nat.zero_le _) (Nat.zero_le _) hd k
abbrev o_lmin : qm_op G := o_stk (f_blw (fun x y => if y < x then y else x))
theorem os_lmin {pc idx : Nat} (hd : decode cc pc = .ok (.invokestatic idx, 3)) (w1 : Cond.methodLink own idx Lib.MathLoose.min_long.x ∈ Ts) (w2 : Cond.static Lib.MathLoose.min_long.x ∈ Ts) (w3 : Cond.initialized "java/lang/Math" ∈ Ts) (w4 : Cond.code Lib.MathLoose.min_long.x Lib.MathLoose.min_long.code 4 (some .long) ∈ Ts) (hf : 1 ≤ R.frames) (hl : 23 ≤ R.locals) : qm_K Λ V hold A l R cc nL own Ts ret pc (pc + 3) o_lmin := os_blw fun x y S hS p e s m args below meth c H locs Q ls C hz k => va_mmin_long C.1 C.2.1 (C.2.2.1.trans hz.symm) C.2.2.2.1 (C.2.2.2.2 _ w1) (C.2.2.2.2 _ w2) (C.2.2.2.2 _ w3) (C.2.2.2.2 _ w4) hf (by rw [qm_wt_eq]; omega) (Nat.zero_le _) (Nat.zero_le _) hd k
abbrev o_labs : qm_op G := o_stk (f_ulw (fun x => if 0 < x then x else -x))
theorem os_labs {pc idx : Nat} (hd : decode cc pc = .ok (.invokestatic idx, 3)) (w1 : Cond.methodLink own idx Lib.MathLoose.abs_long.x ∈ Ts) (w2 : Cond.static Lib.MathLoose.abs_long.x ∈ Ts) (w3 : Cond.initialized "java/lang/Math" ∈ Ts) (w4 : Cond.code Lib.MathLoose.abs_long.x Lib.MathLoose.abs_long.code 2 (some .long) ∈ Ts) (hf : 1 ≤ R.frames) (hl : 21 ≤ R.locals) : qm_K Λ V hold A l R cc nL own Ts ret pc (pc + 3) o_labs := os_ulw fun x S hS p e s m args below meth c H locs Q ls C hz k => va_mabs_long C.1 C.2.1 (C.2.2.1.trans hz.symm) C.2.2.2.1 (C.2.2.2.2 _ w1) (C.2.2.2.2 _ w2) (C.2.2.2.2 _ w3) (C.2.2.2.2 _ w4) hf (by rw [qm_wt_eq]; omega) (Nat.zero_le _) (Nat.zero_le _) hd k
end QMM
end
section
/-! words: every method stands on all words of the tables, behind its own code -/
def gw_tbl : List Cond := lw_tbl.filter goodWord
def wsT (y : MethodName) (b : ByteArray) (n : Nat) (r : Option FieldType) : List Cond := Cond.code y b n r :: gw_tbl
def rmL (d : Nat) : Room := { frames := d, cells := 0, slots := 0, locals := 40 * d }
theorem tb_good {w : Cond} (h : w ∈ gw_tbl) : goodWord w = true := (List.mem_filter.mp h).2
theorem tb_in {y : MethodName} {b : ByteArray} {n : Nat} {r : Option FieldType} {w : Cond} (h : w ∈ gw_tbl) : w ∈ wsT y b n r := List.mem_cons_of_mem _ h
theorem tb_goodIn {y : MethodName} {b : ByteArray} {n : Nat} {r : Option FieldType} {y2 : MethodName} {b2 : ByteArray} {n2 : Nat} {r2 : Option FieldType} (h : Cond.code y2 b2 n2 r2 ∈ gw_tbl) : GoodIn (wsT y b n r) (wsT y2 b2 n2 r2) := fun w hw => by
  have hm : w ∈ gw_tbl := by
    rcases List.mem_cons.mp hw with rfl | hw
    · exact h
    · exact hw
  exact ⟨tb_in hm, good_of_word (tb_good hm)⟩
theorem tb_T {i : Nat} {w : Cond} (h : tables_1[i]? = some w) (hg : goodWord w = true) : w ∈ gw_tbl := List.mem_filter.mpr ⟨List.mem_append_right _ (List.mem_of_getElem? h), hg⟩
theorem tb_S {i : Nat} {w : Cond} (h : (k2_sels lw_privs)[i]? = some w) (hg : goodWord w = true) : w ∈ gw_tbl := List.mem_filter.mpr ⟨List.mem_append_left _ (List.mem_of_getElem? h), hg⟩
theorem tb_T1 {i : Nat} {w : Cond} (h : tables_1_1[i]? = some w) (hg : goodWord w = true) : w ∈ gw_tbl := List.mem_filter.mpr ⟨List.mem_append_right _ (List.mem_append_left _ (List.mem_of_getElem? h)), hg⟩
theorem tb_T2 {i : Nat} {w : Cond} (h : tables_1_2[i]? = some w) (hg : goodWord w = true) : w ∈ gw_tbl := List.mem_filter.mpr ⟨List.mem_append_right _ (List.mem_append_right _ (List.mem_append_left _ (List.mem_of_getElem? h))), hg⟩
theorem tb_T3 {i : Nat} {w : Cond} (h : tables_1_3[i]? = some w) (hg : goodWord w = true) : w ∈ gw_tbl := List.mem_filter.mpr ⟨List.mem_append_right _ (List.mem_append_right _ (List.mem_append_right _ (List.mem_append_left _ (List.mem_of_getElem? h)))), hg⟩
theorem tb_T4 {i : Nat} {w : Cond} (h : tables_1_4[i]? = some w) (hg : goodWord w = true) : w ∈ gw_tbl := List.mem_filter.mpr ⟨List.mem_append_right _ (List.mem_append_right _ (List.mem_append_right _ (List.mem_append_right _ (List.mem_of_getElem? h)))), hg⟩
section WCALL
variable {x y : MethodName} {bx by2 : ByteArray} {nx ny : Nat} {rx ry : Option FieldType} {own C : String} {idx n dx dy : Nat}
theorem cwT_s (hcode : Cond.code y by2 ny ry ∈ gw_tbl) (hini : Cond.initialized y.cls ∈ gw_tbl) (hl : Cond.methodLink own idx y ∈ gw_tbl) (hst : Cond.static y ∈ gw_tbl) (hd : y.cls ≠ "java/lang/invoke/MethodHandle" ∧ y.cls ≠ "java/lang/invoke/VarHandle" ∧ (parseMethodDescriptor y.desc).map (fun d => d.parameters.length) = some n) (hR : dy + 1 ≤ dx ∧ ny ≤ 21) (s : State) (args : Array Value) (ht : ∀ w ∈ wsT x bx nx rx, w.before args s = true) : CallB (rmL dx) s args own idx y by2 ny ry (wsT y by2 ny ry) (rmL dy) 0 0 n ∧ (Cond.static y).before args s = true :=
  ⟨callB_of n ht (tb_goodIn hcode) rfl rfl rfl (ht _ (tb_in hini)) (ht _ (tb_in hl)) hd ⟨hR.1, by show 8 + (ny + 11) + 40 * dy ≤ 40 * dx; omega⟩, ht _ (tb_in hst)⟩
theorem cwT_v (hcode : Cond.code y by2 ny ry ∈ gw_tbl) (hini : Cond.initialized y.cls ∈ gw_tbl) (hl : Cond.methodLink own idx y ∈ gw_tbl) (him : Cond.instanceMethod y ∈ gw_tbl) (hsel : Cond.selects C y y ∈ gw_tbl) (hd : y.cls ≠ "java/lang/invoke/MethodHandle" ∧ y.cls ≠ "java/lang/invoke/VarHandle" ∧ (parseMethodDescriptor y.desc).map (fun d => d.parameters.length) = some n) (hR : dy + 1 ≤ dx ∧ ny ≤ 21) (s : State) (args : Array Value) (ht : ∀ w ∈ wsT x bx nx rx, w.before args s = true) : CallW (rmL dx) s args own C idx y by2 ny ry (wsT y by2 ny ry) (rmL dy) 0 0 n :=
  ⟨callB_of n ht (tb_goodIn hcode) rfl rfl rfl (ht _ (tb_in hini)) (ht _ (tb_in hl)) hd ⟨hR.1, by show 8 + (ny + 11) + 40 * dy ≤ 40 * dx; omega⟩, ht _ (tb_in him), ht _ (tb_in hsel)⟩
end WCALL
section WNEST
variable {G : Type} {D : va_G} {cl : List vw_C} {tys : List (ClassId × FieldType)} {Λ : Nat → Nat → Nat} {V : Nat → Nat → Prop} {ce : G → Nat → Nat → va_E} {okg : G → Prop} {ex : State → Heap → Prop} {A : Nat → Prop} {l : Launch} {R : Room} {cc : ByteArray} {nL : Nat} {own : String} {Ts : List Cond} {ret : Option FieldType}
theorem os_calln (hsys : qm_sys Λ V ex A) {pc idx n maxL : Nat} {host : String} {y : MethodName} {bytes : ByteArray} {rc : Option FieldType} {ws : List Cond} {rm : Room} (hd : decode cc pc = .ok (.invokestatic idx, 3)) (cw : ∀ (s : State) (args : Array Value), (∀ w ∈ Ts, w.before args s = true) → va_Nw (.methodLinkNest own idx y host) s → va_CN R s args own idx y host bytes maxL rc ws rm 0 0 n ∧ (Cond.static y).before args s = true ∧ True) (hX : ∀ (s : State) (H : Heap), ex s H → va_Nw (.methodLinkNest own idx y host) s) : qm_K Λ V (qm_hold D cl tys Λ V ce okg ex) A l R cc nL own Ts ret pc (pc + 3) (o_call n (qm_Sd Λ V (qm_hold D cl tys Λ V ce okg ex) A l (y, ws, rm))) := by
  intro Fq p e s m args below meth c Q C0 o t hc1 hn H locs ls hA
  obtain ⟨L, S, g⟩ := t
  obtain ⟨o1, o2, o3⟩ := o
  obtain ⟨a1, a2, a3, a4, a5⟩ := hA
  unfold o_call at hc1 hn
  dsimp only at hc1 hn
  rcases hp : qm_pop n S [] with _ | ⟨as, S'⟩ <;> rw [hp] at hc1 hn
  · exact hc1.elim
  · rcases o3 with _ | ⟨⟨r, g'⟩, rs⟩
    · exact hc1.elim
    · dsimp only at hc1 hn
      cases hb : Nat.ble (qm_wt S') 8 <;> rw [hb] at hc1 hn
      · exact hc1.elim
      · obtain ⟨p1, p2⟩ := qm_pop_of hp
        have p2 : as.reverse ++ S' = S := p2
        have hM : qm_Sd Λ V (qm_hold D cl tys Λ V ce okg ex) A l (y, ws, rm) as g r g' := hc1
        have hS' : ∀ v ∈ S', qm_ok V v := fun v hv => a3 v (p2 ▸ List.mem_append_right _ hv)
        have has : ∀ v ∈ as, qm_ok V v := fun v hv => a3 v (p2 ▸ List.mem_append_left _ (List.mem_reverse.mpr hv))
        refine qm_go hsys (va_runSN (As := as.map (qm_cv Λ)) (rest := S'.map (qm_cv Λ)) C0.1 hM (cw s args C0.1.2.2.2.2 (hX s H a1.2.2.2)) (qm_pre hsys a1 has) rfl (by rw [List.length_map]; exact p1) a4.1.1 (by show S.map (qm_cv Λ) = _; rw [← p2, List.map_append, List.map_reverse]) (lv_room (by rw [qm_wt_eq]; exact Nat.le_of_ble_eq_true hb)) hd ⟨Nat.zero_le _, Nat.zero_le _⟩) a5 ?_
        rintro r1 g1 H1 locs1 ⟨rfl, rfl⟩ hok hh hS1
        have hn := hn H1 locs1 ls
        rcases r1 with _ | v
        · exact hn ⟨hh, a2, hS', a4, hS1⟩
        · exact hn ⟨hh, a2, qm_fa (hok v rfl) hS', a4, hS1⟩
end WNEST
theorem cnT_s {x y : MethodName} {bx by2 : ByteArray} {nx ny : Nat} {rx ry : Option FieldType} {own host : String} {idx n dx dy : Nat} (hcode : Cond.code y by2 ny ry ∈ gw_tbl) (hini : Cond.initialized y.cls ∈ gw_tbl) (hst : Cond.static y ∈ gw_tbl) (hd : y.cls ≠ "java/lang/invoke/MethodHandle" ∧ y.cls ≠ "java/lang/invoke/VarHandle" ∧ (parseMethodDescriptor y.desc).map (fun d => d.parameters.length) = some n) (hR : dy + 1 ≤ dx ∧ ny ≤ 21) (s : State) (args : Array Value) (ht : ∀ w ∈ wsT x bx nx rx, w.before args s = true) (hl : va_Nw (.methodLinkNest own idx y host) s) : va_CN (rmL dx) s args own idx y host by2 ny ry (wsT y by2 ny ry) (rmL dy) 0 0 n ∧ (Cond.static y).before args s = true ∧ True :=
  ⟨va_cnB n ht (tb_goodIn hcode) rfl rfl rfl hl (ht _ (tb_in hini)) hd ⟨hR.1, by show 8 + (ny + 11) + 40 * dy ≤ 40 * dx; omega⟩, ht _ (tb_in hst), trivial⟩
end
section
/-! names of all methods, their words -/
def yR_init : MethodName := ⟨"FunctionRows", "<init>", "()V"⟩
theorem cR_init : Cond.code yR_init prog_1_method_1_code 2 none ∈ gw_tbl := tb_T1 (i := 19) rfl rfl
def yR_type : MethodName := ⟨"FunctionRows", "type", "(JI)I"⟩
theorem cR_type : Cond.code yR_type prog_1_method_2_code 6 (some .int) ∈ gw_tbl := tb_T1 (i := 190) rfl rfl
def yR_text : MethodName := ⟨"FunctionRows", "text", "(I)I"⟩
theorem cR_text : Cond.code yR_text prog_1_method_3_code 5 (some .int) ∈ gw_tbl := tb_T1 (i := 197) rfl rfl
def yR_whole : MethodName := ⟨"FunctionRows", "whole", "(J)I"⟩
theorem cR_whole : Cond.code yR_whole prog_1_method_4_code 3 (some .int) ∈ gw_tbl := tb_T1 (i := 213) rfl rfl
def yR_leaf : MethodName := ⟨"FunctionRows", "leaf", "(II)I"⟩
theorem cR_leaf : Cond.code yR_leaf prog_1_method_5_code 4 (some .int) ∈ gw_tbl := tb_T1 (i := 227) rfl rfl
def yR_call : MethodName := ⟨"FunctionRows", "call", "(IIII)I"⟩
theorem cR_call : Cond.code yR_call prog_1_method_6_code 8 (some .int) ∈ gw_tbl := tb_T2 (i := 6) rfl rfl
def yR_takes : MethodName := ⟨"FunctionRows", "takes", "(I)I"⟩
theorem cR_takes : Cond.code yR_takes prog_1_method_7_code 2 (some .int) ∈ gw_tbl := tb_T2 (i := 10) rfl rfl
def yR_run : MethodName := ⟨"FunctionRows", "run", "(I)I"⟩
theorem cR_run : Cond.code yR_run prog_1_method_8_code 3 (some .int) ∈ gw_tbl := tb_T2 (i := 28) rfl rfl
def yR_number : MethodName := ⟨"FunctionRows", "number", "()J"⟩
theorem cR_number : Cond.code yR_number prog_1_method_9_code 1 (some .long) ∈ gw_tbl := tb_T3 (i := 75) rfl rfl
def yR_tag : MethodName := ⟨"FunctionRows", "tag", "()I"⟩
theorem cR_tag : Cond.code yR_tag prog_1_method_10_code 1 (some .int) ∈ gw_tbl := tb_T3 (i := 80) rfl rfl
def yR_letter : MethodName := ⟨"FunctionRows", "letter", "(I)I"⟩
theorem cR_letter : Cond.code yR_letter prog_1_method_11_code 2 (some .int) ∈ gw_tbl := tb_T3 (i := 84) rfl rfl
def yR_give : MethodName := ⟨"FunctionRows", "give", "(I)I"⟩
theorem cR_give : Cond.code yR_give prog_1_method_12_code 2 (some .int) ∈ gw_tbl := tb_T3 (i := 89) rfl rfl
def yR_drop : MethodName := ⟨"FunctionRows", "drop", "(I)I"⟩
theorem cR_drop : Cond.code yR_drop prog_1_method_13_code 2 (some .int) ∈ gw_tbl := tb_T3 (i := 96) rfl rfl
def yR_uses : MethodName := ⟨"FunctionRows", "uses", "(I)I"⟩
theorem cR_uses : Cond.code yR_uses prog_1_method_14_code 2 (some .int) ∈ gw_tbl := tb_T3 (i := 101) rfl rfl
def yR_depth : MethodName := ⟨"FunctionRows", "depth", "(I)I"⟩
theorem cR_depth : Cond.code yR_depth prog_1_method_15_code 2 (some .int) ∈ gw_tbl := tb_T3 (i := 105) rfl rfl
def yR_clear : MethodName := ⟨"FunctionRows", "clear", "()I"⟩
theorem cR_clear : Cond.code yR_clear prog_1_method_16_code 2 (some .int) ∈ gw_tbl := tb_T3 (i := 109) rfl rfl
def yR_size : MethodName := ⟨"FunctionRows", "size", "()I"⟩
theorem cR_size : Cond.code yR_size prog_1_method_17_code 1 (some .int) ∈ gw_tbl := tb_T3 (i := 113) rfl rfl
def yR_isExpression : MethodName := ⟨"FunctionRows", "isExpression", "(I)Z"⟩
theorem cR_isExpression : Cond.code yR_isExpression prog_1_method_18_code 2 (some .boolean) ∈ gw_tbl := tb_T2 (i := 16) rfl rfl
def yR_isVariable : MethodName := ⟨"FunctionRows", "isVariable", "(I)Z"⟩
theorem cR_isVariable : Cond.code yR_isVariable prog_1_method_19_code 1 (some .boolean) ∈ gw_tbl := tb_T3 (i := 92) rfl rfl
def yR_isWhole : MethodName := ⟨"FunctionRows", "isWhole", "(J)Z"⟩
theorem cR_isWhole : Cond.code yR_isWhole prog_1_method_20_code 2 (some .boolean) ∈ gw_tbl := tb_T1 (i := 216) rfl rfl
def yR_byteOf : MethodName := ⟨"FunctionRows", "byteOf", "(JI)I"⟩
theorem cR_byteOf : Cond.code yR_byteOf prog_1_method_21_code 3 (some .int) ∈ gw_tbl := tb_T1 (i := 193) rfl rfl
def yR_lastLeaf : MethodName := ⟨"FunctionRows", "lastLeaf", "(I)I"⟩
theorem cR_lastLeaf : Cond.code yR_lastLeaf prog_1_method_22_code 1 (some .int) ∈ gw_tbl := tb_T1 (i := 230) rfl rfl
def yR_reckon : MethodName := ⟨"FunctionRows", "reckon", "(LFunctionRows$Expression;)V"⟩
theorem cR_reckon : Cond.code yR_reckon prog_1_method_23_code 5 none ∈ gw_tbl := tb_T2 (i := 41) rfl rfl
def yM_init : MethodName := ⟨"FunctionRowsModel", "<init>", "()V"⟩
theorem cM_init : Cond.code yM_init prog_10_method_1_code 1 none ∈ gw_tbl := tb_T3 (i := 118) rfl rfl
def yM_in : MethodName := ⟨"FunctionRowsModel", "in", "(JJJ)Z"⟩
theorem cM_in : Cond.code yM_in prog_10_method_3_code 6 (some .boolean) ∈ gw_tbl := tb_T3 (i := 180) rfl rfl
def yM_type : MethodName := ⟨"FunctionRowsModel", "type", "(JI)I"⟩
theorem cM_type : Cond.code yM_type prog_10_method_4_code 6 (some .int) ∈ gw_tbl := tb_T3 (i := 176) rfl rfl
def yM_add : MethodName := ⟨"FunctionRowsModel", "add", "(IJ)I"⟩
theorem cM_add : Cond.code yM_add prog_10_method_5_code 4 (some .int) ∈ gw_tbl := tb_T3 (i := 192) rfl rfl
def yM_text : MethodName := ⟨"FunctionRowsModel", "text", "(I)I"⟩
theorem cM_text : Cond.code yM_text prog_10_method_6_code 5 (some .int) ∈ gw_tbl := tb_T3 (i := 187) rfl rfl
def yM_whole : MethodName := ⟨"FunctionRowsModel", "whole", "(J)I"⟩
theorem cM_whole : Cond.code yM_whole prog_10_method_7_code 3 (some .int) ∈ gw_tbl := tb_T3 (i := 196) rfl rfl
def yM_leaf : MethodName := ⟨"FunctionRowsModel", "leaf", "(II)I"⟩
theorem cM_leaf : Cond.code yM_leaf prog_10_method_8_code 4 (some .int) ∈ gw_tbl := tb_T3 (i := 202) rfl rfl
def yM_isExpression : MethodName := ⟨"FunctionRowsModel", "isExpression", "(I)Z"⟩
theorem cM_isExpression : Cond.code yM_isExpression prog_10_method_9_code 2 (some .boolean) ∈ gw_tbl := tb_T3 (i := 220) rfl rfl
def yM_arity : MethodName := ⟨"FunctionRowsModel", "arity", "(I)I"⟩
theorem cM_arity : Cond.code yM_arity prog_10_method_10_code 1 (some .int) ∈ gw_tbl := tb_T3 (i := 212) rfl rfl
def yM_takes : MethodName := ⟨"FunctionRowsModel", "takes", "(I)I"⟩
theorem cM_takes : Cond.code yM_takes prog_10_method_11_code 2 (some .int) ∈ gw_tbl := tb_T3 (i := 208) rfl rfl
def yM_call : MethodName := ⟨"FunctionRowsModel", "call", "(IIII)I"⟩
theorem cM_call : Cond.code yM_call prog_10_method_12_code 7 (some .int) ∈ gw_tbl := tb_T3 (i := 216) rfl rfl
def yM_copy : MethodName := ⟨"FunctionRowsModel", "copy", "(II)V"⟩
theorem cM_copy : Cond.code yM_copy prog_10_method_13_code 4 none ∈ gw_tbl := tb_T3 (i := 232) rfl rfl
def yM_set : MethodName := ⟨"FunctionRowsModel", "set", "(IIJ)V"⟩
theorem cM_set : Cond.code yM_set prog_10_method_14_code 5 none ∈ gw_tbl := tb_T3 (i := 236) rfl rfl
def yM_setTruth : MethodName := ⟨"FunctionRowsModel", "setTruth", "(II)V"⟩
theorem cM_setTruth : Cond.code yM_setTruth prog_10_method_15_code 3 none ∈ gw_tbl := tb_T4 (i := 8) rfl rfl
def yM_setWhole : MethodName := ⟨"FunctionRowsModel", "setWhole", "(IJ)V"⟩
theorem cM_setWhole : Cond.code yM_setWhole prog_10_method_16_code 4 none ∈ gw_tbl := tb_T4 (i := 32) rfl rfl
def yM_truth : MethodName := ⟨"FunctionRowsModel", "truth", "(I)I"⟩
theorem cM_truth : Cond.code yM_truth prog_10_method_17_code 2 (some .int) ∈ gw_tbl := tb_T4 (i := 4) rfl rfl
def yM_length : MethodName := ⟨"FunctionRowsModel", "length", "(I)I"⟩
theorem cM_length : Cond.code yM_length prog_10_method_18_code 2 (some .int) ∈ gw_tbl := tb_T4 (i := 16) rfl rfl
def yM_byteAt : MethodName := ⟨"FunctionRowsModel", "byteAt", "(II)I"⟩
theorem cM_byteAt : Cond.code yM_byteAt prog_10_method_19_code 3 (some .int) ∈ gw_tbl := tb_T4 (i := 20) rfl rfl
def yM_setPart : MethodName := ⟨"FunctionRowsModel", "setPart", "(IIIII)V"⟩
theorem cM_setPart : Cond.code yM_setPart prog_10_method_20_code 8 none ∈ gw_tbl := tb_T4 (i := 42) rfl rfl
def yM_say : MethodName := ⟨"FunctionRowsModel", "say", "(II)V"⟩
theorem cM_say : Cond.code yM_say prog_10_method_21_code 3 none ∈ gw_tbl := tb_T4 (i := 50) rfl rfl
def yM_sayNumber : MethodName := ⟨"FunctionRowsModel", "sayNumber", "(IJ)V"⟩
theorem cM_sayNumber : Cond.code yM_sayNumber prog_10_method_22_code 8 none ∈ gw_tbl := tb_T4 (i := 87) rfl rfl
def yM_sayAll : MethodName := ⟨"FunctionRowsModel", "sayAll", "(II)V"⟩
theorem cM_sayAll : Cond.code yM_sayAll prog_10_method_23_code 4 none ∈ gw_tbl := tb_T4 (i := 46) rfl rfl
def yM_same : MethodName := ⟨"FunctionRowsModel", "same", "(II)I"⟩
theorem cM_same : Cond.code yM_same prog_10_method_24_code 5 (some .int) ∈ gw_tbl := tb_T4 (i := 12) rfl rfl
def yM_less : MethodName := ⟨"FunctionRowsModel", "less", "(II)I"⟩
theorem cM_less : Cond.code yM_less prog_10_method_25_code 6 (some .int) ∈ gw_tbl := tb_T4 (i := 24) rfl rfl
def yM_stands : MethodName := ⟨"FunctionRowsModel", "stands", "(III)Z"⟩
theorem cM_stands : Cond.code yM_stands prog_10_method_26_code 6 (some .boolean) ∈ gw_tbl := tb_T4 (i := 67) rfl rfl
def yM_placeOf : MethodName := ⟨"FunctionRowsModel", "placeOf", "(III)I"⟩
theorem cM_placeOf : Cond.code yM_placeOf prog_10_method_27_code 5 (some .int) ∈ gw_tbl := tb_T4 (i := 63) rfl rfl
def yM_reckon : MethodName := ⟨"FunctionRowsModel", "reckon", "(I)V"⟩
theorem cM_reckon : Cond.code yM_reckon prog_10_method_28_code 6 none ∈ gw_tbl := tb_T3 (i := 228) rfl rfl
def yM_truths : MethodName := ⟨"FunctionRowsModel", "truths", "(IIII)V"⟩
theorem cM_truths : Cond.code yM_truths prog_10_method_29_code 7 none ∈ gw_tbl := tb_T4 (i := 0) rfl rfl
def yM_arithmetic : MethodName := ⟨"FunctionRowsModel", "arithmetic", "(IIJJ)V"⟩
theorem cM_arithmetic : Cond.code yM_arithmetic prog_10_method_30_code 11 none ∈ gw_tbl := tb_T4 (i := 28) rfl rfl
def yM_texts : MethodName := ⟨"FunctionRowsModel", "texts", "(IIIII)V"⟩
theorem cM_texts : Cond.code yM_texts prog_10_method_31_code 10 none ∈ gw_tbl := tb_T4 (i := 36) rfl rfl
def yM_places : MethodName := ⟨"FunctionRowsModel", "places", "(IIII)V"⟩
theorem cM_places : Cond.code yM_places prog_10_method_32_code 6 none ∈ gw_tbl := tb_T4 (i := 59) rfl rfl
def yM_others : MethodName := ⟨"FunctionRowsModel", "others", "(IIIII)V"⟩
theorem cM_others : Cond.code yM_others prog_10_method_33_code 7 none ∈ gw_tbl := tb_T4 (i := 71) rfl rfl
def yM_asNumber : MethodName := ⟨"FunctionRowsModel", "asNumber", "(II)V"⟩
theorem cM_asNumber : Cond.code yM_asNumber prog_10_method_34_code 9 none ∈ gw_tbl := tb_T4 (i := 75) rfl rfl
def yM_words : MethodName := ⟨"FunctionRowsModel", "words", "(II)V"⟩
theorem cM_words : Cond.code yM_words prog_10_method_35_code 4 none ∈ gw_tbl := tb_T4 (i := 83) rfl rfl
def yM_last : MethodName := ⟨"FunctionRowsModel", "last", "(IIIII)V"⟩
theorem cM_last : Cond.code yM_last prog_10_method_36_code 8 none ∈ gw_tbl := tb_T4 (i := 91) rfl rfl
def yM_goes : MethodName := ⟨"FunctionRowsModel", "goes", "(III)V"⟩
theorem cM_goes : Cond.code yM_goes prog_10_method_37_code 5 none ∈ gw_tbl := tb_T4 (i := 95) rfl rfl
def yM_here : MethodName := ⟨"FunctionRowsModel", "here", "()I"⟩
theorem cM_here : Cond.code yM_here prog_10_method_38_code 1 (some .int) ∈ gw_tbl := tb_T4 (i := 107) rfl rfl
def yM_alternatives : MethodName := ⟨"FunctionRowsModel", "alternatives", "(I)I"⟩
theorem cM_alternatives : Cond.code yM_alternatives prog_10_method_39_code 3 (some .int) ∈ gw_tbl := tb_T4 (i := 99) rfl rfl
def yM_pieces : MethodName := ⟨"FunctionRowsModel", "pieces", "(I)I"⟩
theorem cM_pieces : Cond.code yM_pieces prog_10_method_40_code 3 (some .int) ∈ gw_tbl := tb_T4 (i := 103) rfl rfl
def yM_piece : MethodName := ⟨"FunctionRowsModel", "piece", "(I)I"⟩
theorem cM_piece : Cond.code yM_piece prog_10_method_41_code 9 (some .int) ∈ gw_tbl := tb_T4 (i := 111) rfl rfl
def yM_step : MethodName := ⟨"FunctionRowsModel", "step", "(IZI)I"⟩
theorem cM_step : Cond.code yM_step prog_10_method_42_code 6 (some .int) ∈ gw_tbl := tb_T4 (i := 119) rfl rfl
def yM_atom : MethodName := ⟨"FunctionRowsModel", "atom", "(I)I"⟩
theorem cM_atom : Cond.code yM_atom prog_10_method_43_code 5 (some .int) ∈ gw_tbl := tb_T4 (i := 115) rfl rfl
def yM_isItem : MethodName := ⟨"FunctionRowsModel", "isItem", "()Z"⟩
theorem cM_isItem : Cond.code yM_isItem prog_10_method_44_code 2 (some .boolean) ∈ gw_tbl := tb_T4 (i := 127) rfl rfl
def yM_items : MethodName := ⟨"FunctionRowsModel", "items", "(I)I"⟩
theorem cM_items : Cond.code yM_items prog_10_method_45_code 7 (some .int) ∈ gw_tbl := tb_T4 (i := 123) rfl rfl
def yM_run : MethodName := ⟨"FunctionRowsModel", "run", "(I)I"⟩
theorem cM_run : Cond.code yM_run prog_10_method_46_code 3 (some .int) ∈ gw_tbl := tb_T3 (i := 224) rfl rfl
def yM_number : MethodName := ⟨"FunctionRowsModel", "number", "()J"⟩
theorem cM_number : Cond.code yM_number prog_10_method_47_code 1 (some .long) ∈ gw_tbl := tb_T4 (i := 131) rfl rfl
def yM_tag : MethodName := ⟨"FunctionRowsModel", "tag", "()I"⟩
theorem cM_tag : Cond.code yM_tag prog_10_method_48_code 1 (some .int) ∈ gw_tbl := tb_T4 (i := 136) rfl rfl
def yM_letter : MethodName := ⟨"FunctionRowsModel", "letter", "(I)I"⟩
theorem cM_letter : Cond.code yM_letter prog_10_method_49_code 2 (some .int) ∈ gw_tbl := tb_T4 (i := 140) rfl rfl
def yM_give : MethodName := ⟨"FunctionRowsModel", "give", "(I)I"⟩
theorem cM_give : Cond.code yM_give prog_10_method_50_code 2 (some .int) ∈ gw_tbl := tb_T4 (i := 144) rfl rfl
def yM_drop : MethodName := ⟨"FunctionRowsModel", "drop", "(I)I"⟩
theorem cM_drop : Cond.code yM_drop prog_10_method_51_code 3 (some .int) ∈ gw_tbl := tb_T4 (i := 148) rfl rfl
def yM_uses : MethodName := ⟨"FunctionRowsModel", "uses", "(I)I"⟩
theorem cM_uses : Cond.code yM_uses prog_10_method_52_code 4 (some .int) ∈ gw_tbl := tb_T4 (i := 152) rfl rfl
def yM_depth : MethodName := ⟨"FunctionRowsModel", "depth", "(I)I"⟩
theorem cM_depth : Cond.code yM_depth prog_10_method_53_code 4 (some .int) ∈ gw_tbl := tb_T4 (i := 156) rfl rfl
def yM_clear : MethodName := ⟨"FunctionRowsModel", "clear", "()I"⟩
theorem cM_clear : Cond.code yM_clear prog_10_method_54_code 2 (some .int) ∈ gw_tbl := tb_T4 (i := 161) rfl rfl
def yM_size : MethodName := ⟨"FunctionRowsModel", "size", "()I"⟩
theorem cM_size : Cond.code yM_size prog_10_method_55_code 1 (some .int) ∈ gw_tbl := tb_T4 (i := 165) rfl rfl
def yC_reckon : MethodName := ⟨"FunctionRows$Casts", "reckon", "(ILFunctionRows$Value;LFunctionRows$Value;LFunctionRows$Value;LFunctionRows$Value;)V"⟩
theorem cC_reckon : Cond.code yC_reckon prog_2_method_2_code 5 none ∈ gw_tbl := tb_T2 (i := 197) rfl rfl
def yC_choose : MethodName := ⟨"FunctionRows$Casts", "choose", "(LFunctionRows$Value;ILFunctionRows$Value;LFunctionRows$Value;)V"⟩
theorem cC_choose : Cond.code yC_choose prog_2_method_3_code 4 none ∈ gw_tbl := tb_T2 (i := 209) rfl rfl
def yC_toNumber : MethodName := ⟨"FunctionRows$Casts", "toNumber", "(LFunctionRows$Value;LFunctionRows$Value;)V"⟩
theorem cC_toNumber : Cond.code yC_toNumber prog_2_method_4_code 2 none ∈ gw_tbl := tb_T2 (i := 214) rfl rfl
def yC_readDigits : MethodName := ⟨"FunctionRows$Casts", "readDigits", "(LFunctionRows$Value;LFunctionRows$Value;)V"⟩
theorem cC_readDigits : Cond.code yC_readDigits prog_2_method_5_code 9 none ∈ gw_tbl := tb_T2 (i := 218) rfl rfl
def yC_toWords : MethodName := ⟨"FunctionRows$Casts", "toWords", "(LFunctionRows$Value;LFunctionRows$Value;)V"⟩
theorem cC_toWords : Cond.code yC_toWords prog_2_method_6_code 2 none ∈ gw_tbl := tb_T2 (i := 224) rfl rfl
def yC_appendWord : MethodName := ⟨"FunctionRows$Casts", "appendWord", "(LFunctionRows$Value;Ljava/lang/String;)V"⟩
theorem cC_appendWord : Cond.code yC_appendWord prog_2_method_7_code 3 none ∈ gw_tbl := tb_T2 (i := 231) rfl rfl
def yE_init : MethodName := ⟨"FunctionRows$Expression", "<init>", "()V"⟩
theorem cE_init : Cond.code yE_init prog_3_method_1_code 1 none ∈ gw_tbl := tb_T1 (i := 122) rfl rfl
def yE_becomeValue : MethodName := ⟨"FunctionRows$Expression", "becomeValue", "()LFunctionRows$Value;"⟩
theorem cE_becomeValue : Cond.code yE_becomeValue prog_3_method_2_code 1 (some (.object "FunctionRows$Value")) ∈ gw_tbl := tb_T1 (i := 201) rfl rfl
def yE_becomeVariable : MethodName := ⟨"FunctionRows$Expression", "becomeVariable", "(ILFunctionRows$Value;)V"⟩
theorem cE_becomeVariable : Cond.code yE_becomeVariable prog_3_method_3_code 3 none ∈ gw_tbl := tb_T1 (i := 234) rfl rfl
def yE_becomeCall : MethodName := ⟨"FunctionRows$Expression", "becomeCall", "(ILFunctionRows$Expression;LFunctionRows$Expression;LFunctionRows$Expression;)V"⟩
theorem cE_becomeCall : Cond.code yE_becomeCall prog_3_method_4_code 5 none ∈ gw_tbl := tb_T2 (i := 20) rfl rfl
def yE_isCall : MethodName := ⟨"FunctionRows$Expression", "isCall", "()Z"⟩
theorem cE_isCall : Cond.code yE_isCall prog_3_method_5_code 1 (some .boolean) ∈ gw_tbl := tb_T2 (i := 36) rfl rfl
def yE_wantOperands : MethodName := ⟨"FunctionRows$Expression", "wantOperands", "()V"⟩
theorem cE_wantOperands : Cond.code yE_wantOperands prog_3_method_6_code 1 none ∈ gw_tbl := tb_T2 (i := 32) rfl rfl
def yE_given : MethodName := ⟨"FunctionRows$Expression", "given", "()I"⟩
theorem cE_given : Cond.code yE_given prog_3_method_7_code 1 (some .int) ∈ gw_tbl := tb_T2 (i := 45) rfl rfl
def yS_init : MethodName := ⟨"FunctionRows$Search", "<init>", "()V"⟩
theorem cS_init : Cond.code yS_init prog_4_method_1_code 1 none ∈ gw_tbl := tb_T1 (i := 73) rfl rfl
def yS_goes : MethodName := ⟨"FunctionRows$Search", "goes", "(LFunctionRows$Value;LFunctionRows$Value;)I"⟩
theorem cS_goes : Cond.code yS_goes prog_4_method_2_code 5 (some .int) ∈ gw_tbl := tb_T2 (i := 52) rfl rfl
def yS_begin : MethodName := ⟨"FunctionRows$Search", "begin", "()V"⟩
theorem cS_begin : Cond.code yS_begin prog_4_method_3_code 1 none ∈ gw_tbl := tb_T2 (i := 59) rfl rfl
def yS_read : MethodName := ⟨"FunctionRows$Search", "read", "(LFunctionRows$Value;LFunctionRows$Value;)Z"⟩
theorem cS_read : Cond.code yS_read prog_4_method_4_code 4 (some .boolean) ∈ gw_tbl := tb_T2 (i := 70) rfl rfl
def yS_openGroup : MethodName := ⟨"FunctionRows$Search", "openGroup", "()Z"⟩
theorem cS_openGroup : Cond.code yS_openGroup prog_4_method_5_code 1 (some .boolean) ∈ gw_tbl := tb_T2 (i := 78) rfl rfl
def yS_closeGroup : MethodName := ⟨"FunctionRows$Search", "closeGroup", "(LFunctionRows$Value;)Z"⟩
theorem cS_closeGroup : Cond.code yS_closeGroup prog_4_method_6_code 2 (some .boolean) ∈ gw_tbl := tb_T2 (i := 90) rfl rfl
def yS_anchor : MethodName := ⟨"FunctionRows$Search", "anchor", "(I)Z"⟩
theorem cS_anchor : Cond.code yS_anchor prog_4_method_7_code 3 (some .boolean) ∈ gw_tbl := tb_T2 (i := 98) rfl rfl
def yS_atom : MethodName := ⟨"FunctionRows$Search", "atom", "(ILFunctionRows$Value;)Z"⟩
theorem cS_atom : Cond.code yS_atom prog_4_method_8_code 5 (some .boolean) ∈ gw_tbl := tb_T2 (i := 105) rfl rfl
def yS_enter : MethodName := ⟨"FunctionRows$Search", "enter", "()I"⟩
theorem cS_enter : Cond.code yS_enter prog_4_method_9_code 2 (some .int) ∈ gw_tbl := tb_T2 (i := 82) rfl rfl
def yS_repeat : MethodName := ⟨"FunctionRows$Search", "repeat", "(IILFunctionRows$Value;)V"⟩
theorem cS_repeat : Cond.code yS_repeat prog_4_method_10_code 5 none ∈ gw_tbl := tb_T2 (i := 94) rfl rfl
def yS_readEscaped : MethodName := ⟨"FunctionRows$Search", "readEscaped", "(LFunctionRows$Value;LFunctionRows$Value;)I"⟩
theorem cS_readEscaped : Cond.code yS_readEscaped prog_4_method_11_code 4 (some .int) ∈ gw_tbl := tb_T2 (i := 116) rfl rfl
def yS_readItems : MethodName := ⟨"FunctionRows$Search", "readItems", "(LFunctionRows$Value;LFunctionRows$Value;)I"⟩
theorem cS_readItems : Cond.code yS_readItems prog_4_method_12_code 10 (some .int) ∈ gw_tbl := tb_T2 (i := 109) rfl rfl
def yS_isItem : MethodName := ⟨"FunctionRows$Search", "isItem", "(I)Z"⟩
theorem cS_isItem : Cond.code yS_isItem prog_4_method_13_code 1 (some .boolean) ∈ gw_tbl := tb_T2 (i := 112) rfl rfl
def yS_placesOf : MethodName := ⟨"FunctionRows$Search", "placesOf", "(LFunctionRows$Value;II)I"⟩
theorem cS_placesOf : Cond.code yS_placesOf prog_4_method_14_code 6 (some .int) ∈ gw_tbl := tb_T2 (i := 101) rfl rfl
def yS_newState : MethodName := ⟨"FunctionRows$Search", "newState", "()I"⟩
theorem cS_newState : Cond.code yS_newState prog_4_method_15_code 2 (some .int) ∈ gw_tbl := tb_T2 (i := 63) rfl rfl
def yS_connect : MethodName := ⟨"FunctionRows$Search", "connect", "(IIII)V"⟩
theorem cS_connect : Cond.code yS_connect prog_4_method_16_code 5 none ∈ gw_tbl := tb_T2 (i := 86) rfl rfl
def yS_spread : MethodName := ⟨"FunctionRows$Search", "spread", "(LFunctionRows$Value;)V"⟩
theorem cS_spread : Cond.code yS_spread prog_4_method_17_code 6 none ∈ gw_tbl := tb_T2 (i := 120) rfl rfl
def yT_reckon : MethodName := ⟨"FunctionRows$Texts", "reckon", "(ILFunctionRows$Value;LFunctionRows$Value;LFunctionRows$Value;LFunctionRows$Value;)V"⟩
theorem cT_reckon : Cond.code yT_reckon prog_5_method_2_code 5 none ∈ gw_tbl := tb_T2 (i := 142) rfl rfl
def yT_part : MethodName := ⟨"FunctionRows$Texts", "part", "(LFunctionRows$Value;LFunctionRows$Value;LFunctionRows$Value;LFunctionRows$Value;)V"⟩
theorem cT_part : Cond.code yT_part prog_5_method_3_code 8 none ∈ gw_tbl := tb_T2 (i := 147) rfl rfl
def yT_resize : MethodName := ⟨"FunctionRows$Texts", "resize", "(LFunctionRows$Value;LFunctionRows$Value;CI)V"⟩
theorem cT_resize : Cond.code yT_resize prog_5_method_4_code 6 none ∈ gw_tbl := tb_T2 (i := 165) rfl rfl
def yT_join : MethodName := ⟨"FunctionRows$Texts", "join", "(LFunctionRows$Value;LFunctionRows$Value;LFunctionRows$Value;)V"⟩
theorem cT_join : Cond.code yT_join prog_5_method_5_code 3 none ∈ gw_tbl := tb_T2 (i := 170) rfl rfl
def yT_tagLetter : MethodName := ⟨"FunctionRows$Texts", "tagLetter", "(LFunctionRows$Value;LFunctionRows$Value;)V"⟩
theorem cT_tagLetter : Cond.code yT_tagLetter prog_5_method_6_code 2 none ∈ gw_tbl := tb_T2 (i := 173) rfl rfl
def yT_seek : MethodName := ⟨"FunctionRows$Texts", "seek", "(ILFunctionRows$Value;LFunctionRows$Value;LFunctionRows$Value;)V"⟩
theorem cT_seek : Cond.code yT_seek prog_5_method_7_code 5 none ∈ gw_tbl := tb_T2 (i := 184) rfl rfl
def yT_split : MethodName := ⟨"FunctionRows$Texts", "split", "(ILFunctionRows$Value;LFunctionRows$Value;II)V"⟩
theorem cT_split : Cond.code yT_split prog_5_method_8_code 5 none ∈ gw_tbl := tb_T2 (i := 194) rfl rfl
def yT_turn : MethodName := ⟨"FunctionRows$Texts", "turn", "(LFunctionRows$Value;LFunctionRows$Value;LFunctionRows$Value;LFunctionRows$Value;)V"⟩
theorem cT_turn : Cond.code yT_turn prog_5_method_9_code 6 none ∈ gw_tbl := tb_T2 (i := 176) rfl rfl
def yT_isPlain : MethodName := ⟨"FunctionRows$Texts", "isPlain", "(LFunctionRows$Value;)Z"⟩
theorem cT_isPlain : Cond.code yT_isPlain prog_5_method_10_code 1 (some .boolean) ∈ gw_tbl := tb_T2 (i := 55) rfl rfl
def yU_reckon : MethodName := ⟨"FunctionRows$Truths", "reckon", "(ILFunctionRows$Value;LFunctionRows$Value;LFunctionRows$Value;)I"⟩
theorem cU_reckon : Cond.code yU_reckon prog_6_method_2_code 4 (some .int) ∈ gw_tbl := tb_T3 (i := 49) rfl rfl
def yU_of : MethodName := ⟨"FunctionRows$Truths", "of", "(LFunctionRows$Value;)I"⟩
theorem cU_of : Cond.code yU_of prog_6_method_3_code 1 (some .int) ∈ gw_tbl := tb_T2 (i := 205) rfl rfl
def yU_truth : MethodName := ⟨"FunctionRows$Truths", "truth", "(Z)I"⟩
theorem cU_truth : Cond.code yU_truth prog_6_method_4_code 1 (some .int) ∈ gw_tbl := tb_T2 (i := 48) rfl rfl
def yU_other : MethodName := ⟨"FunctionRows$Truths", "other", "(I)I"⟩
theorem cU_other : Cond.code yU_other prog_6_method_5_code 1 (some .int) ∈ gw_tbl := tb_T3 (i := 53) rfl rfl
def yU_both : MethodName := ⟨"FunctionRows$Truths", "both", "(II)I"⟩
theorem cU_both : Cond.code yU_both prog_6_method_6_code 2 (some .int) ∈ gw_tbl := tb_T3 (i := 56) rfl rfl
def yU_either : MethodName := ⟨"FunctionRows$Truths", "either", "(II)I"⟩
theorem cU_either : Cond.code yU_either prog_6_method_7_code 2 (some .int) ∈ gw_tbl := tb_T3 (i := 59) rfl rfl
def yU_same : MethodName := ⟨"FunctionRows$Truths", "same", "(LFunctionRows$Value;LFunctionRows$Value;)I"⟩
theorem cU_same : Cond.code yU_same prog_6_method_8_code 2 (some .int) ∈ gw_tbl := tb_T3 (i := 62) rfl rfl
def yU_less : MethodName := ⟨"FunctionRows$Truths", "less", "(LFunctionRows$Value;LFunctionRows$Value;)I"⟩
theorem cU_less : Cond.code yU_less prog_6_method_9_code 2 (some .int) ∈ gw_tbl := tb_T3 (i := 66) rfl rfl
def yU_isBefore : MethodName := ⟨"FunctionRows$Truths", "isBefore", "(LFunctionRows$Value;LFunctionRows$Value;)Z"⟩
theorem cU_isBefore : Cond.code yU_isBefore prog_6_method_10_code 3 (some .boolean) ∈ gw_tbl := tb_T3 (i := 69) rfl rfl
def yV_init : MethodName := ⟨"FunctionRows$Value", "<init>", "()V"⟩
theorem cV_init : Cond.code yV_init prog_7_method_1_code 1 none ∈ gw_tbl := tb_T1 (i := 30) rfl rfl
def yV_setError : MethodName := ⟨"FunctionRows$Value", "setError", "()V"⟩
theorem cV_setError : Cond.code yV_setError prog_7_method_2_code 1 none ∈ gw_tbl := tb_T2 (i := 128) rfl rfl
def yV_setTruth : MethodName := ⟨"FunctionRows$Value", "setTruth", "(I)V"⟩
theorem cV_setTruth : Cond.code yV_setTruth prog_7_method_3_code 2 none ∈ gw_tbl := tb_T1 (i := 238) rfl rfl
def yV_setWhole : MethodName := ⟨"FunctionRows$Value", "setWhole", "(J)V"⟩
theorem cV_setWhole : Cond.code yV_setWhole prog_7_method_4_code 3 none ∈ gw_tbl := tb_T1 (i := 222) rfl rfl
def yV_setNode : MethodName := ⟨"FunctionRows$Value", "setNode", "(I)V"⟩
theorem cV_setNode : Cond.code yV_setNode prog_7_method_5_code 2 none ∈ gw_tbl := tb_T2 (i := 2) rfl rfl
def yV_startText : MethodName := ⟨"FunctionRows$Value", "startText", "(I)V"⟩
theorem cV_startText : Cond.code yV_startText prog_7_method_6_code 2 none ∈ gw_tbl := tb_T1 (i := 205) rfl rfl
def yV_append : MethodName := ⟨"FunctionRows$Value", "append", "(I)V"⟩
theorem cV_append : Cond.code yV_append prog_7_method_7_code 2 none ∈ gw_tbl := tb_T1 (i := 209) rfl rfl
def yV_appendPart : MethodName := ⟨"FunctionRows$Value", "appendPart", "(LFunctionRows$Value;II)V"⟩
theorem cV_appendPart : Cond.code yV_appendPart prog_7_method_8_code 6 none ∈ gw_tbl := tb_T2 (i := 158) rfl rfl
def yV_appendDigits : MethodName := ⟨"FunctionRows$Value", "appendDigits", "(J)V"⟩
theorem cV_appendDigits : Cond.code yV_appendDigits prog_7_method_9_code 6 none ∈ gw_tbl := tb_T3 (i := 45) rfl rfl
def yV_at : MethodName := ⟨"FunctionRows$Value", "at", "(I)I"⟩
theorem cV_at : Cond.code yV_at prog_7_method_10_code 2 (some .int) ∈ gw_tbl := tb_T2 (i := 74) rfl rfl
def yV_copy : MethodName := ⟨"FunctionRows$Value", "copy", "(LFunctionRows$Value;)V"⟩
theorem cV_copy : Cond.code yV_copy prog_7_method_11_code 2 none ∈ gw_tbl := tb_T2 (i := 201) rfl rfl
def yV_hasAt : MethodName := ⟨"FunctionRows$Value", "hasAt", "(ILFunctionRows$Value;)Z"⟩
theorem cV_hasAt : Cond.code yV_hasAt prog_7_method_12_code 4 (some .boolean) ∈ gw_tbl := tb_T2 (i := 181) rfl rfl
def yV_find : MethodName := ⟨"FunctionRows$Value", "find", "(LFunctionRows$Value;)I"⟩
theorem cV_find : Cond.code yV_find prog_7_method_13_code 3 (some .int) ∈ gw_tbl := tb_T2 (i := 188) rfl rfl
def yH_reckon : MethodName := ⟨"FunctionRows$Wholes", "reckon", "(ILFunctionRows$Value;LFunctionRows$Value;LFunctionRows$Value;)V"⟩
theorem cH_reckon : Cond.code yH_reckon prog_8_method_2_code 4 none ∈ gw_tbl := tb_T2 (i := 124) rfl rfl
def yH_multiply : MethodName := ⟨"FunctionRows$Wholes", "multiply", "(LFunctionRows$Value;JJ)V"⟩
theorem cH_multiply : Cond.code yH_multiply prog_8_method_3_code 7 none ∈ gw_tbl := tb_T2 (i := 132) rfl rfl
def yH_divide : MethodName := ⟨"FunctionRows$Wholes", "divide", "(ILFunctionRows$Value;JJ)V"⟩
theorem cH_divide : Cond.code yH_divide prog_8_method_4_code 6 none ∈ gw_tbl := tb_T2 (i := 139) rfl rfl
end
section
/-! fields, in the order of their numbers -/
def FV : u_T := fun k => match k with
  | 0 => ("FunctionRows$Value", "kind", "I", false)
  | 1 => ("FunctionRows$Value", "amount", "J", false)
  | 2 => ("FunctionRows$Value", "mark", "I", false)
  | 3 => ("FunctionRows$Value", "length", "I", false)
  | _ => ("FunctionRows$Value", "bytes", "[B", true)
def ftV : Nat → FieldType := fun k => match k with
  | 0 => .int
  | 1 => .long
  | 2 => .int
  | 3 => .int
  | _ => .array .byte
theorem fnV : ∀ a, a < 5 → ∀ b, b < 5 → a ≠ b → (FV a).2.1 ≠ (FV b).2.1 := by decide +kernel
theorem ftV_ok : ∀ k, k < 5 → parseFieldDescriptor (FV k).2.2.1 = some (ftV k) := by decide +kernel
theorem fiV : ∀ w ∈ u_ws "FunctionRows$Value" FV 5, w ∈ gw_tbl := by decide +kernel
def FE : u_T := fun k => match k with
  | 0 => ("FunctionRows$Expression", "own", "LFunctionRows$Value;", true)
  | 1 => ("FunctionRows$Expression", "form", "I", false)
  | 2 => ("FunctionRows$Expression", "value", "LFunctionRows$Value;", false)
  | 3 => ("FunctionRows$Expression", "operation", "I", false)
  | 4 => ("FunctionRows$Expression", "a", "LFunctionRows$Expression;", false)
  | 5 => ("FunctionRows$Expression", "b", "LFunctionRows$Expression;", false)
  | 6 => ("FunctionRows$Expression", "c", "LFunctionRows$Expression;", false)
  | 7 => ("FunctionRows$Expression", "variables", "I", false)
  | 8 => ("FunctionRows$Expression", "levels", "I", false)
  | _ => ("FunctionRows$Expression", "wanted", "Z", false)
def ftE : Nat → FieldType := fun k => match k with
  | 0 => .object "FunctionRows$Value"
  | 1 => .int
  | 2 => .object "FunctionRows$Value"
  | 3 => .int
  | 4 => .object "FunctionRows$Expression"
  | 5 => .object "FunctionRows$Expression"
  | 6 => .object "FunctionRows$Expression"
  | 7 => .int
  | 8 => .int
  | _ => .boolean
theorem fnE : ∀ a, a < 10 → ∀ b, b < 10 → a ≠ b → (FE a).2.1 ≠ (FE b).2.1 := by decide +kernel
theorem ftE_ok : ∀ k, k < 10 → parseFieldDescriptor (FE k).2.2.1 = some (ftE k) := by decide +kernel
theorem fiE : ∀ w ∈ u_ws "FunctionRows$Expression" FE 10, w ∈ gw_tbl := by decide +kernel
def FS : u_T := fun k => match k with
  | 0 => ("FunctionRows$Search", "reached", "[I", true)
  | 1 => ("FunctionRows$Search", "states", "I", false)
  | 2 => ("FunctionRows$Search", "from", "[I", true)
  | 3 => ("FunctionRows$Search", "to", "[I", true)
  | 4 => ("FunctionRows$Search", "mask", "[I", true)
  | 5 => ("FunctionRows$Search", "moving", "[I", true)
  | 6 => ("FunctionRows$Search", "ways", "I", false)
  | 7 => ("FunctionRows$Search", "outerFirst", "[I", true)
  | 8 => ("FunctionRows$Search", "outerLast", "[I", true)
  | 9 => ("FunctionRows$Search", "open", "I", false)
  | 10 => ("FunctionRows$Search", "first", "I", false)
  | 11 => ("FunctionRows$Search", "last", "I", false)
  | 12 => ("FunctionRows$Search", "current", "I", false)
  | _ => ("FunctionRows$Search", "place", "I", false)
def ftS : Nat → FieldType := fun k => match k with
  | 0 => .array .int
  | 1 => .int
  | 2 => .array .int
  | 3 => .array .int
  | 4 => .array .int
  | 5 => .array .int
  | 6 => .int
  | 7 => .array .int
  | 8 => .array .int
  | 9 => .int
  | 10 => .int
  | 11 => .int
  | 12 => .int
  | _ => .int
theorem fnS : ∀ a, a < 14 → ∀ b, b < 14 → a ≠ b → (FS a).2.1 ≠ (FS b).2.1 := by decide +kernel
theorem ftS_ok : ∀ k, k < 14 → parseFieldDescriptor (FS k).2.2.1 = some (ftS k) := by decide +kernel
theorem fiS : ∀ w ∈ u_ws "FunctionRows$Search" FS 14, w ∈ gw_tbl := by decide +kernel
def FR : u_T := fun k => match k with
  | 0 => ("FunctionRows", "expressions", "[LFunctionRows$Expression;", true)
  | 1 => ("FunctionRows", "count", "I", false)
  | 2 => ("FunctionRows", "row", "[LFunctionRows$Value;", true)
  | 3 => ("FunctionRows", "latest", "LFunctionRows$Value;", true)
  | 4 => ("FunctionRows", "tape", "[B", true)
  | 5 => ("FunctionRows", "taped", "I", false)
  | _ => ("FunctionRows", "search", "LFunctionRows$Search;", true)
def ftR : Nat → FieldType := fun k => match k with
  | 0 => .array (.object "FunctionRows$Expression")
  | 1 => .int
  | 2 => .array (.object "FunctionRows$Value")
  | 3 => .object "FunctionRows$Value"
  | 4 => .array .byte
  | 5 => .int
  | _ => .object "FunctionRows$Search"
theorem fnR : ∀ a, a < 7 → ∀ b, b < 7 → a ≠ b → (FR a).2.1 ≠ (FR b).2.1 := by decide +kernel
theorem ftR_ok : ∀ k, k < 7 → parseFieldDescriptor (FR k).2.2.1 = some (ftR k) := by decide +kernel
theorem fiR : ∀ w ∈ u_ws "FunctionRows" FR 7, w ∈ gw_tbl := by decide +kernel
def FM : u_T := fun k => match k with
  | 0 => ("FunctionRowsModel", "tapeSize", "I", false)
  | 1 => ("FunctionRowsModel", "tape", "[I", true)
  | 2 => ("FunctionRowsModel", "many", "I", false)
  | 3 => ("FunctionRowsModel", "what", "[I", true)
  | 4 => ("FunctionRowsModel", "said", "[J", true)
  | 5 => ("FunctionRowsModel", "operands", "[I", true)
  | 6 => ("FunctionRowsModel", "saidTags", "[I", true)
  | 7 => ("FunctionRowsModel", "saidBytes", "[B", true)
  | 8 => ("FunctionRowsModel", "kinds", "[I", true)
  | 9 => ("FunctionRowsModel", "numbers", "[J", true)
  | 10 => ("FunctionRowsModel", "tags", "[I", true)
  | 11 => ("FunctionRowsModel", "bytes", "[B", true)
  | 12 => ("FunctionRowsModel", "pattern", "I", false)
  | 13 => ("FunctionRowsModel", "at", "I", false)
  | 14 => ("FunctionRowsModel", "bad", "Z", false)
  | 15 => ("FunctionRowsModel", "over", "I", false)
  | _ => ("FunctionRowsModel", "used", "[I", true)
def ftM : Nat → FieldType := fun k => match k with
  | 0 => .int
  | 1 => .array .int
  | 2 => .int
  | 3 => .array .int
  | 4 => .array .long
  | 5 => .array .int
  | 6 => .array .int
  | 7 => .array .byte
  | 8 => .array .int
  | 9 => .array .long
  | 10 => .array .int
  | 11 => .array .byte
  | 12 => .int
  | 13 => .int
  | 14 => .boolean
  | 15 => .int
  | _ => .array .int
theorem fnM : ∀ a, a < 17 → ∀ b, b < 17 → a ≠ b → (FM a).2.1 ≠ (FM b).2.1 := by decide +kernel
theorem ftM_ok : ∀ k, k < 17 → parseFieldDescriptor (FM k).2.2.1 = some (ftM k) := by decide +kernel
theorem fiM : ∀ w ∈ u_ws "FunctionRowsModel" FM 17, w ∈ gw_tbl := by decide +kernel
abbrev tcl : List vw_C := [("FunctionRows$Value", FV, 5), ("FunctionRows$Expression", FE, 10), ("FunctionRows$Search", FS, 14), ("FunctionRows", FR, 7), ("FunctionRowsModel", FM, 17)]
theorem lkR_11 : Cond.fieldLink "FunctionRows" 11 (FR 0).1 (FR 0).2.1 (FR 0).2.2.1 ∈ gw_tbl := tb_T1 (i := 165) (by decide +kernel) (by decide +kernel)
theorem lkR_17 : Cond.fieldLink "FunctionRows" 17 (FR 2).1 (FR 2).2.1 (FR 2).2.2.1 ∈ gw_tbl := tb_T1 (i := 167) (by decide +kernel) (by decide +kernel)
theorem lkR_22 : Cond.fieldLink "FunctionRows" 22 (FR 3).1 (FR 3).2.1 (FR 3).2.2.1 ∈ gw_tbl := tb_T1 (i := 168) (by decide +kernel) (by decide +kernel)
theorem lkR_26 : Cond.fieldLink "FunctionRows" 26 (FR 4).1 (FR 4).2.1 (FR 4).2.2.1 ∈ gw_tbl := tb_T1 (i := 169) (by decide +kernel) (by decide +kernel)
theorem lkR_33 : Cond.fieldLink "FunctionRows" 33 (FR 6).1 (FR 6).2.1 (FR 6).2.2.1 ∈ gw_tbl := tb_T1 (i := 171) (by decide +kernel) (by decide +kernel)
theorem lkR_42 : Cond.fieldLink "FunctionRows" 42 (FR 5).1 (FR 5).2.1 (FR 5).2.2.1 ∈ gw_tbl := tb_T1 (i := 170) (by decide +kernel) (by decide +kernel)
theorem lkR_46 : Cond.fieldLink "FunctionRows" 46 (FR 1).1 (FR 1).2.1 (FR 1).2.2.1 ∈ gw_tbl := tb_T1 (i := 166) (by decide +kernel) (by decide +kernel)
theorem lkR_97 : Cond.fieldLink "FunctionRows" 97 (FE 9).1 (FE 9).2.1 (FE 9).2.2.1 ∈ gw_tbl := tb_T1 (i := 143) (by decide +kernel) (by decide +kernel)
theorem lkR_112 : Cond.fieldLink "FunctionRows" 112 (FE 2).1 (FE 2).2.1 (FE 2).2.2.1 ∈ gw_tbl := tb_T1 (i := 129) (by decide +kernel) (by decide +kernel)
theorem lkR_119 : Cond.fieldLink "FunctionRows" 119 (FV 0).1 (FV 0).2.1 (FV 0).2.2.1 ∈ gw_tbl := tb_T1 (i := 39) (by decide +kernel) (by decide +kernel)
theorem lkR_124 : Cond.fieldLink "FunctionRows" 124 (FV 3).1 (FV 3).2.1 (FV 3).2.2.1 ∈ gw_tbl := tb_T1 (i := 55) (by decide +kernel) (by decide +kernel)
theorem lkR_127 : Cond.fieldLink "FunctionRows" 127 (FV 1).1 (FV 1).2.1 (FV 1).2.2.1 ∈ gw_tbl := tb_T1 (i := 45) (by decide +kernel) (by decide +kernel)
theorem lkR_131 : Cond.fieldLink "FunctionRows" 131 (FV 2).1 (FV 2).2.1 (FV 2).2.2.1 ∈ gw_tbl := tb_T1 (i := 49) (by decide +kernel) (by decide +kernel)
theorem lkR_143 : Cond.fieldLink "FunctionRows" 143 (FE 7).1 (FE 7).2.1 (FE 7).2.2.1 ∈ gw_tbl := tb_T1 (i := 139) (by decide +kernel) (by decide +kernel)
theorem lkR_146 : Cond.fieldLink "FunctionRows" 146 (FE 8).1 (FE 8).2.1 (FE 8).2.2.1 ∈ gw_tbl := tb_T1 (i := 141) (by decide +kernel) (by decide +kernel)
theorem lkR_153 : Cond.fieldLink "FunctionRows" 153 (FE 4).1 (FE 4).2.1 (FE 4).2.2.1 ∈ gw_tbl := tb_T1 (i := 133) (by decide +kernel) (by decide +kernel)
theorem lkR_157 : Cond.fieldLink "FunctionRows" 157 (FE 5).1 (FE 5).2.1 (FE 5).2.2.1 ∈ gw_tbl := tb_T1 (i := 135) (by decide +kernel) (by decide +kernel)
theorem lkR_160 : Cond.fieldLink "FunctionRows" 160 (FE 6).1 (FE 6).2.1 (FE 6).2.2.1 ∈ gw_tbl := tb_T1 (i := 137) (by decide +kernel) (by decide +kernel)
theorem lkR_163 : Cond.fieldLink "FunctionRows" 163 (FE 3).1 (FE 3).2.1 (FE 3).2.2.1 ∈ gw_tbl := tb_T1 (i := 131) (by decide +kernel) (by decide +kernel)
theorem lkM_7 : Cond.fieldLink "FunctionRowsModel" 7 (FM 1).1 (FM 1).2.1 (FM 1).2.2.1 ∈ gw_tbl := tb_T3 (i := 121) (by decide +kernel) (by decide +kernel)
theorem lkM_13 : Cond.fieldLink "FunctionRowsModel" 13 (FM 3).1 (FM 3).2.1 (FM 3).2.2.1 ∈ gw_tbl := tb_T3 (i := 123) (by decide +kernel) (by decide +kernel)
theorem lkM_16 : Cond.fieldLink "FunctionRowsModel" 16 (FM 4).1 (FM 4).2.1 (FM 4).2.2.1 ∈ gw_tbl := tb_T3 (i := 124) (by decide +kernel) (by decide +kernel)
theorem lkM_20 : Cond.fieldLink "FunctionRowsModel" 20 (FM 5).1 (FM 5).2.1 (FM 5).2.2.1 ∈ gw_tbl := tb_T3 (i := 125) (by decide +kernel) (by decide +kernel)
theorem lkM_23 : Cond.fieldLink "FunctionRowsModel" 23 (FM 6).1 (FM 6).2.1 (FM 6).2.2.1 ∈ gw_tbl := tb_T3 (i := 126) (by decide +kernel) (by decide +kernel)
theorem lkM_26 : Cond.fieldLink "FunctionRowsModel" 26 (FM 7).1 (FM 7).2.1 (FM 7).2.2.1 ∈ gw_tbl := tb_T3 (i := 127) (by decide +kernel) (by decide +kernel)
theorem lkM_30 : Cond.fieldLink "FunctionRowsModel" 30 (FM 8).1 (FM 8).2.1 (FM 8).2.2.1 ∈ gw_tbl := tb_T3 (i := 128) (by decide +kernel) (by decide +kernel)
theorem lkM_33 : Cond.fieldLink "FunctionRowsModel" 33 (FM 9).1 (FM 9).2.1 (FM 9).2.2.1 ∈ gw_tbl := tb_T3 (i := 129) (by decide +kernel) (by decide +kernel)
theorem lkM_36 : Cond.fieldLink "FunctionRowsModel" 36 (FM 10).1 (FM 10).2.1 (FM 10).2.2.1 ∈ gw_tbl := tb_T3 (i := 130) (by decide +kernel) (by decide +kernel)
theorem lkM_39 : Cond.fieldLink "FunctionRowsModel" 39 (FM 11).1 (FM 11).2.1 (FM 11).2.2.1 ∈ gw_tbl := tb_T3 (i := 131) (by decide +kernel) (by decide +kernel)
theorem lkM_42 : Cond.fieldLink "FunctionRowsModel" 42 (FM 16).1 (FM 16).2.1 (FM 16).2.2.1 ∈ gw_tbl := tb_T3 (i := 136) (by decide +kernel) (by decide +kernel)
theorem lkM_57 : Cond.fieldLink "FunctionRowsModel" 57 (FM 0).1 (FM 0).2.1 (FM 0).2.2.1 ∈ gw_tbl := tb_T3 (i := 120) (by decide +kernel) (by decide +kernel)
theorem lkM_61 : Cond.fieldLink "FunctionRowsModel" 61 (FM 2).1 (FM 2).2.1 (FM 2).2.2.1 ∈ gw_tbl := tb_T3 (i := 122) (by decide +kernel) (by decide +kernel)
theorem lkM_197 : Cond.fieldLink "FunctionRowsModel" 197 (FM 12).1 (FM 12).2.1 (FM 12).2.2.1 ∈ gw_tbl := tb_T3 (i := 132) (by decide +kernel) (by decide +kernel)
theorem lkM_200 : Cond.fieldLink "FunctionRowsModel" 200 (FM 15).1 (FM 15).2.1 (FM 15).2.2.1 ∈ gw_tbl := tb_T3 (i := 135) (by decide +kernel) (by decide +kernel)
theorem lkM_203 : Cond.fieldLink "FunctionRowsModel" 203 (FM 13).1 (FM 13).2.1 (FM 13).2.2.1 ∈ gw_tbl := tb_T3 (i := 133) (by decide +kernel) (by decide +kernel)
theorem lkM_206 : Cond.fieldLink "FunctionRowsModel" 206 (FM 14).1 (FM 14).2.1 (FM 14).2.2.1 ∈ gw_tbl := tb_T3 (i := 134) (by decide +kernel) (by decide +kernel)
theorem lkC_9 : Cond.fieldLink "FunctionRows$Casts" 9 (FV 0).1 (FV 0).2.1 (FV 0).2.2.1 ∈ gw_tbl := tb_T1 (i := 36) (by decide +kernel) (by decide +kernel)
theorem lkC_45 : Cond.fieldLink "FunctionRows$Casts" 45 (FV 1).1 (FV 1).2.1 (FV 1).2.2.1 ∈ gw_tbl := tb_T1 (i := 44) (by decide +kernel) (by decide +kernel)
theorem lkC_62 : Cond.fieldLink "FunctionRows$Casts" 62 (FV 3).1 (FV 3).2.1 (FV 3).2.2.1 ∈ gw_tbl := tb_T1 (i := 53) (by decide +kernel) (by decide +kernel)
theorem lkE_12 : Cond.fieldLink "FunctionRows$Expression" 12 (FE 0).1 (FE 0).2.1 (FE 0).2.2.1 ∈ gw_tbl := tb_T1 (i := 126) (by decide +kernel) (by decide +kernel)
theorem lkE_18 : Cond.fieldLink "FunctionRows$Expression" 18 (FE 2).1 (FE 2).2.1 (FE 2).2.2.1 ∈ gw_tbl := tb_T1 (i := 128) (by decide +kernel) (by decide +kernel)
theorem lkE_21 : Cond.fieldLink "FunctionRows$Expression" 21 (FE 1).1 (FE 1).2.1 (FE 1).2.2.1 ∈ gw_tbl := tb_T1 (i := 127) (by decide +kernel) (by decide +kernel)
theorem lkE_25 : Cond.fieldLink "FunctionRows$Expression" 25 (FE 7).1 (FE 7).2.1 (FE 7).2.2.1 ∈ gw_tbl := tb_T1 (i := 138) (by decide +kernel) (by decide +kernel)
theorem lkE_28 : Cond.fieldLink "FunctionRows$Expression" 28 (FE 8).1 (FE 8).2.1 (FE 8).2.2.1 ∈ gw_tbl := tb_T1 (i := 140) (by decide +kernel) (by decide +kernel)
theorem lkE_31 : Cond.fieldLink "FunctionRows$Expression" 31 (FE 3).1 (FE 3).2.1 (FE 3).2.2.1 ∈ gw_tbl := tb_T1 (i := 130) (by decide +kernel) (by decide +kernel)
theorem lkE_34 : Cond.fieldLink "FunctionRows$Expression" 34 (FE 4).1 (FE 4).2.1 (FE 4).2.2.1 ∈ gw_tbl := tb_T1 (i := 132) (by decide +kernel) (by decide +kernel)
theorem lkE_38 : Cond.fieldLink "FunctionRows$Expression" 38 (FE 5).1 (FE 5).2.1 (FE 5).2.2.1 ∈ gw_tbl := tb_T1 (i := 134) (by decide +kernel) (by decide +kernel)
theorem lkE_41 : Cond.fieldLink "FunctionRows$Expression" 41 (FE 6).1 (FE 6).2.1 (FE 6).2.2.1 ∈ gw_tbl := tb_T1 (i := 136) (by decide +kernel) (by decide +kernel)
theorem lkE_54 : Cond.fieldLink "FunctionRows$Expression" 54 (FE 9).1 (FE 9).2.1 (FE 9).2.2.1 ∈ gw_tbl := tb_T1 (i := 142) (by decide +kernel) (by decide +kernel)
theorem lkE_58 : Cond.fieldLink "FunctionRows$Expression" 58 (FV 0).1 (FV 0).2.1 (FV 0).2.2.1 ∈ gw_tbl := tb_T1 (i := 38) (by decide +kernel) (by decide +kernel)
theorem lkS_11 : Cond.fieldLink "FunctionRows$Search" 11 (FS 0).1 (FS 0).2.1 (FS 0).2.2.1 ∈ gw_tbl := tb_T1 (i := 75) (by decide +kernel) (by decide +kernel)
theorem lkS_15 : Cond.fieldLink "FunctionRows$Search" 15 (FS 2).1 (FS 2).2.1 (FS 2).2.2.1 ∈ gw_tbl := tb_T1 (i := 77) (by decide +kernel) (by decide +kernel)
theorem lkS_18 : Cond.fieldLink "FunctionRows$Search" 18 (FS 3).1 (FS 3).2.1 (FS 3).2.2.1 ∈ gw_tbl := tb_T1 (i := 78) (by decide +kernel) (by decide +kernel)
theorem lkS_21 : Cond.fieldLink "FunctionRows$Search" 21 (FS 4).1 (FS 4).2.1 (FS 4).2.2.1 ∈ gw_tbl := tb_T1 (i := 79) (by decide +kernel) (by decide +kernel)
theorem lkS_24 : Cond.fieldLink "FunctionRows$Search" 24 (FS 5).1 (FS 5).2.1 (FS 5).2.2.1 ∈ gw_tbl := tb_T1 (i := 80) (by decide +kernel) (by decide +kernel)
theorem lkS_27 : Cond.fieldLink "FunctionRows$Search" 27 (FS 7).1 (FS 7).2.1 (FS 7).2.2.1 ∈ gw_tbl := tb_T1 (i := 82) (by decide +kernel) (by decide +kernel)
theorem lkS_30 : Cond.fieldLink "FunctionRows$Search" 30 (FS 8).1 (FS 8).2.1 (FS 8).2.2.1 ∈ gw_tbl := tb_T1 (i := 83) (by decide +kernel) (by decide +kernel)
theorem lkS_33 : Cond.fieldLink "FunctionRows$Search" 33 (FV 0).1 (FV 0).2.1 (FV 0).2.2.1 ∈ gw_tbl := tb_T1 (i := 32) (by decide +kernel) (by decide +kernel)
theorem lkS_48 : Cond.fieldLink "FunctionRows$Search" 48 (FV 3).1 (FV 3).2.1 (FV 3).2.2.1 ∈ gw_tbl := tb_T1 (i := 50) (by decide +kernel) (by decide +kernel)
theorem lkS_51 : Cond.fieldLink "FunctionRows$Search" 51 (FS 13).1 (FS 13).2.1 (FS 13).2.2.1 ∈ gw_tbl := tb_T1 (i := 88) (by decide +kernel) (by decide +kernel)
theorem lkS_58 : Cond.fieldLink "FunctionRows$Search" 58 (FS 9).1 (FS 9).2.1 (FS 9).2.2.1 ∈ gw_tbl := tb_T1 (i := 84) (by decide +kernel) (by decide +kernel)
theorem lkS_61 : Cond.fieldLink "FunctionRows$Search" 61 (FS 12).1 (FS 12).2.1 (FS 12).2.2.1 ∈ gw_tbl := tb_T1 (i := 87) (by decide +kernel) (by decide +kernel)
theorem lkS_64 : Cond.fieldLink "FunctionRows$Search" 64 (FS 11).1 (FS 11).2.1 (FS 11).2.2.1 ∈ gw_tbl := tb_T1 (i := 86) (by decide +kernel) (by decide +kernel)
theorem lkS_81 : Cond.fieldLink "FunctionRows$Search" 81 (FS 1).1 (FS 1).2.1 (FS 1).2.2.1 ∈ gw_tbl := tb_T1 (i := 76) (by decide +kernel) (by decide +kernel)
theorem lkS_84 : Cond.fieldLink "FunctionRows$Search" 84 (FS 6).1 (FS 6).2.1 (FS 6).2.2.1 ∈ gw_tbl := tb_T1 (i := 81) (by decide +kernel) (by decide +kernel)
theorem lkS_91 : Cond.fieldLink "FunctionRows$Search" 91 (FS 10).1 (FS 10).2.1 (FS 10).2.2.1 ∈ gw_tbl := tb_T1 (i := 85) (by decide +kernel) (by decide +kernel)
theorem lkT_9 : Cond.fieldLink "FunctionRows$Texts" 9 (FV 0).1 (FV 0).2.1 (FV 0).2.2.1 ∈ gw_tbl := tb_T1 (i := 34) (by decide +kernel) (by decide +kernel)
theorem lkT_18 : Cond.fieldLink "FunctionRows$Texts" 18 (FV 3).1 (FV 3).2.1 (FV 3).2.2.1 ∈ gw_tbl := tb_T1 (i := 51) (by decide +kernel) (by decide +kernel)
theorem lkT_50 : Cond.fieldLink "FunctionRows$Texts" 50 (FV 1).1 (FV 1).2.1 (FV 1).2.2.1 ∈ gw_tbl := tb_T1 (i := 42) (by decide +kernel) (by decide +kernel)
theorem lkT_63 : Cond.fieldLink "FunctionRows$Texts" 63 (FV 2).1 (FV 2).2.1 (FV 2).2.2.1 ∈ gw_tbl := tb_T1 (i := 46) (by decide +kernel) (by decide +kernel)
theorem lkU_33 : Cond.fieldLink "FunctionRows$Truths" 33 (FV 0).1 (FV 0).2.1 (FV 0).2.2.1 ∈ gw_tbl := tb_T1 (i := 37) (by decide +kernel) (by decide +kernel)
theorem lkU_39 : Cond.fieldLink "FunctionRows$Truths" 39 (FV 1).1 (FV 1).2.1 (FV 1).2.2.1 ∈ gw_tbl := tb_T1 (i := 43) (by decide +kernel) (by decide +kernel)
theorem lkU_47 : Cond.fieldLink "FunctionRows$Truths" 47 (FV 3).1 (FV 3).2.1 (FV 3).2.2.1 ∈ gw_tbl := tb_T1 (i := 52) (by decide +kernel) (by decide +kernel)
theorem lkU_50 : Cond.fieldLink "FunctionRows$Truths" 50 (FV 2).1 (FV 2).2.1 (FV 2).2.2.1 ∈ gw_tbl := tb_T1 (i := 48) (by decide +kernel) (by decide +kernel)
theorem lkV_9 : Cond.fieldLink "FunctionRows$Value" 9 (FV 4).1 (FV 4).2.1 (FV 4).2.2.1 ∈ gw_tbl := tb_T1 (i := 56) (by decide +kernel) (by decide +kernel)
theorem lkV_15 : Cond.fieldLink "FunctionRows$Value" 15 (FV 0).1 (FV 0).2.1 (FV 0).2.2.1 ∈ gw_tbl := tb_T1 (i := 35) (by decide +kernel) (by decide +kernel)
theorem lkV_19 : Cond.fieldLink "FunctionRows$Value" 19 (FV 1).1 (FV 1).2.1 (FV 1).2.2.1 ∈ gw_tbl := tb_T1 (i := 41) (by decide +kernel) (by decide +kernel)
theorem lkV_27 : Cond.fieldLink "FunctionRows$Value" 27 (FV 2).1 (FV 2).2.1 (FV 2).2.2.1 ∈ gw_tbl := tb_T1 (i := 47) (by decide +kernel) (by decide +kernel)
theorem lkV_30 : Cond.fieldLink "FunctionRows$Value" 30 (FV 3).1 (FV 3).2.1 (FV 3).2.2.1 ∈ gw_tbl := tb_T1 (i := 54) (by decide +kernel) (by decide +kernel)
theorem lkH_9 : Cond.fieldLink "FunctionRows$Wholes" 9 (FV 0).1 (FV 0).2.1 (FV 0).2.2.1 ∈ gw_tbl := tb_T1 (i := 33) (by decide +kernel) (by decide +kernel)
theorem lkH_18 : Cond.fieldLink "FunctionRows$Wholes" 18 (FV 1).1 (FV 1).2.1 (FV 1).2.2.1 ∈ gw_tbl := tb_T1 (i := 40) (by decide +kernel) (by decide +kernel)
end
section
/-! THE CLASS'S STATE: values (0 .. 79 of the expressions, 80 .. 87 of the row, 88 the latest), their bytes, expressions, count and taped, the tape, the search's numbers and arrays. -/
abbrev cVR : Type := Int32 × Int64 × Int32 × Int32
abbrev cER : Type := Int32 × Nat × Int32 × Option Nat × Option Nat × Option Nat × Int32 × Int32 × Int32
abbrev cG : Type := (Nat → cVR) × (Nat → Nat → Int32) × (Nat → cER) × (Int32 × Int32) × (Nat → Int32) × (Nat → Int32) × (Nat → Nat → Int32)
def cV : Nat → Nat → Prop
  | 0, i => i = 0
  | 1, i => i < 89
  | 2, i => i < 89
  | 3, i => i < 80
  | 4, i => i = 0
  | 5, i => i = 0
  | 6, i => i = 0
  | 7, i => i = 0
  | 8, i => i < 7
  | _, _ => False
/-- where each cell lies, by the order in which the constructor makes them -/
def cLa (a : Nat) : Nat → Nat → Nat
  | 0, _ => a
  | 1, i => if i < 80 then a + 15 + 3 * i else if i < 88 then a + 94 + 2 * i else a + 3
  | 2, i => if i < 80 then a + 16 + 3 * i else if i < 88 then a + 95 + 2 * i else a + 4
  | 3, i => a + 14 + 3 * i
  | 4, _ => a + 1
  | 5, _ => a + 2
  | 6, _ => a + 5
  | 7, _ => a + 6
  | 8, i => a + 7 + i
  | _, _ => a
def cA (a : Nat) : Nat → Prop := fun q => a ≤ q ∧ q < a + 270
def cSl (j : Nat) : Nat := if j < 5 then 64 else 24
theorem cLa_1 (a i : Nat) : cLa a 1 i = if i < 80 then a + 15 + 3 * i else if i < 88 then a + 94 + 2 * i else a + 3 := rfl
theorem cLa_2 (a i : Nat) : cLa a 2 i = if i < 80 then a + 16 + 3 * i else if i < 88 then a + 95 + 2 * i else a + 4 := rfl
theorem cLa_in (a : Nat) : ∀ k i, cV k i → cA a (cLa a k i)
  | 0, i, h => ⟨Nat.le_refl _, by show a < a + 270; omega⟩
  | 1, i, h => by
    have h : i < 89 := h
    rw [cLa_1]
    unfold cA
    by_cases h1 : i < 80
    · simp only [if_pos h1]; omega
    · by_cases h2 : i < 88
      · simp only [if_neg h1, if_pos h2]; omega
      · simp only [if_neg h1, if_neg h2]; omega
  | 2, i, h => by
    have h : i < 89 := h
    rw [cLa_2]
    unfold cA
    by_cases h1 : i < 80
    · simp only [if_pos h1]; omega
    · by_cases h2 : i < 88
      · simp only [if_neg h1, if_pos h2]; omega
      · simp only [if_neg h1, if_neg h2]; omega
  | 3, i, h => by have h : i < 80 := h; show a ≤ a + 14 + 3 * i ∧ a + 14 + 3 * i < a + 270; omega
  | 4, i, h => by show a ≤ a + 1 ∧ a + 1 < a + 270; omega
  | 5, i, h => by show a ≤ a + 2 ∧ a + 2 < a + 270; omega
  | 6, i, h => by show a ≤ a + 5 ∧ a + 5 < a + 270; omega
  | 7, i, h => by show a ≤ a + 6 ∧ a + 6 < a + 270; omega
  | 8, i, h => by have h : i < 7 := h; show a ≤ a + 7 + i ∧ a + 7 + i < a + 270; omega
  | n + 9, i, h => h.elim
/-- a place's number, and back: what lies at a cell -/
def cWh (n : Nat) : Nat × Nat :=
  if n = 0 then (0, 0) else if n = 1 then (4, 0) else if n = 2 then (5, 0) else if n = 3 then (1, 88) else if n = 4 then (2, 88) else if n = 5 then (6, 0) else if n = 6 then (7, 0) else if n < 14 then (8, n - 7)
  else if n < 254 then (if n % 3 = 2 then (3, (n - 14) / 3) else if n % 3 = 0 then (1, (n - 15) / 3) else (2, (n - 16) / 3))
  else (if n % 2 = 0 then (1, (n - 94) / 2) else (2, (n - 95) / 2))
theorem cWh_of (a : Nat) : ∀ k i, cV k i → cWh (cLa a k i - a) = (k, i)
  | 0, i, h => by have h : i = 0 := h; subst h; simp [cLa, cWh]
  | 1, i, h => by
    have h : i < 89 := h
    rw [cLa_1]
    by_cases h1 : i < 80
    · rw [if_pos h1]
      unfold cWh
      rw [show a + 15 + 3 * i - a = 15 + 3 * i by omega]
      simp only [show ¬ 15 + 3 * i = 0 by omega, show ¬ 15 + 3 * i = 1 by omega, show ¬ 15 + 3 * i = 2 by omega, show ¬ 15 + 3 * i = 3 by omega, show ¬ 15 + 3 * i = 4 by omega, show ¬ 15 + 3 * i = 5 by omega, show ¬ 15 + 3 * i = 6 by omega, show ¬ 15 + 3 * i < 14 by omega, show 15 + 3 * i < 254 by omega, show ¬ (15 + 3 * i) % 3 = 2 by omega, show (15 + 3 * i) % 3 = 0 by omega, if_true, if_false]
      exact Prod.ext rfl (by show (_ - _) / 3 = i; omega)
    · rw [if_neg h1]
      by_cases h2 : i < 88
      · rw [if_pos h2]
        unfold cWh
        rw [show a + 94 + 2 * i - a = 94 + 2 * i by omega]
        simp only [show ¬ 94 + 2 * i = 0 by omega, show ¬ 94 + 2 * i = 1 by omega, show ¬ 94 + 2 * i = 2 by omega, show ¬ 94 + 2 * i = 3 by omega, show ¬ 94 + 2 * i = 4 by omega, show ¬ 94 + 2 * i = 5 by omega, show ¬ 94 + 2 * i = 6 by omega, show ¬ 94 + 2 * i < 14 by omega, show ¬ 94 + 2 * i < 254 by omega, show (94 + 2 * i) % 2 = 0 by omega, if_true, if_false]
        exact Prod.ext rfl (by show (_ - _) / 2 = i; omega)
      · rw [if_neg h2]
        have : i = 88 := by omega
        subst this
        simp [cWh, show a + 3 - a = 3 by omega]
  | 2, i, h => by
    have h : i < 89 := h
    rw [cLa_2]
    by_cases h1 : i < 80
    · rw [if_pos h1]
      unfold cWh
      rw [show a + 16 + 3 * i - a = 16 + 3 * i by omega]
      simp only [show ¬ 16 + 3 * i = 0 by omega, show ¬ 16 + 3 * i = 1 by omega, show ¬ 16 + 3 * i = 2 by omega, show ¬ 16 + 3 * i = 3 by omega, show ¬ 16 + 3 * i = 4 by omega, show ¬ 16 + 3 * i = 5 by omega, show ¬ 16 + 3 * i = 6 by omega, show ¬ 16 + 3 * i < 14 by omega, show 16 + 3 * i < 254 by omega, show ¬ (16 + 3 * i) % 3 = 2 by omega, show ¬ (16 + 3 * i) % 3 = 0 by omega, if_true, if_false]
      exact Prod.ext rfl (by show (_ - _) / 3 = i; omega)
    · rw [if_neg h1]
      by_cases h2 : i < 88
      · rw [if_pos h2]
        unfold cWh
        rw [show a + 95 + 2 * i - a = 95 + 2 * i by omega]
        simp only [show ¬ 95 + 2 * i = 0 by omega, show ¬ 95 + 2 * i = 1 by omega, show ¬ 95 + 2 * i = 2 by omega, show ¬ 95 + 2 * i = 3 by omega, show ¬ 95 + 2 * i = 4 by omega, show ¬ 95 + 2 * i = 5 by omega, show ¬ 95 + 2 * i = 6 by omega, show ¬ 95 + 2 * i < 14 by omega, show ¬ 95 + 2 * i < 254 by omega, show ¬ (95 + 2 * i) % 2 = 0 by omega, if_false]
        exact Prod.ext rfl (by show (_ - _) / 2 = i; omega)
      · rw [if_neg h2]
        have : i = 88 := by omega
        subst this
        simp [cWh, show a + 4 - a = 4 by omega]
  | 3, i, h => by
    have h : i < 80 := h
    show cWh (a + 14 + 3 * i - a) = _
    unfold cWh
    rw [show a + 14 + 3 * i - a = 14 + 3 * i by omega]
    simp only [show ¬ 14 + 3 * i = 0 by omega, show ¬ 14 + 3 * i = 1 by omega, show ¬ 14 + 3 * i = 2 by omega, show ¬ 14 + 3 * i = 3 by omega, show ¬ 14 + 3 * i = 4 by omega, show ¬ 14 + 3 * i = 5 by omega, show ¬ 14 + 3 * i = 6 by omega, show ¬ 14 + 3 * i < 14 by omega, show 14 + 3 * i < 254 by omega, show (14 + 3 * i) % 3 = 2 by omega, if_true, if_false]
    exact Prod.ext rfl (by show (_ - _) / 3 = i; omega)
  | 4, i, h => by have h : i = 0 := h; subst h; simp [cLa, cWh, show a + 1 - a = 1 by omega]
  | 5, i, h => by have h : i = 0 := h; subst h; simp [cLa, cWh, show a + 2 - a = 2 by omega]
  | 6, i, h => by have h : i = 0 := h; subst h; simp [cLa, cWh, show a + 5 - a = 5 by omega]
  | 7, i, h => by have h : i = 0 := h; subst h; simp [cLa, cWh, show a + 6 - a = 6 by omega]
  | 8, i, h => by
    have h : i < 7 := h
    show cWh (a + 7 + i - a) = _
    unfold cWh
    rw [show a + 7 + i - a = 7 + i by omega]
    simp only [show ¬ 7 + i = 0 by omega, show ¬ 7 + i = 1 by omega, show ¬ 7 + i = 2 by omega, show ¬ 7 + i = 3 by omega, show ¬ 7 + i = 4 by omega, show ¬ 7 + i = 5 by omega, show ¬ 7 + i = 6 by omega, show 7 + i < 14 by omega, if_true, if_false]
    exact Prod.ext rfl (by show _ - _ = i; omega)
  | n + 9, i, h => h.elim
theorem cLa_inj (a : Nat) (k i k' i' : Nat) (h : cV k i) (h' : cV k' i') (e : cLa a k i = cLa a k' i') : k = k' ∧ i = i' := by
  have h1 := cWh_of a k i h
  rw [e, cWh_of a k' i' h'] at h1
  cases h1
  exact ⟨rfl, rfl⟩
def cRf (x : Option Nat) : Option (Nat × Nat) := x.map (fun j => (3, j))
abbrev cQ : Type := ClassId × ClassId × ClassId × ClassId
abbrev cTys (q : cQ) : List (ClassId × FieldType) := [(q.1, .byte), (q.2.1, .int), (q.2.2.1, .object "FunctionRows$Expression"), (q.2.2.2, .object "FunctionRows$Value")]
def c_ce (a : Nat) (q : cQ) (g : cG) : Nat → Nat → va_E
  | 0, _ => .inr (3, [.ref (cLa a 4 0), .int g.2.2.2.1.1, .ref (cLa a 5 0), .ref (cLa a 1 88), .ref (cLa a 6 0), .int g.2.2.2.1.2, .ref (cLa a 7 0)])
  | 1, i => .inr (0, [.int (g.1 i).1, .long (g.1 i).2.1, .int (g.1 i).2.2.1, .int (g.1 i).2.2.2, .ref (cLa a 2 i)])
  | 2, i => .inl (q.1, 24, .inl (g.2.1 i))
  | 3, i => .inr (1, [.ref (cLa a 1 i), .int (g.2.2.1 i).1, .ref (cLa a 1 (g.2.2.1 i).2.1), .int (g.2.2.1 i).2.2.1, qm_cv (cLa a) (.inr (.inr (cRf (g.2.2.1 i).2.2.2.1))), qm_cv (cLa a) (.inr (.inr (cRf (g.2.2.1 i).2.2.2.2.1))), qm_cv (cLa a) (.inr (.inr (cRf (g.2.2.1 i).2.2.2.2.2.1))), .int (g.2.2.1 i).2.2.2.2.2.2.1, .int (g.2.2.1 i).2.2.2.2.2.2.2.1, .int (g.2.2.1 i).2.2.2.2.2.2.2.2])
  | 4, _ => .inl (q.2.2.1, 80, .inr (.inr (.inr (.inr (fun j => some (cLa a 3 j))))))
  | 5, _ => .inl (q.2.2.2, 8, .inr (.inr (.inr (.inr (fun j => some (cLa a 1 (80 + j)))))))
  | 6, _ => .inl (q.1, 48, .inl g.2.2.2.2.1)
  | 7, _ => .inr (2, [.ref (cLa a 8 0), .int (g.2.2.2.2.2.1 0), .ref (cLa a 8 1), .ref (cLa a 8 2), .ref (cLa a 8 3), .ref (cLa a 8 4), .int (g.2.2.2.2.2.1 1), .ref (cLa a 8 5), .ref (cLa a 8 6), .int (g.2.2.2.2.2.1 2), .int (g.2.2.2.2.2.1 3), .int (g.2.2.2.2.2.1 4), .int (g.2.2.2.2.2.1 5), .int (g.2.2.2.2.2.1 6)])
  | 8, j => .inl (q.2.1, cSl j, .inl (g.2.2.2.2.2.2 j))
  | _, _ => .inl (q.1, 0, .inl (fun _ => 0))
def c_ok (g : cG) : Prop := ∀ i, i < 80 → (g.2.2.1 i).2.1 < 89 ∧ (∀ j, (g.2.2.1 i).2.2.2.1 = some j → j < 80) ∧ (∀ j, (g.2.2.1 i).2.2.2.2.1 = some j → j < 80) ∧ (∀ j, (g.2.2.1 i).2.2.2.2.2.1 = some j → j < 80)
abbrev cEnv : Type := Launch × va_G × cQ × Nat × (State → Heap → Prop)
abbrev cHold (E : cEnv) : State → cG → Heap → Prop := qm_hold E.2.1 tcl (cTys E.2.2.1) (cLa E.2.2.2.1) cV (c_ce E.2.2.2.1 E.2.2.1) c_ok E.2.2.2.2
abbrev cK (E : cEnv) (R : Room) (cc : ByteArray) (nL : Nat) (own : String) (Ts : List Cond) (ret : Option FieldType) : Nat → Nat → qm_op cG → Prop := qm_K (cLa E.2.2.2.1) cV (cHold E) (cA E.2.2.2.1) E.1 R cc nL own Ts ret
abbrev cSd (E : cEnv) (mt : MethodName × List Cond × Room) : List qm_v → cG → Option qm_v → cG → Prop := qm_Sd (cLa E.2.2.2.1) cV (cHold E) (cA E.2.2.2.1) E.1 mt
abbrev cOk (E : cEnv) : Prop := qm_sys (cLa E.2.2.2.1) cV E.2.2.2.2 (cA E.2.2.2.1)
theorem ce_uV {a : Nat} {q : cQ} {g : cG} {i : Nat} {x : cVR} (k j : Nat) (h : k ≠ 1 ∨ j ≠ i) : c_ce a q (va_up g.1 i x, g.2) k j = c_ce a q g k j := by
  match k, h with
  | 0, _ => rfl
  | 1, h =>
    have hj : j ≠ i := h.resolve_left (fun z => z rfl)
    simp only [c_ce, va_up_ne _ _ hj]
  | 2, _ => rfl
  | 3, _ => rfl
  | 4, _ => rfl
  | 5, _ => rfl
  | 6, _ => rfl
  | 7, _ => rfl
  | 8, _ => rfl
  | n + 9, _ => rfl
theorem ce_uB {a : Nat} {q : cQ} {g : cG} {i : Nat} {x : Nat → Int32} (k j : Nat) (h : k ≠ 2 ∨ j ≠ i) : c_ce a q (g.1, va_up g.2.1 i x, g.2.2) k j = c_ce a q g k j := by
  match k, h with
  | 0, _ => rfl
  | 1, _ => rfl
  | 2, h =>
    have hj : j ≠ i := h.resolve_left (fun z => z rfl)
    simp only [c_ce, va_up_ne _ _ hj]
  | 3, _ => rfl
  | 4, _ => rfl
  | 5, _ => rfl
  | 6, _ => rfl
  | 7, _ => rfl
  | 8, _ => rfl
  | n + 9, _ => rfl
theorem ce_uE {a : Nat} {q : cQ} {g : cG} {i : Nat} {x : cER} (k j : Nat) (h : k ≠ 3 ∨ j ≠ i) : c_ce a q (g.1, g.2.1, va_up g.2.2.1 i x, g.2.2.2) k j = c_ce a q g k j := by
  match k, h with
  | 0, _ => rfl
  | 1, _ => rfl
  | 2, _ => rfl
  | 3, h =>
    have hj : j ≠ i := h.resolve_left (fun z => z rfl)
    simp only [c_ce, va_up_ne _ _ hj]
  | 4, _ => rfl
  | 5, _ => rfl
  | 6, _ => rfl
  | 7, _ => rfl
  | 8, _ => rfl
  | n + 9, _ => rfl
theorem ce_uC {a : Nat} {q : cQ} {g : cG} {x : Int32 × Int32} (k j : Nat) (hv : cV k j) (h : k ≠ 0 ∨ j ≠ 0) : c_ce a q (g.1, g.2.1, g.2.2.1, x, g.2.2.2.2) k j = c_ce a q g k j := by
  match k, h, hv with
  | 0, h, hv => exact absurd hv (h.resolve_left (fun z => z rfl))
  | 1, _, _ => rfl
  | 2, _, _ => rfl
  | 3, _, _ => rfl
  | 4, _, _ => rfl
  | 5, _, _ => rfl
  | 6, _, _ => rfl
  | 7, _, _ => rfl
  | 8, _, _ => rfl
  | n + 9, _, _ => rfl
theorem ce_uT {a : Nat} {q : cQ} {g : cG} {x : Nat → Int32} (k j : Nat) (hv : cV k j) (h : k ≠ 6 ∨ j ≠ 0) : c_ce a q (g.1, g.2.1, g.2.2.1, g.2.2.2.1, x, g.2.2.2.2.2) k j = c_ce a q g k j := by
  match k, h, hv with
  | 0, _, _ => rfl
  | 1, _, _ => rfl
  | 2, _, _ => rfl
  | 3, _, _ => rfl
  | 4, _, _ => rfl
  | 5, _, _ => rfl
  | 6, h, hv => exact absurd hv (h.resolve_left (fun z => z rfl))
  | 7, _, _ => rfl
  | 8, _, _ => rfl
  | n + 9, _, _ => rfl
theorem ce_uN {a : Nat} {q : cQ} {g : cG} {x : Nat → Int32} (k j : Nat) (hv : cV k j) (h : k ≠ 7 ∨ j ≠ 0) : c_ce a q (g.1, g.2.1, g.2.2.1, g.2.2.2.1, g.2.2.2.2.1, x, g.2.2.2.2.2.2) k j = c_ce a q g k j := by
  match k, h, hv with
  | 0, _, _ => rfl
  | 1, _, _ => rfl
  | 2, _, _ => rfl
  | 3, _, _ => rfl
  | 4, _, _ => rfl
  | 5, _, _ => rfl
  | 6, _, _ => rfl
  | 7, h, hv => exact absurd hv (h.resolve_left (fun z => z rfl))
  | 8, _, _ => rfl
  | n + 9, _, _ => rfl
theorem ce_uA {a : Nat} {q : cQ} {g : cG} {i : Nat} {x : Nat → Int32} (k j : Nat) (h : k ≠ 8 ∨ j ≠ i) : c_ce a q (g.1, g.2.1, g.2.2.1, g.2.2.2.1, g.2.2.2.2.1, g.2.2.2.2.2.1, va_up g.2.2.2.2.2.2 i x) k j = c_ce a q g k j := by
  match k, h with
  | 0, _ => rfl
  | 1, _ => rfl
  | 2, _ => rfl
  | 3, _ => rfl
  | 4, _ => rfl
  | 5, _ => rfl
  | 6, _ => rfl
  | 7, _ => rfl
  | 8, h =>
    have hj : j ≠ i := h.resolve_left (fun z => z rfl)
    simp only [c_ce, va_up_ne _ _ hj]
  | n + 9, _ => rfl
def rdV0 (g : cG) (i : Nat) : qm_v := qI (g.1 i).1
theorem glV0 {a : Nat} {q : cQ} (g : cG) (i : Nat) (hV : cV 1 i) (hk : c_ok g) : ∃ fs, c_ce a q g 1 i = .inr (0, fs) ∧ fs[0]? = some (qm_cv (cLa a) (rdV0 g i)) ∧ qm_ok cV (rdV0 g i) := ⟨_, rfl, rfl, trivial⟩
def rdV1 (g : cG) (i : Nat) : qm_v := qL (g.1 i).2.1
theorem glV1 {a : Nat} {q : cQ} (g : cG) (i : Nat) (hV : cV 1 i) (hk : c_ok g) : ∃ fs, c_ce a q g 1 i = .inr (0, fs) ∧ fs[1]? = some (qm_cv (cLa a) (rdV1 g i)) ∧ qm_ok cV (rdV1 g i) := ⟨_, rfl, rfl, trivial⟩
def rdV2 (g : cG) (i : Nat) : qm_v := qI (g.1 i).2.2.1
theorem glV2 {a : Nat} {q : cQ} (g : cG) (i : Nat) (hV : cV 1 i) (hk : c_ok g) : ∃ fs, c_ce a q g 1 i = .inr (0, fs) ∧ fs[2]? = some (qm_cv (cLa a) (rdV2 g i)) ∧ qm_ok cV (rdV2 g i) := ⟨_, rfl, rfl, trivial⟩
def rdV3 (g : cG) (i : Nat) : qm_v := qI (g.1 i).2.2.2
theorem glV3 {a : Nat} {q : cQ} (g : cG) (i : Nat) (hV : cV 1 i) (hk : c_ok g) : ∃ fs, c_ce a q g 1 i = .inr (0, fs) ∧ fs[3]? = some (qm_cv (cLa a) (rdV3 g i)) ∧ qm_ok cV (rdV3 g i) := ⟨_, rfl, rfl, trivial⟩
def rdV4 (g : cG) (i : Nat) : qm_v := qR 2 i
theorem glV4 {a : Nat} {q : cQ} (g : cG) (i : Nat) (hV : cV 1 i) (hk : c_ok g) : ∃ fs, c_ce a q g 1 i = .inr (0, fs) ∧ fs[4]? = some (qm_cv (cLa a) (rdV4 g i)) ∧ qm_ok cV (rdV4 g i) := ⟨_, rfl, rfl, hV⟩
def rdE0 (g : cG) (i : Nat) : qm_v := qR 1 i
theorem glE0 {a : Nat} {q : cQ} (g : cG) (i : Nat) (hV : cV 3 i) (hk : c_ok g) : ∃ fs, c_ce a q g 3 i = .inr (1, fs) ∧ fs[0]? = some (qm_cv (cLa a) (rdE0 g i)) ∧ qm_ok cV (rdE0 g i) := ⟨_, rfl, rfl, (show i < 89 from Nat.lt_trans hV (by decide))⟩
def rdE1 (g : cG) (i : Nat) : qm_v := qI (g.2.2.1 i).1
theorem glE1 {a : Nat} {q : cQ} (g : cG) (i : Nat) (hV : cV 3 i) (hk : c_ok g) : ∃ fs, c_ce a q g 3 i = .inr (1, fs) ∧ fs[1]? = some (qm_cv (cLa a) (rdE1 g i)) ∧ qm_ok cV (rdE1 g i) := ⟨_, rfl, rfl, trivial⟩
def rdE2 (g : cG) (i : Nat) : qm_v := qR 1 (g.2.2.1 i).2.1
theorem glE2 {a : Nat} {q : cQ} (g : cG) (i : Nat) (hV : cV 3 i) (hk : c_ok g) : ∃ fs, c_ce a q g 3 i = .inr (1, fs) ∧ fs[2]? = some (qm_cv (cLa a) (rdE2 g i)) ∧ qm_ok cV (rdE2 g i) := ⟨_, rfl, rfl, (hk i hV).1⟩
def rdE3 (g : cG) (i : Nat) : qm_v := qI (g.2.2.1 i).2.2.1
theorem glE3 {a : Nat} {q : cQ} (g : cG) (i : Nat) (hV : cV 3 i) (hk : c_ok g) : ∃ fs, c_ce a q g 3 i = .inr (1, fs) ∧ fs[3]? = some (qm_cv (cLa a) (rdE3 g i)) ∧ qm_ok cV (rdE3 g i) := ⟨_, rfl, rfl, trivial⟩
def rdE4 (g : cG) (i : Nat) : Option (Nat × Nat) := cRf (g.2.2.1 i).2.2.2.1
theorem glE4 {a : Nat} {q : cQ} (g : cG) (i : Nat) (hV : cV 3 i) (hk : c_ok g) : ∃ fs, c_ce a q g 3 i = .inr (1, fs) ∧ fs[4]? = some (qm_cv (cLa a) (.inr (.inr (rdE4 g i)))) ∧ qm_ok cV (.inr (.inr (rdE4 g i))) := by
  refine ⟨_, rfl, rfl, ?_⟩
  unfold rdE4
  rcases hx : (g.2.2.1 i).2.2.2.1 with _ | j
  · trivial
  · exact (hk i hV).2.1 j hx
def rdE5 (g : cG) (i : Nat) : Option (Nat × Nat) := cRf (g.2.2.1 i).2.2.2.2.1
theorem glE5 {a : Nat} {q : cQ} (g : cG) (i : Nat) (hV : cV 3 i) (hk : c_ok g) : ∃ fs, c_ce a q g 3 i = .inr (1, fs) ∧ fs[5]? = some (qm_cv (cLa a) (.inr (.inr (rdE5 g i)))) ∧ qm_ok cV (.inr (.inr (rdE5 g i))) := by
  refine ⟨_, rfl, rfl, ?_⟩
  unfold rdE5
  rcases hx : (g.2.2.1 i).2.2.2.2.1 with _ | j
  · trivial
  · exact (hk i hV).2.2.1 j hx
def rdE6 (g : cG) (i : Nat) : Option (Nat × Nat) := cRf (g.2.2.1 i).2.2.2.2.2.1
theorem glE6 {a : Nat} {q : cQ} (g : cG) (i : Nat) (hV : cV 3 i) (hk : c_ok g) : ∃ fs, c_ce a q g 3 i = .inr (1, fs) ∧ fs[6]? = some (qm_cv (cLa a) (.inr (.inr (rdE6 g i)))) ∧ qm_ok cV (.inr (.inr (rdE6 g i))) := by
  refine ⟨_, rfl, rfl, ?_⟩
  unfold rdE6
  rcases hx : (g.2.2.1 i).2.2.2.2.2.1 with _ | j
  · trivial
  · exact (hk i hV).2.2.2 j hx
def rdE7 (g : cG) (i : Nat) : qm_v := qI (g.2.2.1 i).2.2.2.2.2.2.1
theorem glE7 {a : Nat} {q : cQ} (g : cG) (i : Nat) (hV : cV 3 i) (hk : c_ok g) : ∃ fs, c_ce a q g 3 i = .inr (1, fs) ∧ fs[7]? = some (qm_cv (cLa a) (rdE7 g i)) ∧ qm_ok cV (rdE7 g i) := ⟨_, rfl, rfl, trivial⟩
def rdE8 (g : cG) (i : Nat) : qm_v := qI (g.2.2.1 i).2.2.2.2.2.2.2.1
theorem glE8 {a : Nat} {q : cQ} (g : cG) (i : Nat) (hV : cV 3 i) (hk : c_ok g) : ∃ fs, c_ce a q g 3 i = .inr (1, fs) ∧ fs[8]? = some (qm_cv (cLa a) (rdE8 g i)) ∧ qm_ok cV (rdE8 g i) := ⟨_, rfl, rfl, trivial⟩
def rdE9 (g : cG) (i : Nat) : qm_v := qI (g.2.2.1 i).2.2.2.2.2.2.2.2
theorem glE9 {a : Nat} {q : cQ} (g : cG) (i : Nat) (hV : cV 3 i) (hk : c_ok g) : ∃ fs, c_ce a q g 3 i = .inr (1, fs) ∧ fs[9]? = some (qm_cv (cLa a) (rdE9 g i)) ∧ qm_ok cV (rdE9 g i) := ⟨_, rfl, rfl, trivial⟩
def rdS0 (g : cG) (i : Nat) : qm_v := qR 8 0
theorem glS0 {a : Nat} {q : cQ} (g : cG) (i : Nat) (hV : cV 7 i) (hk : c_ok g) : ∃ fs, c_ce a q g 7 i = .inr (2, fs) ∧ fs[0]? = some (qm_cv (cLa a) (rdS0 g i)) ∧ qm_ok cV (rdS0 g i) := ⟨_, rfl, rfl, (show 0 < 7 by decide)⟩
def rdS2 (g : cG) (i : Nat) : qm_v := qR 8 1
theorem glS2 {a : Nat} {q : cQ} (g : cG) (i : Nat) (hV : cV 7 i) (hk : c_ok g) : ∃ fs, c_ce a q g 7 i = .inr (2, fs) ∧ fs[2]? = some (qm_cv (cLa a) (rdS2 g i)) ∧ qm_ok cV (rdS2 g i) := ⟨_, rfl, rfl, (show 1 < 7 by decide)⟩
def rdS3 (g : cG) (i : Nat) : qm_v := qR 8 2
theorem glS3 {a : Nat} {q : cQ} (g : cG) (i : Nat) (hV : cV 7 i) (hk : c_ok g) : ∃ fs, c_ce a q g 7 i = .inr (2, fs) ∧ fs[3]? = some (qm_cv (cLa a) (rdS3 g i)) ∧ qm_ok cV (rdS3 g i) := ⟨_, rfl, rfl, (show 2 < 7 by decide)⟩
def rdS4 (g : cG) (i : Nat) : qm_v := qR 8 3
theorem glS4 {a : Nat} {q : cQ} (g : cG) (i : Nat) (hV : cV 7 i) (hk : c_ok g) : ∃ fs, c_ce a q g 7 i = .inr (2, fs) ∧ fs[4]? = some (qm_cv (cLa a) (rdS4 g i)) ∧ qm_ok cV (rdS4 g i) := ⟨_, rfl, rfl, (show 3 < 7 by decide)⟩
def rdS5 (g : cG) (i : Nat) : qm_v := qR 8 4
theorem glS5 {a : Nat} {q : cQ} (g : cG) (i : Nat) (hV : cV 7 i) (hk : c_ok g) : ∃ fs, c_ce a q g 7 i = .inr (2, fs) ∧ fs[5]? = some (qm_cv (cLa a) (rdS5 g i)) ∧ qm_ok cV (rdS5 g i) := ⟨_, rfl, rfl, (show 4 < 7 by decide)⟩
def rdS7 (g : cG) (i : Nat) : qm_v := qR 8 5
theorem glS7 {a : Nat} {q : cQ} (g : cG) (i : Nat) (hV : cV 7 i) (hk : c_ok g) : ∃ fs, c_ce a q g 7 i = .inr (2, fs) ∧ fs[7]? = some (qm_cv (cLa a) (rdS7 g i)) ∧ qm_ok cV (rdS7 g i) := ⟨_, rfl, rfl, (show 5 < 7 by decide)⟩
def rdS8 (g : cG) (i : Nat) : qm_v := qR 8 6
theorem glS8 {a : Nat} {q : cQ} (g : cG) (i : Nat) (hV : cV 7 i) (hk : c_ok g) : ∃ fs, c_ce a q g 7 i = .inr (2, fs) ∧ fs[8]? = some (qm_cv (cLa a) (rdS8 g i)) ∧ qm_ok cV (rdS8 g i) := ⟨_, rfl, rfl, (show 6 < 7 by decide)⟩
def rdS1 (g : cG) (i : Nat) : qm_v := qI (g.2.2.2.2.2.1 0)
theorem glS1 {a : Nat} {q : cQ} (g : cG) (i : Nat) (hV : cV 7 i) (hk : c_ok g) : ∃ fs, c_ce a q g 7 i = .inr (2, fs) ∧ fs[1]? = some (qm_cv (cLa a) (rdS1 g i)) ∧ qm_ok cV (rdS1 g i) := ⟨_, rfl, rfl, trivial⟩
def rdS6 (g : cG) (i : Nat) : qm_v := qI (g.2.2.2.2.2.1 1)
theorem glS6 {a : Nat} {q : cQ} (g : cG) (i : Nat) (hV : cV 7 i) (hk : c_ok g) : ∃ fs, c_ce a q g 7 i = .inr (2, fs) ∧ fs[6]? = some (qm_cv (cLa a) (rdS6 g i)) ∧ qm_ok cV (rdS6 g i) := ⟨_, rfl, rfl, trivial⟩
def rdS9 (g : cG) (i : Nat) : qm_v := qI (g.2.2.2.2.2.1 2)
theorem glS9 {a : Nat} {q : cQ} (g : cG) (i : Nat) (hV : cV 7 i) (hk : c_ok g) : ∃ fs, c_ce a q g 7 i = .inr (2, fs) ∧ fs[9]? = some (qm_cv (cLa a) (rdS9 g i)) ∧ qm_ok cV (rdS9 g i) := ⟨_, rfl, rfl, trivial⟩
def rdS10 (g : cG) (i : Nat) : qm_v := qI (g.2.2.2.2.2.1 3)
theorem glS10 {a : Nat} {q : cQ} (g : cG) (i : Nat) (hV : cV 7 i) (hk : c_ok g) : ∃ fs, c_ce a q g 7 i = .inr (2, fs) ∧ fs[10]? = some (qm_cv (cLa a) (rdS10 g i)) ∧ qm_ok cV (rdS10 g i) := ⟨_, rfl, rfl, trivial⟩
def rdS11 (g : cG) (i : Nat) : qm_v := qI (g.2.2.2.2.2.1 4)
theorem glS11 {a : Nat} {q : cQ} (g : cG) (i : Nat) (hV : cV 7 i) (hk : c_ok g) : ∃ fs, c_ce a q g 7 i = .inr (2, fs) ∧ fs[11]? = some (qm_cv (cLa a) (rdS11 g i)) ∧ qm_ok cV (rdS11 g i) := ⟨_, rfl, rfl, trivial⟩
def rdS12 (g : cG) (i : Nat) : qm_v := qI (g.2.2.2.2.2.1 5)
theorem glS12 {a : Nat} {q : cQ} (g : cG) (i : Nat) (hV : cV 7 i) (hk : c_ok g) : ∃ fs, c_ce a q g 7 i = .inr (2, fs) ∧ fs[12]? = some (qm_cv (cLa a) (rdS12 g i)) ∧ qm_ok cV (rdS12 g i) := ⟨_, rfl, rfl, trivial⟩
def rdS13 (g : cG) (i : Nat) : qm_v := qI (g.2.2.2.2.2.1 6)
theorem glS13 {a : Nat} {q : cQ} (g : cG) (i : Nat) (hV : cV 7 i) (hk : c_ok g) : ∃ fs, c_ce a q g 7 i = .inr (2, fs) ∧ fs[13]? = some (qm_cv (cLa a) (rdS13 g i)) ∧ qm_ok cV (rdS13 g i) := ⟨_, rfl, rfl, trivial⟩
def rdR0 (g : cG) (i : Nat) : qm_v := qR 4 0
theorem glR0 {a : Nat} {q : cQ} (g : cG) (i : Nat) (hV : cV 0 i) (hk : c_ok g) : ∃ fs, c_ce a q g 0 i = .inr (3, fs) ∧ fs[0]? = some (qm_cv (cLa a) (rdR0 g i)) ∧ qm_ok cV (rdR0 g i) := ⟨_, rfl, rfl, (show 0 = 0 from rfl)⟩
def rdR1 (g : cG) (i : Nat) : qm_v := qI g.2.2.2.1.1
theorem glR1 {a : Nat} {q : cQ} (g : cG) (i : Nat) (hV : cV 0 i) (hk : c_ok g) : ∃ fs, c_ce a q g 0 i = .inr (3, fs) ∧ fs[1]? = some (qm_cv (cLa a) (rdR1 g i)) ∧ qm_ok cV (rdR1 g i) := ⟨_, rfl, rfl, trivial⟩
def rdR2 (g : cG) (i : Nat) : qm_v := qR 5 0
theorem glR2 {a : Nat} {q : cQ} (g : cG) (i : Nat) (hV : cV 0 i) (hk : c_ok g) : ∃ fs, c_ce a q g 0 i = .inr (3, fs) ∧ fs[2]? = some (qm_cv (cLa a) (rdR2 g i)) ∧ qm_ok cV (rdR2 g i) := ⟨_, rfl, rfl, (show 0 = 0 from rfl)⟩
def rdR3 (g : cG) (i : Nat) : qm_v := qR 1 88
theorem glR3 {a : Nat} {q : cQ} (g : cG) (i : Nat) (hV : cV 0 i) (hk : c_ok g) : ∃ fs, c_ce a q g 0 i = .inr (3, fs) ∧ fs[3]? = some (qm_cv (cLa a) (rdR3 g i)) ∧ qm_ok cV (rdR3 g i) := ⟨_, rfl, rfl, (show 88 < 89 by decide)⟩
def rdR4 (g : cG) (i : Nat) : qm_v := qR 6 0
theorem glR4 {a : Nat} {q : cQ} (g : cG) (i : Nat) (hV : cV 0 i) (hk : c_ok g) : ∃ fs, c_ce a q g 0 i = .inr (3, fs) ∧ fs[4]? = some (qm_cv (cLa a) (rdR4 g i)) ∧ qm_ok cV (rdR4 g i) := ⟨_, rfl, rfl, (show 0 = 0 from rfl)⟩
def rdR5 (g : cG) (i : Nat) : qm_v := qI g.2.2.2.1.2
theorem glR5 {a : Nat} {q : cQ} (g : cG) (i : Nat) (hV : cV 0 i) (hk : c_ok g) : ∃ fs, c_ce a q g 0 i = .inr (3, fs) ∧ fs[5]? = some (qm_cv (cLa a) (rdR5 g i)) ∧ qm_ok cV (rdR5 g i) := ⟨_, rfl, rfl, trivial⟩
def rdR6 (g : cG) (i : Nat) : qm_v := qR 7 0
theorem glR6 {a : Nat} {q : cQ} (g : cG) (i : Nat) (hV : cV 0 i) (hk : c_ok g) : ∃ fs, c_ce a q g 0 i = .inr (3, fs) ∧ fs[6]? = some (qm_cv (cLa a) (rdR6 g i)) ∧ qm_ok cV (rdR6 g i) := ⟨_, rfl, rfl, (show 0 = 0 from rfl)⟩
def wrV0 (g : cG) (i : Nat) (v : qm_v) : Option (List Prop × cG) := match v with
  | .inl x => some ([], (va_up g.1 i (x, (g.1 i).2), g.2))
  | _ => none
theorem plV0 {a : Nat} {q : cQ} (g : cG) (i : Nat) (v : qm_v) (cs : List Prop) (g' : cG) (hV : cV 1 i) (hk : c_ok g) (hv : qm_ok cV v) (h : wrV0 g i v = some (cs, g')) (hc : qm_all cs) : c_ok g' ∧ (∃ fs, c_ce a q g 1 i = .inr (0, fs) ∧ 0 < fs.length ∧ c_ce a q g' 1 i = .inr (0, fs.set 0 (qm_cv (cLa a) v))) ∧ (∀ k j, cV k j → (k ≠ 1 ∨ j ≠ i) → c_ce a q g' k j = c_ce a q g k j) ∧ narrow .int (qm_cv (cLa a) v) = qm_cv (cLa a) v ∧ fits .int (qm_cv (cLa a) v) = true := by
  rcases v with x | x | x
  case inl =>
    cases h
    refine ⟨hk, ⟨_, rfl, Nat.le_of_ble_eq_true rfl, ?_⟩, ?_, rfl, rfl⟩
    · simp only [c_ce, va_up_self]; rfl
    · exact fun k j _ hne => ce_uV k j hne
  all_goals cases h
def wrV1 (g : cG) (i : Nat) (v : qm_v) : Option (List Prop × cG) := match v with
  | .inr (.inl x) => some ([], (va_up g.1 i ((g.1 i).1, x, (g.1 i).2.2), g.2))
  | _ => none
theorem plV1 {a : Nat} {q : cQ} (g : cG) (i : Nat) (v : qm_v) (cs : List Prop) (g' : cG) (hV : cV 1 i) (hk : c_ok g) (hv : qm_ok cV v) (h : wrV1 g i v = some (cs, g')) (hc : qm_all cs) : c_ok g' ∧ (∃ fs, c_ce a q g 1 i = .inr (0, fs) ∧ 1 < fs.length ∧ c_ce a q g' 1 i = .inr (0, fs.set 1 (qm_cv (cLa a) v))) ∧ (∀ k j, cV k j → (k ≠ 1 ∨ j ≠ i) → c_ce a q g' k j = c_ce a q g k j) ∧ narrow .long (qm_cv (cLa a) v) = qm_cv (cLa a) v ∧ fits .long (qm_cv (cLa a) v) = true := by
  rcases v with x | x | x
  case inr.inl =>
    cases h
    refine ⟨hk, ⟨_, rfl, Nat.le_of_ble_eq_true rfl, ?_⟩, ?_, rfl, rfl⟩
    · simp only [c_ce, va_up_self]; rfl
    · exact fun k j _ hne => ce_uV k j hne
  all_goals cases h
def wrV2 (g : cG) (i : Nat) (v : qm_v) : Option (List Prop × cG) := match v with
  | .inl x => some ([], (va_up g.1 i ((g.1 i).1, (g.1 i).2.1, x, (g.1 i).2.2.2), g.2))
  | _ => none
theorem plV2 {a : Nat} {q : cQ} (g : cG) (i : Nat) (v : qm_v) (cs : List Prop) (g' : cG) (hV : cV 1 i) (hk : c_ok g) (hv : qm_ok cV v) (h : wrV2 g i v = some (cs, g')) (hc : qm_all cs) : c_ok g' ∧ (∃ fs, c_ce a q g 1 i = .inr (0, fs) ∧ 2 < fs.length ∧ c_ce a q g' 1 i = .inr (0, fs.set 2 (qm_cv (cLa a) v))) ∧ (∀ k j, cV k j → (k ≠ 1 ∨ j ≠ i) → c_ce a q g' k j = c_ce a q g k j) ∧ narrow .int (qm_cv (cLa a) v) = qm_cv (cLa a) v ∧ fits .int (qm_cv (cLa a) v) = true := by
  rcases v with x | x | x
  case inl =>
    cases h
    refine ⟨hk, ⟨_, rfl, Nat.le_of_ble_eq_true rfl, ?_⟩, ?_, rfl, rfl⟩
    · simp only [c_ce, va_up_self]; rfl
    · exact fun k j _ hne => ce_uV k j hne
  all_goals cases h
def wrV3 (g : cG) (i : Nat) (v : qm_v) : Option (List Prop × cG) := match v with
  | .inl x => some ([], (va_up g.1 i ((g.1 i).1, (g.1 i).2.1, (g.1 i).2.2.1, x), g.2))
  | _ => none
theorem plV3 {a : Nat} {q : cQ} (g : cG) (i : Nat) (v : qm_v) (cs : List Prop) (g' : cG) (hV : cV 1 i) (hk : c_ok g) (hv : qm_ok cV v) (h : wrV3 g i v = some (cs, g')) (hc : qm_all cs) : c_ok g' ∧ (∃ fs, c_ce a q g 1 i = .inr (0, fs) ∧ 3 < fs.length ∧ c_ce a q g' 1 i = .inr (0, fs.set 3 (qm_cv (cLa a) v))) ∧ (∀ k j, cV k j → (k ≠ 1 ∨ j ≠ i) → c_ce a q g' k j = c_ce a q g k j) ∧ narrow .int (qm_cv (cLa a) v) = qm_cv (cLa a) v ∧ fits .int (qm_cv (cLa a) v) = true := by
  rcases v with x | x | x
  case inl =>
    cases h
    refine ⟨hk, ⟨_, rfl, Nat.le_of_ble_eq_true rfl, ?_⟩, ?_, rfl, rfl⟩
    · simp only [c_ce, va_up_self]; rfl
    · exact fun k j _ hne => ce_uV k j hne
  all_goals cases h
theorem c_ok_E {g : cG} {i : Nat} {x : cER} (h : c_ok g) (hx : i < 80 → x.2.1 < 89 ∧ (∀ j, x.2.2.2.1 = some j → j < 80) ∧ (∀ j, x.2.2.2.2.1 = some j → j < 80) ∧ (∀ j, x.2.2.2.2.2.1 = some j → j < 80)) : c_ok (g.1, g.2.1, va_up g.2.2.1 i x, g.2.2.2) := by
  intro k hk
  by_cases e : k = i
  · subst e
    show (va_up g.2.2.1 k x k).2.1 < 89 ∧ (∀ j, (va_up g.2.2.1 k x k).2.2.2.1 = some j → j < 80) ∧ (∀ j, (va_up g.2.2.1 k x k).2.2.2.2.1 = some j → j < 80) ∧ (∀ j, (va_up g.2.2.1 k x k).2.2.2.2.2.1 = some j → j < 80)
    rw [va_up_self]
    exact hx hk
  · show (va_up g.2.2.1 i x k).2.1 < 89 ∧ (∀ j, (va_up g.2.2.1 i x k).2.2.2.1 = some j → j < 80) ∧ (∀ j, (va_up g.2.2.1 i x k).2.2.2.2.1 = some j → j < 80) ∧ (∀ j, (va_up g.2.2.1 i x k).2.2.2.2.2.1 = some j → j < 80)
    rw [va_up_ne _ _ e]
    exact h k hk
def wrE1 (g : cG) (i : Nat) (v : qm_v) : Option (List Prop × cG) := match v with
  | .inl x => some ([], (g.1, g.2.1, va_up g.2.2.1 i (x, (g.2.2.1 i).2), g.2.2.2))
  | _ => none
theorem plE1 {a : Nat} {q : cQ} (g : cG) (i : Nat) (v : qm_v) (cs : List Prop) (g' : cG) (hV : cV 3 i) (hk : c_ok g) (hv : qm_ok cV v) (h : wrE1 g i v = some (cs, g')) (hc : qm_all cs) : c_ok g' ∧ (∃ fs, c_ce a q g 3 i = .inr (1, fs) ∧ 1 < fs.length ∧ c_ce a q g' 3 i = .inr (1, fs.set 1 (qm_cv (cLa a) v))) ∧ (∀ k j, cV k j → (k ≠ 3 ∨ j ≠ i) → c_ce a q g' k j = c_ce a q g k j) ∧ narrow .int (qm_cv (cLa a) v) = qm_cv (cLa a) v ∧ fits .int (qm_cv (cLa a) v) = true := by
  rcases v with x | x | x
  case inl =>
    cases h
    refine ⟨c_ok_E hk (fun _ => hk i hV), ⟨_, rfl, Nat.le_of_ble_eq_true rfl, ?_⟩, ?_, rfl, rfl⟩
    · simp only [c_ce, va_up_self]; rfl
    · exact fun k j _ hne => ce_uE k j hne
  all_goals cases h
def wrE2 (g : cG) (i : Nat) (v : qm_v) : Option (List Prop × cG) := match v with
  | .inr (.inr (some (1, n))) => some ([], (g.1, g.2.1, va_up g.2.2.1 i ((g.2.2.1 i).1, n, (g.2.2.1 i).2.2), g.2.2.2))
  | _ => none
theorem plE2 {a : Nat} {q : cQ} (g : cG) (i : Nat) (v : qm_v) (cs : List Prop) (g' : cG) (hV : cV 3 i) (hk : c_ok g) (hv : qm_ok cV v) (h : wrE2 g i v = some (cs, g')) (hc : qm_all cs) : c_ok g' ∧ (∃ fs, c_ce a q g 3 i = .inr (1, fs) ∧ 2 < fs.length ∧ c_ce a q g' 3 i = .inr (1, fs.set 2 (qm_cv (cLa a) v))) ∧ (∀ k j, cV k j → (k ≠ 3 ∨ j ≠ i) → c_ce a q g' k j = c_ce a q g k j) ∧ narrow (.object "FunctionRows$Value") (qm_cv (cLa a) v) = qm_cv (cLa a) v ∧ fits (.object "FunctionRows$Value") (qm_cv (cLa a) v) = true := by
  rcases v with x | x | _ | ⟨_ | _ | m, n⟩
  case inr.inr.some.succ.zero =>
    cases h
    refine ⟨c_ok_E hk (fun _ => ⟨hv, (hk i hV).2⟩), ⟨_, rfl, Nat.le_of_ble_eq_true rfl, ?_⟩, ?_, rfl, rfl⟩
    · simp only [c_ce, va_up_self]; rfl
    · exact fun k j _ hne => ce_uE k j hne
  all_goals cases h
def wrE3 (g : cG) (i : Nat) (v : qm_v) : Option (List Prop × cG) := match v with
  | .inl x => some ([], (g.1, g.2.1, va_up g.2.2.1 i ((g.2.2.1 i).1, (g.2.2.1 i).2.1, x, (g.2.2.1 i).2.2.2), g.2.2.2))
  | _ => none
theorem plE3 {a : Nat} {q : cQ} (g : cG) (i : Nat) (v : qm_v) (cs : List Prop) (g' : cG) (hV : cV 3 i) (hk : c_ok g) (hv : qm_ok cV v) (h : wrE3 g i v = some (cs, g')) (hc : qm_all cs) : c_ok g' ∧ (∃ fs, c_ce a q g 3 i = .inr (1, fs) ∧ 3 < fs.length ∧ c_ce a q g' 3 i = .inr (1, fs.set 3 (qm_cv (cLa a) v))) ∧ (∀ k j, cV k j → (k ≠ 3 ∨ j ≠ i) → c_ce a q g' k j = c_ce a q g k j) ∧ narrow .int (qm_cv (cLa a) v) = qm_cv (cLa a) v ∧ fits .int (qm_cv (cLa a) v) = true := by
  rcases v with x | x | x
  case inl =>
    cases h
    refine ⟨c_ok_E hk (fun _ => hk i hV), ⟨_, rfl, Nat.le_of_ble_eq_true rfl, ?_⟩, ?_, rfl, rfl⟩
    · simp only [c_ce, va_up_self]; rfl
    · exact fun k j _ hne => ce_uE k j hne
  all_goals cases h
def wrE4 (g : cG) (i : Nat) (v : qm_v) : Option (List Prop × cG) := match v with
  | .inr (.inr (some (3, n))) => some ([], (g.1, g.2.1, va_up g.2.2.1 i ((g.2.2.1 i).1, (g.2.2.1 i).2.1, (g.2.2.1 i).2.2.1, some n, (g.2.2.1 i).2.2.2.2), g.2.2.2))
  | _ => none
theorem plE4 {a : Nat} {q : cQ} (g : cG) (i : Nat) (v : qm_v) (cs : List Prop) (g' : cG) (hV : cV 3 i) (hk : c_ok g) (hv : qm_ok cV v) (h : wrE4 g i v = some (cs, g')) (hc : qm_all cs) : c_ok g' ∧ (∃ fs, c_ce a q g 3 i = .inr (1, fs) ∧ 4 < fs.length ∧ c_ce a q g' 3 i = .inr (1, fs.set 4 (qm_cv (cLa a) v))) ∧ (∀ k j, cV k j → (k ≠ 3 ∨ j ≠ i) → c_ce a q g' k j = c_ce a q g k j) ∧ narrow (.object "FunctionRows$Expression") (qm_cv (cLa a) v) = qm_cv (cLa a) v ∧ fits (.object "FunctionRows$Expression") (qm_cv (cLa a) v) = true := by
  rcases v with x | x | _ | ⟨_ | _ | _ | _ | m, n⟩
  case inr.inr.some.succ.succ.succ.zero =>
    cases h
    refine ⟨c_ok_E hk (fun _ => ⟨(hk i hV).1, (fun j hj => by cases hj; exact hv), (hk i hV).2.2⟩), ⟨_, rfl, Nat.le_of_ble_eq_true rfl, ?_⟩, ?_, rfl, rfl⟩
    · simp only [c_ce, va_up_self]; rfl
    · exact fun k j _ hne => ce_uE k j hne
  all_goals cases h
def wrE5 (g : cG) (i : Nat) (v : qm_v) : Option (List Prop × cG) := match v with
  | .inr (.inr (some (3, n))) => some ([], (g.1, g.2.1, va_up g.2.2.1 i ((g.2.2.1 i).1, (g.2.2.1 i).2.1, (g.2.2.1 i).2.2.1, (g.2.2.1 i).2.2.2.1, some n, (g.2.2.1 i).2.2.2.2.2), g.2.2.2))
  | _ => none
theorem plE5 {a : Nat} {q : cQ} (g : cG) (i : Nat) (v : qm_v) (cs : List Prop) (g' : cG) (hV : cV 3 i) (hk : c_ok g) (hv : qm_ok cV v) (h : wrE5 g i v = some (cs, g')) (hc : qm_all cs) : c_ok g' ∧ (∃ fs, c_ce a q g 3 i = .inr (1, fs) ∧ 5 < fs.length ∧ c_ce a q g' 3 i = .inr (1, fs.set 5 (qm_cv (cLa a) v))) ∧ (∀ k j, cV k j → (k ≠ 3 ∨ j ≠ i) → c_ce a q g' k j = c_ce a q g k j) ∧ narrow (.object "FunctionRows$Expression") (qm_cv (cLa a) v) = qm_cv (cLa a) v ∧ fits (.object "FunctionRows$Expression") (qm_cv (cLa a) v) = true := by
  rcases v with x | x | _ | ⟨_ | _ | _ | _ | m, n⟩
  case inr.inr.some.succ.succ.succ.zero =>
    cases h
    refine ⟨c_ok_E hk (fun _ => ⟨(hk i hV).1, (hk i hV).2.1, (fun j hj => by cases hj; exact hv), (hk i hV).2.2.2⟩), ⟨_, rfl, Nat.le_of_ble_eq_true rfl, ?_⟩, ?_, rfl, rfl⟩
    · simp only [c_ce, va_up_self]; rfl
    · exact fun k j _ hne => ce_uE k j hne
  all_goals cases h
def wrE6 (g : cG) (i : Nat) (v : qm_v) : Option (List Prop × cG) := match v with
  | .inr (.inr (some (3, n))) => some ([], (g.1, g.2.1, va_up g.2.2.1 i ((g.2.2.1 i).1, (g.2.2.1 i).2.1, (g.2.2.1 i).2.2.1, (g.2.2.1 i).2.2.2.1, (g.2.2.1 i).2.2.2.2.1, some n, (g.2.2.1 i).2.2.2.2.2.2), g.2.2.2))
  | _ => none
theorem plE6 {a : Nat} {q : cQ} (g : cG) (i : Nat) (v : qm_v) (cs : List Prop) (g' : cG) (hV : cV 3 i) (hk : c_ok g) (hv : qm_ok cV v) (h : wrE6 g i v = some (cs, g')) (hc : qm_all cs) : c_ok g' ∧ (∃ fs, c_ce a q g 3 i = .inr (1, fs) ∧ 6 < fs.length ∧ c_ce a q g' 3 i = .inr (1, fs.set 6 (qm_cv (cLa a) v))) ∧ (∀ k j, cV k j → (k ≠ 3 ∨ j ≠ i) → c_ce a q g' k j = c_ce a q g k j) ∧ narrow (.object "FunctionRows$Expression") (qm_cv (cLa a) v) = qm_cv (cLa a) v ∧ fits (.object "FunctionRows$Expression") (qm_cv (cLa a) v) = true := by
  rcases v with x | x | _ | ⟨_ | _ | _ | _ | m, n⟩
  case inr.inr.some.succ.succ.succ.zero =>
    cases h
    refine ⟨c_ok_E hk (fun _ => ⟨(hk i hV).1, (hk i hV).2.1, (hk i hV).2.2.1, (fun j hj => by cases hj; exact hv)⟩), ⟨_, rfl, Nat.le_of_ble_eq_true rfl, ?_⟩, ?_, rfl, rfl⟩
    · simp only [c_ce, va_up_self]; rfl
    · exact fun k j _ hne => ce_uE k j hne
  all_goals cases h
def wrE7 (g : cG) (i : Nat) (v : qm_v) : Option (List Prop × cG) := match v with
  | .inl x => some ([], (g.1, g.2.1, va_up g.2.2.1 i ((g.2.2.1 i).1, (g.2.2.1 i).2.1, (g.2.2.1 i).2.2.1, (g.2.2.1 i).2.2.2.1, (g.2.2.1 i).2.2.2.2.1, (g.2.2.1 i).2.2.2.2.2.1, x, (g.2.2.1 i).2.2.2.2.2.2.2), g.2.2.2))
  | _ => none
theorem plE7 {a : Nat} {q : cQ} (g : cG) (i : Nat) (v : qm_v) (cs : List Prop) (g' : cG) (hV : cV 3 i) (hk : c_ok g) (hv : qm_ok cV v) (h : wrE7 g i v = some (cs, g')) (hc : qm_all cs) : c_ok g' ∧ (∃ fs, c_ce a q g 3 i = .inr (1, fs) ∧ 7 < fs.length ∧ c_ce a q g' 3 i = .inr (1, fs.set 7 (qm_cv (cLa a) v))) ∧ (∀ k j, cV k j → (k ≠ 3 ∨ j ≠ i) → c_ce a q g' k j = c_ce a q g k j) ∧ narrow .int (qm_cv (cLa a) v) = qm_cv (cLa a) v ∧ fits .int (qm_cv (cLa a) v) = true := by
  rcases v with x | x | x
  case inl =>
    cases h
    refine ⟨c_ok_E hk (fun _ => hk i hV), ⟨_, rfl, Nat.le_of_ble_eq_true rfl, ?_⟩, ?_, rfl, rfl⟩
    · simp only [c_ce, va_up_self]; rfl
    · exact fun k j _ hne => ce_uE k j hne
  all_goals cases h
def wrE8 (g : cG) (i : Nat) (v : qm_v) : Option (List Prop × cG) := match v with
  | .inl x => some ([], (g.1, g.2.1, va_up g.2.2.1 i ((g.2.2.1 i).1, (g.2.2.1 i).2.1, (g.2.2.1 i).2.2.1, (g.2.2.1 i).2.2.2.1, (g.2.2.1 i).2.2.2.2.1, (g.2.2.1 i).2.2.2.2.2.1, (g.2.2.1 i).2.2.2.2.2.2.1, x, (g.2.2.1 i).2.2.2.2.2.2.2.2), g.2.2.2))
  | _ => none
theorem plE8 {a : Nat} {q : cQ} (g : cG) (i : Nat) (v : qm_v) (cs : List Prop) (g' : cG) (hV : cV 3 i) (hk : c_ok g) (hv : qm_ok cV v) (h : wrE8 g i v = some (cs, g')) (hc : qm_all cs) : c_ok g' ∧ (∃ fs, c_ce a q g 3 i = .inr (1, fs) ∧ 8 < fs.length ∧ c_ce a q g' 3 i = .inr (1, fs.set 8 (qm_cv (cLa a) v))) ∧ (∀ k j, cV k j → (k ≠ 3 ∨ j ≠ i) → c_ce a q g' k j = c_ce a q g k j) ∧ narrow .int (qm_cv (cLa a) v) = qm_cv (cLa a) v ∧ fits .int (qm_cv (cLa a) v) = true := by
  rcases v with x | x | x
  case inl =>
    cases h
    refine ⟨c_ok_E hk (fun _ => hk i hV), ⟨_, rfl, Nat.le_of_ble_eq_true rfl, ?_⟩, ?_, rfl, rfl⟩
    · simp only [c_ce, va_up_self]; rfl
    · exact fun k j _ hne => ce_uE k j hne
  all_goals cases h
def wrE9 (g : cG) (i : Nat) (v : qm_v) : Option (List Prop × cG) := match v with
  | .inl x => some ([x = 0 ∨ x = 1], (g.1, g.2.1, va_up g.2.2.1 i ((g.2.2.1 i).1, (g.2.2.1 i).2.1, (g.2.2.1 i).2.2.1, (g.2.2.1 i).2.2.2.1, (g.2.2.1 i).2.2.2.2.1, (g.2.2.1 i).2.2.2.2.2.1, (g.2.2.1 i).2.2.2.2.2.2.1, (g.2.2.1 i).2.2.2.2.2.2.2.1, x), g.2.2.2))
  | _ => none
theorem plE9 {a : Nat} {q : cQ} (g : cG) (i : Nat) (v : qm_v) (cs : List Prop) (g' : cG) (hV : cV 3 i) (hk : c_ok g) (hv : qm_ok cV v) (h : wrE9 g i v = some (cs, g')) (hc : qm_all cs) : c_ok g' ∧ (∃ fs, c_ce a q g 3 i = .inr (1, fs) ∧ 9 < fs.length ∧ c_ce a q g' 3 i = .inr (1, fs.set 9 (qm_cv (cLa a) v))) ∧ (∀ k j, cV k j → (k ≠ 3 ∨ j ≠ i) → c_ce a q g' k j = c_ce a q g k j) ∧ narrow .boolean (qm_cv (cLa a) v) = qm_cv (cLa a) v ∧ fits .boolean (qm_cv (cLa a) v) = true := by
  rcases v with x | x | x
  case inl =>
    cases h
    refine ⟨c_ok_E hk (fun _ => hk i hV), ⟨_, rfl, Nat.le_of_ble_eq_true rfl, ?_⟩, ?_, (show narrow .boolean (.int x) = .int x from by rcases (show x = 0 ∨ x = 1 from hc) with rfl | rfl <;> decide +kernel), (show fits .boolean (.int x) = true from by rcases (show x = 0 ∨ x = 1 from hc) with rfl | rfl <;> decide +kernel)⟩
    · simp only [c_ce, va_up_self]; rfl
    · exact fun k j _ hne => ce_uE k j hne
  all_goals cases h
def wrS1 (g : cG) (i : Nat) (v : qm_v) : Option (List Prop × cG) := match v with
  | .inl x => some ([], (g.1, g.2.1, g.2.2.1, g.2.2.2.1, g.2.2.2.2.1, va_up g.2.2.2.2.2.1 0 x, g.2.2.2.2.2.2))
  | _ => none
theorem plS1 {a : Nat} {q : cQ} (g : cG) (i : Nat) (v : qm_v) (cs : List Prop) (g' : cG) (hV : cV 7 i) (hk : c_ok g) (hv : qm_ok cV v) (h : wrS1 g i v = some (cs, g')) (hc : qm_all cs) : c_ok g' ∧ (∃ fs, c_ce a q g 7 i = .inr (2, fs) ∧ 1 < fs.length ∧ c_ce a q g' 7 i = .inr (2, fs.set 1 (qm_cv (cLa a) v))) ∧ (∀ k j, cV k j → (k ≠ 7 ∨ j ≠ i) → c_ce a q g' k j = c_ce a q g k j) ∧ narrow .int (qm_cv (cLa a) v) = qm_cv (cLa a) v ∧ fits .int (qm_cv (cLa a) v) = true := by
  rcases v with x | x | x
  case inl =>
    cases h
    refine ⟨hk, ⟨_, rfl, Nat.le_of_ble_eq_true rfl, ?_⟩, ?_, rfl, rfl⟩
    · rfl
    · exact fun k j hv hne => ce_uN k j hv (by rw [show i = 0 from hV] at hne; exact hne)
  all_goals cases h
def wrS6 (g : cG) (i : Nat) (v : qm_v) : Option (List Prop × cG) := match v with
  | .inl x => some ([], (g.1, g.2.1, g.2.2.1, g.2.2.2.1, g.2.2.2.2.1, va_up g.2.2.2.2.2.1 1 x, g.2.2.2.2.2.2))
  | _ => none
theorem plS6 {a : Nat} {q : cQ} (g : cG) (i : Nat) (v : qm_v) (cs : List Prop) (g' : cG) (hV : cV 7 i) (hk : c_ok g) (hv : qm_ok cV v) (h : wrS6 g i v = some (cs, g')) (hc : qm_all cs) : c_ok g' ∧ (∃ fs, c_ce a q g 7 i = .inr (2, fs) ∧ 6 < fs.length ∧ c_ce a q g' 7 i = .inr (2, fs.set 6 (qm_cv (cLa a) v))) ∧ (∀ k j, cV k j → (k ≠ 7 ∨ j ≠ i) → c_ce a q g' k j = c_ce a q g k j) ∧ narrow .int (qm_cv (cLa a) v) = qm_cv (cLa a) v ∧ fits .int (qm_cv (cLa a) v) = true := by
  rcases v with x | x | x
  case inl =>
    cases h
    refine ⟨hk, ⟨_, rfl, Nat.le_of_ble_eq_true rfl, ?_⟩, ?_, rfl, rfl⟩
    · rfl
    · exact fun k j hv hne => ce_uN k j hv (by rw [show i = 0 from hV] at hne; exact hne)
  all_goals cases h
def wrS9 (g : cG) (i : Nat) (v : qm_v) : Option (List Prop × cG) := match v with
  | .inl x => some ([], (g.1, g.2.1, g.2.2.1, g.2.2.2.1, g.2.2.2.2.1, va_up g.2.2.2.2.2.1 2 x, g.2.2.2.2.2.2))
  | _ => none
theorem plS9 {a : Nat} {q : cQ} (g : cG) (i : Nat) (v : qm_v) (cs : List Prop) (g' : cG) (hV : cV 7 i) (hk : c_ok g) (hv : qm_ok cV v) (h : wrS9 g i v = some (cs, g')) (hc : qm_all cs) : c_ok g' ∧ (∃ fs, c_ce a q g 7 i = .inr (2, fs) ∧ 9 < fs.length ∧ c_ce a q g' 7 i = .inr (2, fs.set 9 (qm_cv (cLa a) v))) ∧ (∀ k j, cV k j → (k ≠ 7 ∨ j ≠ i) → c_ce a q g' k j = c_ce a q g k j) ∧ narrow .int (qm_cv (cLa a) v) = qm_cv (cLa a) v ∧ fits .int (qm_cv (cLa a) v) = true := by
  rcases v with x | x | x
  case inl =>
    cases h
    refine ⟨hk, ⟨_, rfl, Nat.le_of_ble_eq_true rfl, ?_⟩, ?_, rfl, rfl⟩
    · rfl
    · exact fun k j hv hne => ce_uN k j hv (by rw [show i = 0 from hV] at hne; exact hne)
  all_goals cases h
def wrS10 (g : cG) (i : Nat) (v : qm_v) : Option (List Prop × cG) := match v with
  | .inl x => some ([], (g.1, g.2.1, g.2.2.1, g.2.2.2.1, g.2.2.2.2.1, va_up g.2.2.2.2.2.1 3 x, g.2.2.2.2.2.2))
  | _ => none
theorem plS10 {a : Nat} {q : cQ} (g : cG) (i : Nat) (v : qm_v) (cs : List Prop) (g' : cG) (hV : cV 7 i) (hk : c_ok g) (hv : qm_ok cV v) (h : wrS10 g i v = some (cs, g')) (hc : qm_all cs) : c_ok g' ∧ (∃ fs, c_ce a q g 7 i = .inr (2, fs) ∧ 10 < fs.length ∧ c_ce a q g' 7 i = .inr (2, fs.set 10 (qm_cv (cLa a) v))) ∧ (∀ k j, cV k j → (k ≠ 7 ∨ j ≠ i) → c_ce a q g' k j = c_ce a q g k j) ∧ narrow .int (qm_cv (cLa a) v) = qm_cv (cLa a) v ∧ fits .int (qm_cv (cLa a) v) = true := by
  rcases v with x | x | x
  case inl =>
    cases h
    refine ⟨hk, ⟨_, rfl, Nat.le_of_ble_eq_true rfl, ?_⟩, ?_, rfl, rfl⟩
    · rfl
    · exact fun k j hv hne => ce_uN k j hv (by rw [show i = 0 from hV] at hne; exact hne)
  all_goals cases h
def wrS11 (g : cG) (i : Nat) (v : qm_v) : Option (List Prop × cG) := match v with
  | .inl x => some ([], (g.1, g.2.1, g.2.2.1, g.2.2.2.1, g.2.2.2.2.1, va_up g.2.2.2.2.2.1 4 x, g.2.2.2.2.2.2))
  | _ => none
theorem plS11 {a : Nat} {q : cQ} (g : cG) (i : Nat) (v : qm_v) (cs : List Prop) (g' : cG) (hV : cV 7 i) (hk : c_ok g) (hv : qm_ok cV v) (h : wrS11 g i v = some (cs, g')) (hc : qm_all cs) : c_ok g' ∧ (∃ fs, c_ce a q g 7 i = .inr (2, fs) ∧ 11 < fs.length ∧ c_ce a q g' 7 i = .inr (2, fs.set 11 (qm_cv (cLa a) v))) ∧ (∀ k j, cV k j → (k ≠ 7 ∨ j ≠ i) → c_ce a q g' k j = c_ce a q g k j) ∧ narrow .int (qm_cv (cLa a) v) = qm_cv (cLa a) v ∧ fits .int (qm_cv (cLa a) v) = true := by
  rcases v with x | x | x
  case inl =>
    cases h
    refine ⟨hk, ⟨_, rfl, Nat.le_of_ble_eq_true rfl, ?_⟩, ?_, rfl, rfl⟩
    · rfl
    · exact fun k j hv hne => ce_uN k j hv (by rw [show i = 0 from hV] at hne; exact hne)
  all_goals cases h
def wrS12 (g : cG) (i : Nat) (v : qm_v) : Option (List Prop × cG) := match v with
  | .inl x => some ([], (g.1, g.2.1, g.2.2.1, g.2.2.2.1, g.2.2.2.2.1, va_up g.2.2.2.2.2.1 5 x, g.2.2.2.2.2.2))
  | _ => none
theorem plS12 {a : Nat} {q : cQ} (g : cG) (i : Nat) (v : qm_v) (cs : List Prop) (g' : cG) (hV : cV 7 i) (hk : c_ok g) (hv : qm_ok cV v) (h : wrS12 g i v = some (cs, g')) (hc : qm_all cs) : c_ok g' ∧ (∃ fs, c_ce a q g 7 i = .inr (2, fs) ∧ 12 < fs.length ∧ c_ce a q g' 7 i = .inr (2, fs.set 12 (qm_cv (cLa a) v))) ∧ (∀ k j, cV k j → (k ≠ 7 ∨ j ≠ i) → c_ce a q g' k j = c_ce a q g k j) ∧ narrow .int (qm_cv (cLa a) v) = qm_cv (cLa a) v ∧ fits .int (qm_cv (cLa a) v) = true := by
  rcases v with x | x | x
  case inl =>
    cases h
    refine ⟨hk, ⟨_, rfl, Nat.le_of_ble_eq_true rfl, ?_⟩, ?_, rfl, rfl⟩
    · rfl
    · exact fun k j hv hne => ce_uN k j hv (by rw [show i = 0 from hV] at hne; exact hne)
  all_goals cases h
def wrS13 (g : cG) (i : Nat) (v : qm_v) : Option (List Prop × cG) := match v with
  | .inl x => some ([], (g.1, g.2.1, g.2.2.1, g.2.2.2.1, g.2.2.2.2.1, va_up g.2.2.2.2.2.1 6 x, g.2.2.2.2.2.2))
  | _ => none
theorem plS13 {a : Nat} {q : cQ} (g : cG) (i : Nat) (v : qm_v) (cs : List Prop) (g' : cG) (hV : cV 7 i) (hk : c_ok g) (hv : qm_ok cV v) (h : wrS13 g i v = some (cs, g')) (hc : qm_all cs) : c_ok g' ∧ (∃ fs, c_ce a q g 7 i = .inr (2, fs) ∧ 13 < fs.length ∧ c_ce a q g' 7 i = .inr (2, fs.set 13 (qm_cv (cLa a) v))) ∧ (∀ k j, cV k j → (k ≠ 7 ∨ j ≠ i) → c_ce a q g' k j = c_ce a q g k j) ∧ narrow .int (qm_cv (cLa a) v) = qm_cv (cLa a) v ∧ fits .int (qm_cv (cLa a) v) = true := by
  rcases v with x | x | x
  case inl =>
    cases h
    refine ⟨hk, ⟨_, rfl, Nat.le_of_ble_eq_true rfl, ?_⟩, ?_, rfl, rfl⟩
    · rfl
    · exact fun k j hv hne => ce_uN k j hv (by rw [show i = 0 from hV] at hne; exact hne)
  all_goals cases h
def wrR1 (g : cG) (i : Nat) (v : qm_v) : Option (List Prop × cG) := match v with
  | .inl x => some ([], (g.1, g.2.1, g.2.2.1, (x, g.2.2.2.1.2), g.2.2.2.2))
  | _ => none
theorem plR1 {a : Nat} {q : cQ} (g : cG) (i : Nat) (v : qm_v) (cs : List Prop) (g' : cG) (hV : cV 0 i) (hk : c_ok g) (hv : qm_ok cV v) (h : wrR1 g i v = some (cs, g')) (hc : qm_all cs) : c_ok g' ∧ (∃ fs, c_ce a q g 0 i = .inr (3, fs) ∧ 1 < fs.length ∧ c_ce a q g' 0 i = .inr (3, fs.set 1 (qm_cv (cLa a) v))) ∧ (∀ k j, cV k j → (k ≠ 0 ∨ j ≠ i) → c_ce a q g' k j = c_ce a q g k j) ∧ narrow .int (qm_cv (cLa a) v) = qm_cv (cLa a) v ∧ fits .int (qm_cv (cLa a) v) = true := by
  rcases v with x | x | x
  case inl =>
    cases h
    refine ⟨hk, ⟨_, rfl, Nat.le_of_ble_eq_true rfl, ?_⟩, ?_, rfl, rfl⟩
    · rfl
    · exact fun k j hv hne => ce_uC k j hv (by rw [show i = 0 from hV] at hne; exact hne)
  all_goals cases h
def wrR5 (g : cG) (i : Nat) (v : qm_v) : Option (List Prop × cG) := match v with
  | .inl x => some ([], (g.1, g.2.1, g.2.2.1, (g.2.2.2.1.1, x), g.2.2.2.2))
  | _ => none
theorem plR5 {a : Nat} {q : cQ} (g : cG) (i : Nat) (v : qm_v) (cs : List Prop) (g' : cG) (hV : cV 0 i) (hk : c_ok g) (hv : qm_ok cV v) (h : wrR5 g i v = some (cs, g')) (hc : qm_all cs) : c_ok g' ∧ (∃ fs, c_ce a q g 0 i = .inr (3, fs) ∧ 5 < fs.length ∧ c_ce a q g' 0 i = .inr (3, fs.set 5 (qm_cv (cLa a) v))) ∧ (∀ k j, cV k j → (k ≠ 0 ∨ j ≠ i) → c_ce a q g' k j = c_ce a q g k j) ∧ narrow .int (qm_cv (cLa a) v) = qm_cv (cLa a) v ∧ fits .int (qm_cv (cLa a) v) = true := by
  rcases v with x | x | x
  case inl =>
    cases h
    refine ⟨hk, ⟨_, rfl, Nat.le_of_ble_eq_true rfl, ?_⟩, ?_, rfl, rfl⟩
    · rfl
    · exact fun k j hv hne => ce_uC k j hv (by rw [show i = 0 from hV] at hne; exact hne)
  all_goals cases h
end
section
/-! the class: what its arrays hold, its methods, their code, and that the code is right -/
def cn2 (_ : cG) (i : Nat) : Nat := 24
def cr2 (g : cG) (i : Nat) : Nat → Int32 := g.2.1 i
def cw2 (g : cG) (i j : Nat) (v : Int32) : cG := (g.1, va_up g.2.1 i (upd (g.2.1 i) j v.toInt8.toInt32), g.2.2)
def cn6 (_ : cG) (i : Nat) : Nat := 48
def cr6 (g : cG) (i : Nat) : Nat → Int32 := g.2.2.2.2.1
def cw6 (g : cG) (i j : Nat) (v : Int32) : cG := (g.1, g.2.1, g.2.2.1, g.2.2.2.1, upd g.2.2.2.2.1 j v.toInt8.toInt32, g.2.2.2.2.2)
def cn8 (_ : cG) (i : Nat) : Nat := cSl i
def cr8 (g : cG) (i : Nat) : Nat → Int32 := g.2.2.2.2.2.2 i
def cw8 (g : cG) (i j : Nat) (v : Int32) : cG := (g.1, g.2.1, g.2.2.1, g.2.2.2.1, g.2.2.2.2.1, g.2.2.2.2.2.1, va_up g.2.2.2.2.2.2 i (upd (g.2.2.2.2.2.2 i) j v))
def cn4 (_ : cG) (_ : Nat) : Nat := 80
def cr4 (_ : cG) (_ j : Nat) : qm_v := qR 3 j
def cn5 (_ : cG) (_ : Nat) : Nat := 8
def cr5 (_ : cG) (_ j : Nat) : qm_v := qR 1 (80 + j)
theorem cce2 {a : Nat} {q : cQ} (g : cG) (i : Nat) (_ : cV 2 i) : c_ce a q g 2 i = .inl (q.1, cn2 g i, .inl (cr2 g i)) := rfl
theorem cce6 {a : Nat} {q : cQ} (g : cG) (i : Nat) (_ : cV 6 i) : c_ce a q g 6 i = .inl (q.1, cn6 g i, .inl (cr6 g i)) := rfl
theorem cce8 {a : Nat} {q : cQ} (g : cG) (i : Nat) (_ : cV 8 i) : c_ce a q g 8 i = .inl (q.2.1, cn8 g i, .inl (cr8 g i)) := rfl
theorem cce4 {a : Nat} {q : cQ} (g : cG) (i : Nat) (_ : cV 4 i) (_ : c_ok g) : ∃ f : Nat → Option Nat, c_ce a q g 4 i = .inl (q.2.2.1, cn4 g i, .inr (.inr (.inr (.inr f)))) ∧ ∀ j, j < cn4 g i → va_rf (f j) = qm_cv (cLa a) (cr4 g i j) ∧ qm_ok cV (cr4 g i j) := ⟨_, rfl, fun j hj => ⟨rfl, hj⟩⟩
theorem cce5 {a : Nat} {q : cQ} (g : cG) (i : Nat) (_ : cV 5 i) (_ : c_ok g) : ∃ f : Nat → Option Nat, c_ce a q g 5 i = .inl (q.2.2.2, cn5 g i, .inr (.inr (.inr (.inr f)))) ∧ ∀ j, j < cn5 g i → va_rf (f j) = qm_cv (cLa a) (cr5 g i j) ∧ qm_ok cV (cr5 g i j) := ⟨_, rfl, fun j hj => ⟨rfl, show 80 + j < 89 from by have : j < 8 := hj; omega⟩⟩
theorem cwr2 (g : cG) (i j : Nat) (v : Int32) (_ : cV 2 i) : cn2 (cw2 g i j v) i = cn2 g i ∧ cr2 (cw2 g i j v) i = upd (cr2 g i) j v.toInt8.toInt32 := ⟨rfl, by show va_up _ i _ i = _; rw [va_up_self]; rfl⟩
theorem cwr6 (g : cG) (i j : Nat) (v : Int32) (_ : cV 6 i) : cn6 (cw6 g i j v) i = cn6 g i ∧ cr6 (cw6 g i j v) i = upd (cr6 g i) j v.toInt8.toInt32 := ⟨rfl, rfl⟩
theorem cwr8 (g : cG) (i j : Nat) (v : Int32) (_ : cV 8 i) : cn8 (cw8 g i j v) i = cn8 g i ∧ cr8 (cw8 g i j v) i = upd (cr8 g i) j v := ⟨rfl, by show va_up _ i _ i = _; rw [va_up_self]; rfl⟩
theorem cok2 {a : Nat} {q : cQ} (g : cG) (i j : Nat) (v : Int32) (_ : cV 2 i) (h : c_ok g) : c_ok (cw2 g i j v) ∧ ∀ k j2, cV k j2 → (k ≠ 2 ∨ j2 ≠ i) → c_ce a q (cw2 g i j v) k j2 = c_ce a q g k j2 := ⟨h, fun k j2 _ hne => ce_uB k j2 hne⟩
theorem cok6 {a : Nat} {q : cQ} (g : cG) (i j : Nat) (v : Int32) (hV : cV 6 i) (h : c_ok g) : c_ok (cw6 g i j v) ∧ ∀ k j2, cV k j2 → (k ≠ 6 ∨ j2 ≠ i) → c_ce a q (cw6 g i j v) k j2 = c_ce a q g k j2 := ⟨h, fun k j2 hv hne => ce_uT k j2 hv (by rw [show i = 0 from hV] at hne; exact hne)⟩
theorem cok8 {a : Nat} {q : cQ} (g : cG) (i j : Nat) (v : Int32) (_ : cV 8 i) (h : c_ok g) : c_ok (cw8 g i j v) ∧ ∀ k j2, cV k j2 → (k ≠ 8 ∨ j2 ≠ i) → c_ce a q (cw8 g i j v) k j2 = c_ce a q g k j2 := ⟨h, fun k j2 _ hne => ce_uA k j2 hne⟩
theorem crc0 {a : Nat} {q : cQ} (g : cG) (i : Nat) (_ : cV 0 i) (_ : c_ok g) : ∃ fs, c_ce a q g 0 i = .inr (3, fs) := ⟨_, rfl⟩
theorem crc1 {a : Nat} {q : cQ} (g : cG) (i : Nat) (_ : cV 1 i) (_ : c_ok g) : ∃ fs, c_ce a q g 1 i = .inr (0, fs) := ⟨_, rfl⟩
theorem crc3 {a : Nat} {q : cQ} (g : cG) (i : Nat) (_ : cV 3 i) (_ : c_ok g) : ∃ fs, c_ce a q g 3 i = .inr (1, fs) := ⟨_, rfl⟩
theorem crc7 {a : Nat} {q : cQ} (g : cG) (i : Nat) (_ : cV 7 i) (_ : c_ok g) : ∃ fs, c_ce a q g 7 i = .inr (2, fs) := ⟨_, rfl⟩
abbrev mR_init : MethodName × List Cond × Room := (yR_init, wsT yR_init prog_1_method_1_code 2 none, rmL 3)
abbrev mR_type : MethodName × List Cond × Room := (yR_type, wsT yR_type prog_1_method_2_code 6 (some .int), rmL 2)
abbrev mR_text : MethodName × List Cond × Room := (yR_text, wsT yR_text prog_1_method_3_code 5 (some .int), rmL 2)
abbrev mR_whole : MethodName × List Cond × Room := (yR_whole, wsT yR_whole prog_1_method_4_code 3 (some .int), rmL 3)
abbrev mR_leaf : MethodName × List Cond × Room := (yR_leaf, wsT yR_leaf prog_1_method_5_code 4 (some .int), rmL 2)
abbrev mR_call : MethodName × List Cond × Room := (yR_call, wsT yR_call prog_1_method_6_code 8 (some .int), rmL 2)
abbrev mR_takes : MethodName × List Cond × Room := (yR_takes, wsT yR_takes prog_1_method_7_code 2 (some .int), rmL 1)
abbrev mR_run : MethodName × List Cond × Room := (yR_run, wsT yR_run prog_1_method_8_code 3 (some .int), rmL 7)
abbrev mR_number : MethodName × List Cond × Room := (yR_number, wsT yR_number prog_1_method_9_code 1 (some .long), rmL 1)
abbrev mR_tag : MethodName × List Cond × Room := (yR_tag, wsT yR_tag prog_1_method_10_code 1 (some .int), rmL 1)
abbrev mR_letter : MethodName × List Cond × Room := (yR_letter, wsT yR_letter prog_1_method_11_code 2 (some .int), rmL 2)
abbrev mR_give : MethodName × List Cond × Room := (yR_give, wsT yR_give prog_1_method_12_code 2 (some .int), rmL 4)
abbrev mR_drop : MethodName × List Cond × Room := (yR_drop, wsT yR_drop prog_1_method_13_code 2 (some .int), rmL 2)
abbrev mR_uses : MethodName × List Cond × Room := (yR_uses, wsT yR_uses prog_1_method_14_code 2 (some .int), rmL 2)
abbrev mR_depth : MethodName × List Cond × Room := (yR_depth, wsT yR_depth prog_1_method_15_code 2 (some .int), rmL 2)
abbrev mR_clear : MethodName × List Cond × Room := (yR_clear, wsT yR_clear prog_1_method_16_code 2 (some .int), rmL 1)
abbrev mR_size : MethodName × List Cond × Room := (yR_size, wsT yR_size prog_1_method_17_code 1 (some .int), rmL 1)
abbrev mR_isExpression : MethodName × List Cond × Room := (yR_isExpression, wsT yR_isExpression prog_1_method_18_code 2 (some .boolean), rmL 1)
abbrev mR_isVariable : MethodName × List Cond × Room := (yR_isVariable, wsT yR_isVariable prog_1_method_19_code 1 (some .boolean), rmL 1)
abbrev mR_isWhole : MethodName × List Cond × Room := (yR_isWhole, wsT yR_isWhole prog_1_method_20_code 2 (some .boolean), rmL 1)
abbrev mR_byteOf : MethodName × List Cond × Room := (yR_byteOf, wsT yR_byteOf prog_1_method_21_code 3 (some .int), rmL 1)
abbrev mR_lastLeaf : MethodName × List Cond × Room := (yR_lastLeaf, wsT yR_lastLeaf prog_1_method_22_code 1 (some .int), rmL 1)
abbrev mR_reckon : MethodName × List Cond × Room := (yR_reckon, wsT yR_reckon prog_1_method_23_code 5 none, rmL 6)
abbrev mC_reckon : MethodName × List Cond × Room := (yC_reckon, wsT yC_reckon prog_2_method_2_code 5 none, rmL 5)
abbrev mC_choose : MethodName × List Cond × Room := (yC_choose, wsT yC_choose prog_2_method_3_code 4 none, rmL 4)
abbrev mC_toNumber : MethodName × List Cond × Room := (yC_toNumber, wsT yC_toNumber prog_2_method_4_code 2 none, rmL 4)
abbrev mC_readDigits : MethodName × List Cond × Room := (yC_readDigits, wsT yC_readDigits prog_2_method_5_code 9 none, rmL 3)
abbrev mC_toWords : MethodName × List Cond × Room := (yC_toWords, wsT yC_toWords prog_2_method_6_code 2 none, rmL 3)
abbrev mC_appendWord : MethodName × List Cond × Room := (yC_appendWord, wsT yC_appendWord prog_2_method_7_code 3 none, rmL 2)
abbrev mE_init : MethodName × List Cond × Room := (yE_init, wsT yE_init prog_3_method_1_code 1 none, rmL 2)
abbrev mE_becomeValue : MethodName × List Cond × Room := (yE_becomeValue, wsT yE_becomeValue prog_3_method_2_code 1 (some (.object "FunctionRows$Value")), rmL 1)
abbrev mE_becomeVariable : MethodName × List Cond × Room := (yE_becomeVariable, wsT yE_becomeVariable prog_3_method_3_code 3 none, rmL 1)
abbrev mE_becomeCall : MethodName × List Cond × Room := (yE_becomeCall, wsT yE_becomeCall prog_3_method_4_code 5 none, rmL 1)
abbrev mE_isCall : MethodName × List Cond × Room := (yE_isCall, wsT yE_isCall prog_3_method_5_code 1 (some .boolean), rmL 1)
abbrev mE_wantOperands : MethodName × List Cond × Room := (yE_wantOperands, wsT yE_wantOperands prog_3_method_6_code 1 none, rmL 2)
abbrev mE_given : MethodName × List Cond × Room := (yE_given, wsT yE_given prog_3_method_7_code 1 (some .int), rmL 2)
abbrev mS_init : MethodName × List Cond × Room := (yS_init, wsT yS_init prog_4_method_1_code 1 none, rmL 1)
abbrev mS_goes : MethodName × List Cond × Room := (yS_goes, wsT yS_goes prog_4_method_2_code 5 (some .int), rmL 5)
abbrev mS_begin : MethodName × List Cond × Room := (yS_begin, wsT yS_begin prog_4_method_3_code 1 none, rmL 2)
abbrev mS_read : MethodName × List Cond × Room := (yS_read, wsT yS_read prog_4_method_4_code 4 (some .boolean), rmL 4)
abbrev mS_openGroup : MethodName × List Cond × Room := (yS_openGroup, wsT yS_openGroup prog_4_method_5_code 1 (some .boolean), rmL 3)
abbrev mS_closeGroup : MethodName × List Cond × Room := (yS_closeGroup, wsT yS_closeGroup prog_4_method_6_code 2 (some .boolean), rmL 3)
abbrev mS_anchor : MethodName × List Cond × Room := (yS_anchor, wsT yS_anchor prog_4_method_7_code 3 (some .boolean), rmL 2)
abbrev mS_atom : MethodName × List Cond × Room := (yS_atom, wsT yS_atom prog_4_method_8_code 5 (some .boolean), rmL 3)
abbrev mS_enter : MethodName × List Cond × Room := (yS_enter, wsT yS_enter prog_4_method_9_code 2 (some .int), rmL 2)
abbrev mS_repeat : MethodName × List Cond × Room := (yS_repeat, wsT yS_repeat prog_4_method_10_code 5 none, rmL 2)
abbrev mS_readEscaped : MethodName × List Cond × Room := (yS_readEscaped, wsT yS_readEscaped prog_4_method_11_code 4 (some .int), rmL 3)
abbrev mS_readItems : MethodName × List Cond × Room := (yS_readItems, wsT yS_readItems prog_4_method_12_code 10 (some .int), rmL 3)
abbrev mS_isItem : MethodName × List Cond × Room := (yS_isItem, wsT yS_isItem prog_4_method_13_code 1 (some .boolean), rmL 1)
abbrev mS_placesOf : MethodName × List Cond × Room := (yS_placesOf, wsT yS_placesOf prog_4_method_14_code 6 (some .int), rmL 2)
abbrev mS_newState : MethodName × List Cond × Room := (yS_newState, wsT yS_newState prog_4_method_15_code 2 (some .int), rmL 1)
abbrev mS_connect : MethodName × List Cond × Room := (yS_connect, wsT yS_connect prog_4_method_16_code 5 none, rmL 1)
abbrev mS_spread : MethodName × List Cond × Room := (yS_spread, wsT yS_spread prog_4_method_17_code 6 none, rmL 1)
abbrev mT_reckon : MethodName × List Cond × Room := (yT_reckon, wsT yT_reckon prog_5_method_2_code 5 none, rmL 5)
abbrev mT_part : MethodName × List Cond × Room := (yT_part, wsT yT_part prog_5_method_3_code 8 none, rmL 3)
abbrev mT_resize : MethodName × List Cond × Room := (yT_resize, wsT yT_resize prog_5_method_4_code 6 none, rmL 2)
abbrev mT_join : MethodName × List Cond × Room := (yT_join, wsT yT_join prog_5_method_5_code 3 none, rmL 3)
abbrev mT_tagLetter : MethodName × List Cond × Room := (yT_tagLetter, wsT yT_tagLetter prog_5_method_6_code 2 none, rmL 2)
abbrev mT_seek : MethodName × List Cond × Room := (yT_seek, wsT yT_seek prog_5_method_7_code 5 none, rmL 4)
abbrev mT_split : MethodName × List Cond × Room := (yT_split, wsT yT_split prog_5_method_8_code 5 none, rmL 3)
abbrev mT_turn : MethodName × List Cond × Room := (yT_turn, wsT yT_turn prog_5_method_9_code 6 none, rmL 3)
abbrev mT_isPlain : MethodName × List Cond × Room := (yT_isPlain, wsT yT_isPlain prog_5_method_10_code 1 (some .boolean), rmL 1)
abbrev mU_reckon : MethodName × List Cond × Room := (yU_reckon, wsT yU_reckon prog_6_method_2_code 4 (some .int), rmL 4)
abbrev mU_of : MethodName × List Cond × Room := (yU_of, wsT yU_of prog_6_method_3_code 1 (some .int), rmL 2)
abbrev mU_truth : MethodName × List Cond × Room := (yU_truth, wsT yU_truth prog_6_method_4_code 1 (some .int), rmL 1)
abbrev mU_other : MethodName × List Cond × Room := (yU_other, wsT yU_other prog_6_method_5_code 1 (some .int), rmL 1)
abbrev mU_both : MethodName × List Cond × Room := (yU_both, wsT yU_both prog_6_method_6_code 2 (some .int), rmL 1)
abbrev mU_either : MethodName × List Cond × Room := (yU_either, wsT yU_either prog_6_method_7_code 2 (some .int), rmL 1)
abbrev mU_same : MethodName × List Cond × Room := (yU_same, wsT yU_same prog_6_method_8_code 2 (some .int), rmL 3)
abbrev mU_less : MethodName × List Cond × Room := (yU_less, wsT yU_less prog_6_method_9_code 2 (some .int), rmL 3)
abbrev mU_isBefore : MethodName × List Cond × Room := (yU_isBefore, wsT yU_isBefore prog_6_method_10_code 3 (some .boolean), rmL 2)
abbrev mV_init : MethodName × List Cond × Room := (yV_init, wsT yV_init prog_7_method_1_code 1 none, rmL 1)
abbrev mV_setError : MethodName × List Cond × Room := (yV_setError, wsT yV_setError prog_7_method_2_code 1 none, rmL 1)
abbrev mV_setTruth : MethodName × List Cond × Room := (yV_setTruth, wsT yV_setTruth prog_7_method_3_code 2 none, rmL 1)
abbrev mV_setWhole : MethodName × List Cond × Room := (yV_setWhole, wsT yV_setWhole prog_7_method_4_code 3 none, rmL 2)
abbrev mV_setNode : MethodName × List Cond × Room := (yV_setNode, wsT yV_setNode prog_7_method_5_code 2 none, rmL 1)
abbrev mV_startText : MethodName × List Cond × Room := (yV_startText, wsT yV_startText prog_7_method_6_code 2 none, rmL 1)
abbrev mV_append : MethodName × List Cond × Room := (yV_append, wsT yV_append prog_7_method_7_code 2 none, rmL 1)
abbrev mV_appendPart : MethodName × List Cond × Room := (yV_appendPart, wsT yV_appendPart prog_7_method_8_code 6 none, rmL 2)
abbrev mV_appendDigits : MethodName × List Cond × Room := (yV_appendDigits, wsT yV_appendDigits prog_7_method_9_code 6 none, rmL 2)
abbrev mV_at : MethodName × List Cond × Room := (yV_at, wsT yV_at prog_7_method_10_code 2 (some .int), rmL 1)
abbrev mV_copy : MethodName × List Cond × Room := (yV_copy, wsT yV_copy prog_7_method_11_code 2 none, rmL 3)
abbrev mV_hasAt : MethodName × List Cond × Room := (yV_hasAt, wsT yV_hasAt prog_7_method_12_code 4 (some .boolean), rmL 2)
abbrev mV_find : MethodName × List Cond × Room := (yV_find, wsT yV_find prog_7_method_13_code 3 (some .int), rmL 3)
abbrev mH_reckon : MethodName × List Cond × Room := (yH_reckon, wsT yH_reckon prog_8_method_2_code 4 none, rmL 4)
abbrev mH_multiply : MethodName × List Cond × Room := (yH_multiply, wsT yH_multiply prog_8_method_3_code 7 none, rmL 3)
abbrev mH_divide : MethodName × List Cond × Room := (yH_divide, wsT yH_divide prog_8_method_4_code 6 none, rmL 3)
def qm_Nx (E : cEnv) : Prop := ∀ (s : State) (H : Heap), E.2.2.2.2 s H → va_Nw (.methodLinkNest "FunctionRows$Value" 23 yR_isWhole "FunctionRows") s
theorem klR_122 : Cond.constantLong "FunctionRows" 122 (-2) ∈ gw_tbl := tb_T3 (i := 76) (by decide +kernel) (by decide +kernel)
theorem klR_149 : Cond.constantLong "FunctionRows" 149 (-1000000000000000) ∈ gw_tbl := tb_T1 (i := 217) (by decide +kernel) (by decide +kernel)
theorem klR_151 : Cond.constantLong "FunctionRows" 151 (1000000000000000) ∈ gw_tbl := tb_T1 (i := 218) (by decide +kernel) (by decide +kernel)
theorem mlE_44 : Cond.methodLink "FunctionRows$Expression" 44 Lib.Math.max.name ∈ gw_tbl := tb_T2 (i := 21) rfl rfl
theorem ms_imax : Cond.static Lib.Math.max.name ∈ gw_tbl := tb_T2 (i := 22) rfl rfl
theorem mc_imax : Cond.code Lib.Math.max.name Lib.Math.max.code 2 (some .int) ∈ gw_tbl := tb_T2 (i := 23) rfl rfl
theorem mi_math : Cond.initialized "java/lang/Math" ∈ gw_tbl := tb_T1 (i := 6) (by decide +kernel) (by decide +kernel)
theorem mlS_134 : Cond.methodLink "FunctionRows$Search" 134 Lib.Math.min.name ∈ gw_tbl := tb_T2 (i := 64) rfl rfl
theorem ms_imin : Cond.static Lib.Math.min.name ∈ gw_tbl := tb_T2 (i := 65) rfl rfl
theorem mc_imin : Cond.code Lib.Math.min.name Lib.Math.min.code 2 (some .int) ∈ gw_tbl := tb_T2 (i := 66) rfl rfl
theorem inR : Cond.initialized "FunctionRows" ∈ gw_tbl := tb_T1 (i := 1) (by decide +kernel) (by decide +kernel)
theorem mlR_38 : Cond.methodLink "FunctionRows" 38 yR_byteOf ∈ gw_tbl := tb_T1 (i := 191) rfl rfl
theorem stR_byteOf : Cond.static yR_byteOf ∈ gw_tbl := tb_T1 (i := 192) rfl rfl
theorem inE : Cond.initialized "FunctionRows$Expression" ∈ gw_tbl := tb_T1 (i := 4) (by decide +kernel) (by decide +kernel)
theorem mlR_49 : Cond.methodLink "FunctionRows" 49 yE_becomeValue ∈ gw_tbl := tb_T1 (i := 198) rfl rfl
theorem imE_becomeValue : Cond.instanceMethod yE_becomeValue ∈ gw_tbl := tb_T1 (i := 199) rfl rfl
theorem seE_becomeValue : Cond.selects "FunctionRows$Expression" yE_becomeValue yE_becomeValue ∈ gw_tbl := tb_T1 (i := 200) rfl rfl
theorem inV : Cond.initialized "FunctionRows$Value" ∈ gw_tbl := tb_T1 (i := 2) (by decide +kernel) (by decide +kernel)
theorem mlR_53 : Cond.methodLink "FunctionRows" 53 yV_startText ∈ gw_tbl := tb_T1 (i := 202) rfl rfl
theorem imV_startText : Cond.instanceMethod yV_startText ∈ gw_tbl := tb_T1 (i := 203) rfl rfl
theorem seV_startText : Cond.selects "FunctionRows$Value" yV_startText yV_startText ∈ gw_tbl := tb_T1 (i := 204) rfl rfl
theorem mlR_57 : Cond.methodLink "FunctionRows" 57 yV_append ∈ gw_tbl := tb_T1 (i := 206) rfl rfl
theorem imV_append : Cond.instanceMethod yV_append ∈ gw_tbl := tb_T1 (i := 207) rfl rfl
theorem seV_append : Cond.selects "FunctionRows$Value" yV_append yV_append ∈ gw_tbl := tb_T1 (i := 208) rfl rfl
theorem mlR_68 : Cond.methodLink "FunctionRows" 68 yR_lastLeaf ∈ gw_tbl := tb_T1 (i := 228) rfl rfl
theorem stR_lastLeaf : Cond.static yR_lastLeaf ∈ gw_tbl := tb_T1 (i := 229) rfl rfl
theorem mlR_72 : Cond.methodLink "FunctionRows" 72 yE_becomeVariable ∈ gw_tbl := tb_T1 (i := 231) rfl rfl
theorem imE_becomeVariable : Cond.instanceMethod yE_becomeVariable ∈ gw_tbl := tb_T1 (i := 232) rfl rfl
theorem seE_becomeVariable : Cond.selects "FunctionRows$Expression" yE_becomeVariable yE_becomeVariable ∈ gw_tbl := tb_T1 (i := 233) rfl rfl
theorem mlR_76 : Cond.methodLink "FunctionRows" 76 yV_setTruth ∈ gw_tbl := tb_T1 (i := 235) rfl rfl
theorem imV_setTruth : Cond.instanceMethod yV_setTruth ∈ gw_tbl := tb_T1 (i := 236) rfl rfl
theorem seV_setTruth : Cond.selects "FunctionRows$Value" yV_setTruth yV_setTruth ∈ gw_tbl := tb_T1 (i := 237) rfl rfl
theorem mlR_79 : Cond.methodLink "FunctionRows" 79 yV_setNode ∈ gw_tbl := tb_T1 (i := 239) rfl rfl
theorem imV_setNode : Cond.instanceMethod yV_setNode ∈ gw_tbl := tb_T2 (i := 0) rfl rfl
theorem seV_setNode : Cond.selects "FunctionRows$Value" yV_setNode yV_setNode ∈ gw_tbl := tb_T2 (i := 1) rfl rfl
theorem mlR_82 : Cond.methodLink "FunctionRows" 82 yR_takes ∈ gw_tbl := tb_T2 (i := 7) rfl rfl
theorem imR_takes : Cond.instanceMethod yR_takes ∈ gw_tbl := tb_T2 (i := 8) rfl rfl
theorem seR_takes : Cond.selects "FunctionRows" yR_takes yR_takes ∈ gw_tbl := tb_T2 (i := 9) rfl rfl
theorem mlR_85 : Cond.methodLink "FunctionRows" 85 yR_isExpression ∈ gw_tbl := tb_T2 (i := 13) rfl rfl
theorem imR_isExpression : Cond.instanceMethod yR_isExpression ∈ gw_tbl := tb_T2 (i := 15) rfl rfl
theorem seR_isExpression : Cond.selects "FunctionRows" yR_isExpression yR_isExpression ∈ gw_tbl := tb_S (i := 0) rfl rfl
theorem mlR_89 : Cond.methodLink "FunctionRows" 89 yE_becomeCall ∈ gw_tbl := tb_T2 (i := 17) rfl rfl
theorem imE_becomeCall : Cond.instanceMethod yE_becomeCall ∈ gw_tbl := tb_T2 (i := 18) rfl rfl
theorem seE_becomeCall : Cond.selects "FunctionRows$Expression" yE_becomeCall yE_becomeCall ∈ gw_tbl := tb_T2 (i := 19) rfl rfl
theorem mlR_134 : Cond.methodLink "FunctionRows" 134 yV_at ∈ gw_tbl := tb_T3 (i := 85) rfl rfl
theorem imV_at : Cond.instanceMethod yV_at ∈ gw_tbl := tb_T2 (i := 72) rfl rfl
theorem seV_at : Cond.selects "FunctionRows$Value" yV_at yV_at ∈ gw_tbl := tb_T2 (i := 73) rfl rfl
theorem mlR_137 : Cond.methodLink "FunctionRows" 137 yR_isVariable ∈ gw_tbl := tb_T3 (i := 90) rfl rfl
theorem stR_isVariable : Cond.static yR_isVariable ∈ gw_tbl := tb_T3 (i := 91) rfl rfl
theorem mlR_140 : Cond.methodLink "FunctionRows" 140 yV_setError ∈ gw_tbl := tb_T3 (i := 97) rfl rfl
theorem imV_setError : Cond.instanceMethod yV_setError ∈ gw_tbl := tb_T2 (i := 126) rfl rfl
theorem seV_setError : Cond.selects "FunctionRows$Value" yV_setError yV_setError ∈ gw_tbl := tb_T2 (i := 127) rfl rfl
theorem mlE_50 : Cond.methodLink "FunctionRows$Expression" 50 yE_isCall ∈ gw_tbl := tb_T2 (i := 33) rfl rfl
theorem imE_isCall : Cond.instanceMethod yE_isCall ∈ gw_tbl := tb_T2 (i := 34) rfl rfl
theorem seE_isCall : Cond.selects "FunctionRows$Expression" yE_isCall yE_isCall ∈ gw_tbl := tb_T2 (i := 35) rfl rfl
theorem inU : Cond.initialized "FunctionRows$Truths" ∈ gw_tbl := tb_T1 (i := 7) (by decide +kernel) (by decide +kernel)
theorem mlE_61 : Cond.methodLink "FunctionRows$Expression" 61 yU_truth ∈ gw_tbl := tb_T2 (i := 46) rfl rfl
theorem stU_truth : Cond.static yU_truth ∈ gw_tbl := tb_T2 (i := 47) rfl rfl
theorem inS : Cond.initialized "FunctionRows$Search" ∈ gw_tbl := tb_T1 (i := 3) (by decide +kernel) (by decide +kernel)
theorem mlS_87 : Cond.methodLink "FunctionRows$Search" 87 yS_newState ∈ gw_tbl := tb_T2 (i := 60) rfl rfl
theorem imS_newState : Cond.instanceMethod yS_newState ∈ gw_tbl := tb_T2 (i := 62) rfl rfl
theorem seS_newState : Cond.selects "FunctionRows$Search" yS_newState yS_newState ∈ gw_tbl := tb_S (i := 3) rfl rfl
theorem mlS_67 : Cond.methodLink "FunctionRows$Search" 67 yS_connect ∈ gw_tbl := tb_T2 (i := 83) rfl rfl
theorem imS_connect : Cond.instanceMethod yS_connect ∈ gw_tbl := tb_T2 (i := 85) rfl rfl
theorem seS_connect : Cond.selects "FunctionRows$Search" yS_connect yS_connect ∈ gw_tbl := tb_S (i := 7) rfl rfl
theorem mlS_94 : Cond.methodLink "FunctionRows$Search" 94 yV_at ∈ gw_tbl := tb_T2 (i := 71) rfl rfl
theorem mlT_66 : Cond.methodLink "FunctionRows$Texts" 66 yV_startText ∈ gw_tbl := tb_T2 (i := 154) rfl rfl
theorem mlT_74 : Cond.methodLink "FunctionRows$Texts" 74 yV_at ∈ gw_tbl := tb_T2 (i := 166) rfl rfl
theorem mlT_78 : Cond.methodLink "FunctionRows$Texts" 78 yV_append ∈ gw_tbl := tb_T2 (i := 167) rfl rfl
theorem mlU_43 : Cond.methodLink "FunctionRows$Truths" 43 yU_truth ∈ gw_tbl := tb_T2 (i := 206) rfl rfl
theorem mlU_61 : Cond.methodLink "FunctionRows$Truths" 61 yV_at ∈ gw_tbl := tb_T3 (i := 70) rfl rfl
theorem stR_isWhole : Cond.static yR_isWhole ∈ gw_tbl := tb_T1 (i := 215) rfl rfl
theorem mlV_33 : Cond.methodLink "FunctionRows$Value" 33 Lib.Math.min.name ∈ gw_tbl := tb_T2 (i := 159) rfl rfl
theorem mlV_39 : Cond.methodLink "FunctionRows$Value" 39 Lib.Math.max.name ∈ gw_tbl := tb_T2 (i := 160) rfl rfl
theorem mlV_42 : Cond.methodLink "FunctionRows$Value" 42 yV_at ∈ gw_tbl := tb_T2 (i := 161) rfl rfl
theorem mlV_46 : Cond.methodLink "FunctionRows$Value" 46 yV_append ∈ gw_tbl := tb_T2 (i := 162) rfl rfl
theorem klV_50 : Cond.constantLong "FunctionRows$Value" 50 (10) ∈ gw_tbl := tb_T3 (i := 46) (by decide +kernel) (by decide +kernel)
theorem mlR_60 : Cond.methodLink "FunctionRows" 60 yR_isWhole ∈ gw_tbl := tb_T1 (i := 214) rfl rfl
theorem mlR_64 : Cond.methodLink "FunctionRows" 64 yV_setWhole ∈ gw_tbl := tb_T1 (i := 219) rfl rfl
theorem imV_setWhole : Cond.instanceMethod yV_setWhole ∈ gw_tbl := tb_T1 (i := 220) rfl rfl
theorem seV_setWhole : Cond.selects "FunctionRows$Value" yV_setWhole yV_setWhole ∈ gw_tbl := tb_T1 (i := 221) rfl rfl
theorem mlC_58 : Cond.methodLink "FunctionRows$Casts" 58 yV_at ∈ gw_tbl := tb_T2 (i := 219) rfl rfl
theorem klC_65 : Cond.constantLong "FunctionRows$Casts" 65 (10) ∈ gw_tbl := tb_T2 (i := 220) (by decide +kernel) (by decide +kernel)
theorem klC_67 : Cond.constantLong "FunctionRows$Casts" 67 (48) ∈ gw_tbl := tb_T2 (i := 221) (by decide +kernel) (by decide +kernel)
theorem mlC_34 : Cond.methodLink "FunctionRows$Casts" 34 yV_setWhole ∈ gw_tbl := tb_T2 (i := 211) rfl rfl
theorem mlC_31 : Cond.methodLink "FunctionRows$Casts" 31 yV_setError ∈ gw_tbl := tb_T2 (i := 210) rfl rfl
theorem mlS_124 : Cond.methodLink "FunctionRows$Search" 124 yS_enter ∈ gw_tbl := tb_T2 (i := 79) rfl rfl
theorem imS_enter : Cond.instanceMethod yS_enter ∈ gw_tbl := tb_T2 (i := 81) rfl rfl
theorem seS_enter : Cond.selects "FunctionRows$Search" yS_enter yS_enter ∈ gw_tbl := tb_S (i := 6) rfl rfl
theorem mlS_127 : Cond.methodLink "FunctionRows$Search" 127 yS_repeat ∈ gw_tbl := tb_T2 (i := 91) rfl rfl
theorem imS_repeat : Cond.instanceMethod yS_repeat ∈ gw_tbl := tb_T2 (i := 93) rfl rfl
theorem seS_repeat : Cond.selects "FunctionRows$Search" yS_repeat yS_repeat ∈ gw_tbl := tb_S (i := 9) rfl rfl
theorem mlS_109 : Cond.methodLink "FunctionRows$Search" 109 yS_placesOf ∈ gw_tbl := tb_T2 (i := 99) rfl rfl
theorem stS_placesOf : Cond.static yS_placesOf ∈ gw_tbl := tb_T2 (i := 100) rfl rfl
theorem mlS_131 : Cond.methodLink "FunctionRows$Search" 131 yS_isItem ∈ gw_tbl := tb_T2 (i := 110) rfl rfl
theorem stS_isItem : Cond.static yS_isItem ∈ gw_tbl := tb_T2 (i := 111) rfl rfl
theorem mlT_15 : Cond.methodLink "FunctionRows$Texts" 15 yV_setError ∈ gw_tbl := tb_T2 (i := 143) rfl rfl
theorem mlT_54 : Cond.methodLink "FunctionRows$Texts" 54 Lib.MathLoose.max_long.x ∈ gw_tbl := tb_T2 (i := 148) rfl rfl
theorem ms_lmax : Cond.static Lib.MathLoose.max_long.x ∈ gw_tbl := tb_T2 (i := 149) rfl rfl
theorem mc_lmax : Cond.code Lib.MathLoose.max_long.x Lib.MathLoose.max_long.code 4 (some .long) ∈ gw_tbl := tb_T2 (i := 150) rfl rfl
theorem mlT_60 : Cond.methodLink "FunctionRows$Texts" 60 Lib.MathLoose.min_long.x ∈ gw_tbl := tb_T2 (i := 151) rfl rfl
theorem ms_lmin : Cond.static Lib.MathLoose.min_long.x ∈ gw_tbl := tb_T2 (i := 152) rfl rfl
theorem mc_lmin : Cond.code Lib.MathLoose.min_long.x Lib.MathLoose.min_long.code 4 (some .long) ∈ gw_tbl := tb_T2 (i := 153) rfl rfl
theorem mlT_70 : Cond.methodLink "FunctionRows$Texts" 70 yV_appendPart ∈ gw_tbl := tb_T2 (i := 155) rfl rfl
theorem imV_appendPart : Cond.instanceMethod yV_appendPart ∈ gw_tbl := tb_T2 (i := 156) rfl rfl
theorem seV_appendPart : Cond.selects "FunctionRows$Value" yV_appendPart yV_appendPart ∈ gw_tbl := tb_T2 (i := 157) rfl rfl
theorem inT : Cond.initialized "FunctionRows$Texts" ∈ gw_tbl := tb_T1 (i := 8) (by decide +kernel) (by decide +kernel)
theorem mlT_102 : Cond.methodLink "FunctionRows$Texts" 102 yT_isPlain ∈ gw_tbl := tb_T2 (i := 177) rfl rfl
theorem stT_isPlain : Cond.static yT_isPlain ∈ gw_tbl := tb_T2 (i := 54) rfl rfl
theorem mlT_94 : Cond.methodLink "FunctionRows$Texts" 94 yV_hasAt ∈ gw_tbl := tb_T2 (i := 178) rfl rfl
theorem imV_hasAt : Cond.instanceMethod yV_hasAt ∈ gw_tbl := tb_T2 (i := 179) rfl rfl
theorem seV_hasAt : Cond.selects "FunctionRows$Value" yV_hasAt yV_hasAt ∈ gw_tbl := tb_T2 (i := 180) rfl rfl
theorem mlU_53 : Cond.methodLink "FunctionRows$Truths" 53 yV_hasAt ∈ gw_tbl := tb_T3 (i := 63) rfl rfl
theorem mlU_57 : Cond.methodLink "FunctionRows$Truths" 57 yU_isBefore ∈ gw_tbl := tb_T3 (i := 67) rfl rfl
theorem stU_isBefore : Cond.static yU_isBefore ∈ gw_tbl := tb_T3 (i := 68) rfl rfl
theorem mlV_52 : Cond.methodLink "FunctionRows$Value" 52 yV_appendPart ∈ gw_tbl := tb_T2 (i := 202) rfl rfl
theorem mlV_56 : Cond.methodLink "FunctionRows$Value" 56 yV_hasAt ∈ gw_tbl := tb_T2 (i := 189) rfl rfl
theorem mlH_36 : Cond.methodLink "FunctionRows$Wholes" 36 Lib.MathLoose.abs_long.x ∈ gw_tbl := tb_T2 (i := 133) rfl rfl
theorem ms_labs : Cond.static Lib.MathLoose.abs_long.x ∈ gw_tbl := tb_T2 (i := 134) rfl rfl
theorem mc_labs : Cond.code Lib.MathLoose.abs_long.x Lib.MathLoose.abs_long.code 2 (some .long) ∈ gw_tbl := tb_T2 (i := 135) rfl rfl
theorem klH_42 : Cond.constantLong "FunctionRows$Wholes" 42 (1000000000000000) ∈ gw_tbl := tb_T2 (i := 136) (by decide +kernel) (by decide +kernel)
theorem mlH_15 : Cond.methodLink "FunctionRows$Wholes" 15 yV_setError ∈ gw_tbl := tb_T2 (i := 125) rfl rfl
theorem mlH_22 : Cond.methodLink "FunctionRows$Wholes" 22 yV_setWhole ∈ gw_tbl := tb_T2 (i := 129) rfl rfl
theorem mlR_115 : Cond.methodLink "FunctionRows" 115 yV_copy ∈ gw_tbl := tb_T3 (i := 71) rfl rfl
theorem imV_copy : Cond.instanceMethod yV_copy ∈ gw_tbl := tb_T2 (i := 199) rfl rfl
theorem seV_copy : Cond.selects "FunctionRows$Value" yV_copy yV_copy ∈ gw_tbl := tb_T2 (i := 200) rfl rfl
theorem mlC_15 : Cond.methodLink "FunctionRows$Casts" 15 yV_copy ∈ gw_tbl := tb_T2 (i := 198) rfl rfl
theorem mlC_49 : Cond.methodLink "FunctionRows$Casts" 49 yT_isPlain ∈ gw_tbl := tb_T2 (i := 215) rfl rfl
theorem inC : Cond.initialized "FunctionRows$Casts" ∈ gw_tbl := tb_T1 (i := 10) (by decide +kernel) (by decide +kernel)
theorem mlC_55 : Cond.methodLink "FunctionRows$Casts" 55 yC_readDigits ∈ gw_tbl := tb_T2 (i := 216) rfl rfl
theorem stC_readDigits : Cond.static yC_readDigits ∈ gw_tbl := tb_T2 (i := 217) rfl rfl
theorem mlS_98 : Cond.methodLink "FunctionRows$Search" 98 yS_openGroup ∈ gw_tbl := tb_T2 (i := 75) rfl rfl
theorem imS_openGroup : Cond.instanceMethod yS_openGroup ∈ gw_tbl := tb_T2 (i := 77) rfl rfl
theorem seS_openGroup : Cond.selects "FunctionRows$Search" yS_openGroup yS_openGroup ∈ gw_tbl := tb_S (i := 5) rfl rfl
theorem mlS_102 : Cond.methodLink "FunctionRows$Search" 102 yS_closeGroup ∈ gw_tbl := tb_T2 (i := 87) rfl rfl
theorem imS_closeGroup : Cond.instanceMethod yS_closeGroup ∈ gw_tbl := tb_T2 (i := 89) rfl rfl
theorem seS_closeGroup : Cond.selects "FunctionRows$Search" yS_closeGroup yS_closeGroup ∈ gw_tbl := tb_S (i := 8) rfl rfl
theorem mlS_105 : Cond.methodLink "FunctionRows$Search" 105 yS_anchor ∈ gw_tbl := tb_T2 (i := 95) rfl rfl
theorem imS_anchor : Cond.instanceMethod yS_anchor ∈ gw_tbl := tb_T2 (i := 97) rfl rfl
theorem seS_anchor : Cond.selects "FunctionRows$Search" yS_anchor yS_anchor ∈ gw_tbl := tb_S (i := 10) rfl rfl
theorem mlS_113 : Cond.methodLink "FunctionRows$Search" 113 yS_atom ∈ gw_tbl := tb_T2 (i := 102) rfl rfl
theorem imS_atom : Cond.instanceMethod yS_atom ∈ gw_tbl := tb_T2 (i := 104) rfl rfl
theorem seS_atom : Cond.selects "FunctionRows$Search" yS_atom yS_atom ∈ gw_tbl := tb_S (i := 11) rfl rfl
theorem mlS_117 : Cond.methodLink "FunctionRows$Search" 117 yS_readItems ∈ gw_tbl := tb_T2 (i := 106) rfl rfl
theorem imS_readItems : Cond.instanceMethod yS_readItems ∈ gw_tbl := tb_T2 (i := 108) rfl rfl
theorem seS_readItems : Cond.selects "FunctionRows$Search" yS_readItems yS_readItems ∈ gw_tbl := tb_S (i := 12) rfl rfl
theorem mlS_121 : Cond.methodLink "FunctionRows$Search" 121 yS_readEscaped ∈ gw_tbl := tb_T2 (i := 113) rfl rfl
theorem imS_readEscaped : Cond.instanceMethod yS_readEscaped ∈ gw_tbl := tb_T2 (i := 115) rfl rfl
theorem seS_readEscaped : Cond.selects "FunctionRows$Search" yS_readEscaped yS_readEscaped ∈ gw_tbl := tb_S (i := 13) rfl rfl
theorem mlT_81 : Cond.methodLink "FunctionRows$Texts" 81 yV_find ∈ gw_tbl := tb_T2 (i := 185) rfl rfl
theorem imV_find : Cond.instanceMethod yV_find ∈ gw_tbl := tb_T2 (i := 186) rfl rfl
theorem seV_find : Cond.selects "FunctionRows$Value" yV_find yV_find ∈ gw_tbl := tb_T2 (i := 187) rfl rfl
theorem mlT_85 : Cond.methodLink "FunctionRows$Texts" 85 yU_truth ∈ gw_tbl := tb_T2 (i := 190) rfl rfl
theorem mlT_91 : Cond.methodLink "FunctionRows$Texts" 91 yV_setTruth ∈ gw_tbl := tb_T2 (i := 191) rfl rfl
theorem mlT_98 : Cond.methodLink "FunctionRows$Texts" 98 yT_split ∈ gw_tbl := tb_T2 (i := 192) rfl rfl
theorem stT_split : Cond.static yT_split ∈ gw_tbl := tb_T2 (i := 193) rfl rfl
theorem mlU_9 : Cond.methodLink "FunctionRows$Truths" 9 yU_of ∈ gw_tbl := tb_T3 (i := 50) rfl rfl
theorem stU_of : Cond.static yU_of ∈ gw_tbl := tb_T2 (i := 204) rfl rfl
theorem mlU_15 : Cond.methodLink "FunctionRows$Truths" 15 yU_other ∈ gw_tbl := tb_T3 (i := 51) rfl rfl
theorem stU_other : Cond.static yU_other ∈ gw_tbl := tb_T3 (i := 52) rfl rfl
theorem mlU_19 : Cond.methodLink "FunctionRows$Truths" 19 yU_both ∈ gw_tbl := tb_T3 (i := 54) rfl rfl
theorem stU_both : Cond.static yU_both ∈ gw_tbl := tb_T3 (i := 55) rfl rfl
theorem mlU_23 : Cond.methodLink "FunctionRows$Truths" 23 yU_either ∈ gw_tbl := tb_T3 (i := 57) rfl rfl
theorem stU_either : Cond.static yU_either ∈ gw_tbl := tb_T3 (i := 58) rfl rfl
theorem mlU_26 : Cond.methodLink "FunctionRows$Truths" 26 yU_same ∈ gw_tbl := tb_T3 (i := 60) rfl rfl
theorem stU_same : Cond.static yU_same ∈ gw_tbl := tb_T3 (i := 61) rfl rfl
theorem mlU_30 : Cond.methodLink "FunctionRows$Truths" 30 yU_less ∈ gw_tbl := tb_T3 (i := 64) rfl rfl
theorem stU_less : Cond.static yU_less ∈ gw_tbl := tb_T3 (i := 65) rfl rfl
theorem inH : Cond.initialized "FunctionRows$Wholes" ∈ gw_tbl := tb_T1 (i := 9) (by decide +kernel) (by decide +kernel)
theorem mlH_26 : Cond.methodLink "FunctionRows$Wholes" 26 yH_multiply ∈ gw_tbl := tb_T2 (i := 130) rfl rfl
theorem stH_multiply : Cond.static yH_multiply ∈ gw_tbl := tb_T2 (i := 131) rfl rfl
theorem mlH_32 : Cond.methodLink "FunctionRows$Wholes" 32 yH_divide ∈ gw_tbl := tb_T2 (i := 137) rfl rfl
theorem stH_divide : Cond.static yH_divide ∈ gw_tbl := tb_T2 (i := 138) rfl rfl
theorem mlC_19 : Cond.methodLink "FunctionRows$Casts" 19 yU_of ∈ gw_tbl := tb_T2 (i := 203) rfl rfl
theorem mlC_25 : Cond.methodLink "FunctionRows$Casts" 25 yC_choose ∈ gw_tbl := tb_T2 (i := 207) rfl rfl
theorem stC_choose : Cond.static yC_choose ∈ gw_tbl := tb_T2 (i := 208) rfl rfl
theorem mlC_38 : Cond.methodLink "FunctionRows$Casts" 38 yC_toNumber ∈ gw_tbl := tb_T2 (i := 212) rfl rfl
theorem stC_toNumber : Cond.static yC_toNumber ∈ gw_tbl := tb_T2 (i := 213) rfl rfl
theorem mlC_42 : Cond.methodLink "FunctionRows$Casts" 42 yC_toWords ∈ gw_tbl := tb_T2 (i := 222) rfl rfl
theorem stC_toWords : Cond.static yC_toWords ∈ gw_tbl := tb_T2 (i := 223) rfl rfl
theorem mlS_39 : Cond.methodLink "FunctionRows$Search" 39 yT_isPlain ∈ gw_tbl := tb_T2 (i := 53) rfl rfl
theorem mlS_45 : Cond.methodLink "FunctionRows$Search" 45 yS_begin ∈ gw_tbl := tb_T2 (i := 56) rfl rfl
theorem imS_begin : Cond.instanceMethod yS_begin ∈ gw_tbl := tb_T2 (i := 58) rfl rfl
theorem seS_begin : Cond.selects "FunctionRows$Search" yS_begin yS_begin ∈ gw_tbl := tb_S (i := 2) rfl rfl
theorem mlS_54 : Cond.methodLink "FunctionRows$Search" 54 yS_read ∈ gw_tbl := tb_T2 (i := 67) rfl rfl
theorem imS_read : Cond.instanceMethod yS_read ∈ gw_tbl := tb_T2 (i := 69) rfl rfl
theorem seS_read : Cond.selects "FunctionRows$Search" yS_read yS_read ∈ gw_tbl := tb_S (i := 4) rfl rfl
theorem mlS_71 : Cond.methodLink "FunctionRows$Search" 71 yS_spread ∈ gw_tbl := tb_T2 (i := 117) rfl rfl
theorem imS_spread : Cond.instanceMethod yS_spread ∈ gw_tbl := tb_T2 (i := 119) rfl rfl
theorem seS_spread : Cond.selects "FunctionRows$Search" yS_spread yS_spread ∈ gw_tbl := tb_S (i := 14) rfl rfl
theorem mlS_75 : Cond.methodLink "FunctionRows$Search" 75 yU_truth ∈ gw_tbl := tb_T2 (i := 121) rfl rfl
theorem mlT_21 : Cond.methodLink "FunctionRows$Texts" 21 yV_setWhole ∈ gw_tbl := tb_T2 (i := 144) rfl rfl
theorem mlT_25 : Cond.methodLink "FunctionRows$Texts" 25 yT_part ∈ gw_tbl := tb_T2 (i := 145) rfl rfl
theorem stT_part : Cond.static yT_part ∈ gw_tbl := tb_T2 (i := 146) rfl rfl
theorem mlT_31 : Cond.methodLink "FunctionRows$Texts" 31 yT_resize ∈ gw_tbl := tb_T2 (i := 163) rfl rfl
theorem stT_resize : Cond.static yT_resize ∈ gw_tbl := tb_T2 (i := 164) rfl rfl
theorem mlT_35 : Cond.methodLink "FunctionRows$Texts" 35 yT_join ∈ gw_tbl := tb_T2 (i := 168) rfl rfl
theorem stT_join : Cond.static yT_join ∈ gw_tbl := tb_T2 (i := 169) rfl rfl
theorem mlT_39 : Cond.methodLink "FunctionRows$Texts" 39 yT_tagLetter ∈ gw_tbl := tb_T2 (i := 171) rfl rfl
theorem stT_tagLetter : Cond.static yT_tagLetter ∈ gw_tbl := tb_T2 (i := 172) rfl rfl
theorem mlT_43 : Cond.methodLink "FunctionRows$Texts" 43 yT_turn ∈ gw_tbl := tb_T2 (i := 174) rfl rfl
theorem stT_turn : Cond.static yT_turn ∈ gw_tbl := tb_T2 (i := 175) rfl rfl
theorem mlT_46 : Cond.methodLink "FunctionRows$Texts" 46 yT_seek ∈ gw_tbl := tb_T2 (i := 182) rfl rfl
theorem stT_seek : Cond.static yT_seek ∈ gw_tbl := tb_T2 (i := 183) rfl rfl
theorem mlR_166 : Cond.methodLink "FunctionRows" 166 yE_given ∈ gw_tbl := tb_T2 (i := 42) rfl rfl
theorem imE_given : Cond.instanceMethod yE_given ∈ gw_tbl := tb_T2 (i := 43) rfl rfl
theorem seE_given : Cond.selects "FunctionRows$Expression" yE_given yE_given ∈ gw_tbl := tb_T2 (i := 44) rfl rfl
theorem mlR_170 : Cond.methodLink "FunctionRows" 170 yS_goes ∈ gw_tbl := tb_T2 (i := 49) rfl rfl
theorem imS_goes : Cond.instanceMethod yS_goes ∈ gw_tbl := tb_T2 (i := 50) rfl rfl
theorem seS_goes : Cond.selects "FunctionRows$Search" yS_goes yS_goes ∈ gw_tbl := tb_T2 (i := 51) rfl rfl
theorem mlR_174 : Cond.methodLink "FunctionRows" 174 yH_reckon ∈ gw_tbl := tb_T2 (i := 122) rfl rfl
theorem stH_reckon : Cond.static yH_reckon ∈ gw_tbl := tb_T2 (i := 123) rfl rfl
theorem mlR_179 : Cond.methodLink "FunctionRows" 179 yT_reckon ∈ gw_tbl := tb_T2 (i := 140) rfl rfl
theorem stT_reckon : Cond.static yT_reckon ∈ gw_tbl := tb_T2 (i := 141) rfl rfl
theorem mlR_184 : Cond.methodLink "FunctionRows" 184 yC_reckon ∈ gw_tbl := tb_T2 (i := 195) rfl rfl
theorem stC_reckon : Cond.static yC_reckon ∈ gw_tbl := tb_T2 (i := 196) rfl rfl
theorem mlR_187 : Cond.methodLink "FunctionRows" 187 yU_reckon ∈ gw_tbl := tb_T3 (i := 47) rfl rfl
theorem stU_reckon : Cond.static yU_reckon ∈ gw_tbl := tb_T3 (i := 48) rfl rfl
theorem mlR_101 : Cond.methodLink "FunctionRows" 101 yE_wantOperands ∈ gw_tbl := tb_T2 (i := 29) rfl rfl
theorem imE_wantOperands : Cond.instanceMethod yE_wantOperands ∈ gw_tbl := tb_T2 (i := 30) rfl rfl
theorem seE_wantOperands : Cond.selects "FunctionRows$Expression" yE_wantOperands yE_wantOperands ∈ gw_tbl := tb_T2 (i := 31) rfl rfl
theorem mlR_104 : Cond.methodLink "FunctionRows" 104 yE_isCall ∈ gw_tbl := tb_T2 (i := 37) rfl rfl
theorem mlR_108 : Cond.methodLink "FunctionRows" 108 yR_reckon ∈ gw_tbl := tb_T2 (i := 38) rfl rfl
theorem imR_reckon : Cond.instanceMethod yR_reckon ∈ gw_tbl := tb_T2 (i := 40) rfl rfl
theorem seR_reckon : Cond.selects "FunctionRows" yR_reckon yR_reckon ∈ gw_tbl := tb_S (i := 1) rfl rfl
end
section
/-! the class: its code, and that the code is right -/
def kR_number (P : MethodName × List Cond × Room → List qm_v → cG → Option qm_v → cG → Prop) : List (Nat × qm_op cG) := [(0, o_al 0), (1, o_get 0 rdR3), (4, o_get 1 rdV0), (7, o_ifne 14), (10, o_lc (-2)), (13, o_retl), (14, o_al 0), (15, o_get 0 rdR3), (18, o_get 1 rdV0), (21, o_ic (3)), (22, o_icne 36), (25, o_al 0), (26, o_get 0 rdR3), (29, o_get 1 rdV3), (32, o_i2l), (33, o_go 43), (36, o_al 0), (37, o_get 0 rdR3), (40, o_get 1 rdV1), (43, o_retl)]
set_option maxRecDepth 20000 in
theorem sR_number {E : cEnv} (hE : cOk E) : qm_cok (cK E (rmL 1) prog_1_method_9_code 1 "FunctionRows" (wsT yR_number prog_1_method_9_code 1 (some .long)) (some .long)) (kR_number (cSd E)) := ⟨os_al_n (j := 0) (by decide +kernel) rfl, os_get (idx := 22) (f := 3) (ci := 3) (C := "FunctionRows") (T := FR) (N := 7) (by decide +kernel) rfl (fun w h => tb_in (fiR w h)) (by decide) (tb_in lkR_22) glR3, os_get (idx := 119) (f := 0) (ci := 0) (C := "FunctionRows$Value") (T := FV) (N := 5) (by decide +kernel) rfl (fun w h => tb_in (fiV w h)) (by decide) (tb_in lkR_119) glV0, os_ifne (off := 7) (by decide +kernel) (by decide), os_ldc2 (idx := 122) (by decide +kernel) (tb_in klR_122), os_retl hE (by decide +kernel) rfl, os_al_n (j := 0) (by decide +kernel) rfl, os_get (idx := 22) (f := 3) (ci := 3) (C := "FunctionRows") (T := FR) (N := 7) (by decide +kernel) rfl (fun w h => tb_in (fiR w h)) (by decide) (tb_in lkR_22) glR3, os_get (idx := 119) (f := 0) (ci := 0) (C := "FunctionRows$Value") (T := FV) (N := 5) (by decide +kernel) rfl (fun w h => tb_in (fiV w h)) (by decide) (tb_in lkR_119) glV0, os_iconst (n := 3) (by decide +kernel) (by decide +kernel), os_icne (off := 14) (by decide +kernel) (by decide), os_al_n (j := 0) (by decide +kernel) rfl, os_get (idx := 22) (f := 3) (ci := 3) (C := "FunctionRows") (T := FR) (N := 7) (by decide +kernel) rfl (fun w h => tb_in (fiR w h)) (by decide) (tb_in lkR_22) glR3, os_get (idx := 124) (f := 3) (ci := 0) (C := "FunctionRows$Value") (T := FV) (N := 5) (by decide +kernel) rfl (fun w h => tb_in (fiV w h)) (by decide) (tb_in lkR_124) glV3, os_i2l (by decide +kernel), os_go (off := 10) (by decide +kernel) (by decide), os_al_n (j := 0) (by decide +kernel) rfl, os_get (idx := 22) (f := 3) (ci := 3) (C := "FunctionRows") (T := FR) (N := 7) (by decide +kernel) rfl (fun w h => tb_in (fiR w h)) (by decide) (tb_in lkR_22) glR3, os_get (idx := 127) (f := 1) (ci := 0) (C := "FunctionRows$Value") (T := FV) (N := 5) (by decide +kernel) rfl (fun w h => tb_in (fiV w h)) (by decide) (tb_in lkR_127) glV1, os_retl hE (by decide +kernel) rfl⟩
def kR_tag (P : MethodName × List Cond × Room → List qm_v → cG → Option qm_v → cG → Prop) : List (Nat × qm_op cG) := [(0, o_al 0), (1, o_get 0 rdR3), (4, o_get 1 rdV0), (7, o_ic (3)), (8, o_icne 21), (11, o_al 0), (12, o_get 0 rdR3), (15, o_get 1 rdV2), (18, o_go 23), (21, o_ic (-2)), (23, o_reti)]
set_option maxRecDepth 20000 in
theorem sR_tag {E : cEnv} (hE : cOk E) : qm_cok (cK E (rmL 1) prog_1_method_10_code 1 "FunctionRows" (wsT yR_tag prog_1_method_10_code 1 (some .int)) (some .int)) (kR_tag (cSd E)) := ⟨os_al_n (j := 0) (by decide +kernel) rfl, os_get (idx := 22) (f := 3) (ci := 3) (C := "FunctionRows") (T := FR) (N := 7) (by decide +kernel) rfl (fun w h => tb_in (fiR w h)) (by decide) (tb_in lkR_22) glR3, os_get (idx := 119) (f := 0) (ci := 0) (C := "FunctionRows$Value") (T := FV) (N := 5) (by decide +kernel) rfl (fun w h => tb_in (fiV w h)) (by decide) (tb_in lkR_119) glV0, os_iconst (n := 3) (by decide +kernel) (by decide +kernel), os_icne (off := 13) (by decide +kernel) (by decide), os_al_n (j := 0) (by decide +kernel) rfl, os_get (idx := 22) (f := 3) (ci := 3) (C := "FunctionRows") (T := FR) (N := 7) (by decide +kernel) rfl (fun w h => tb_in (fiR w h)) (by decide) (tb_in lkR_22) glR3, os_get (idx := 131) (f := 2) (ci := 0) (C := "FunctionRows$Value") (T := FV) (N := 5) (by decide +kernel) rfl (fun w h => tb_in (fiV w h)) (by decide) (tb_in lkR_131) glV2, os_go (off := 5) (by decide +kernel) (by decide), os_bipush (n := -2) (by decide +kernel) (by decide +kernel), os_reti hE (by decide +kernel) rfl⟩
def kR_clear (P : MethodName × List Cond × Room → List qm_v → cG → Option qm_v → cG → Prop) : List (Nat × qm_op cG) := [(0, o_al 0), (1, o_get 0 rdR1), (4, o_is 1), (5, o_al 0), (6, o_ic (0)), (7, o_put 0 wrR1), (10, o_il 1), (11, o_reti)]
set_option maxRecDepth 20000 in
theorem sR_clear {E : cEnv} (hE : cOk E) : qm_cok (cK E (rmL 1) prog_1_method_16_code 2 "FunctionRows" (wsT yR_clear prog_1_method_16_code 2 (some .int)) (some .int)) (kR_clear (cSd E)) := ⟨os_al_n (j := 0) (by decide +kernel) rfl, os_get (idx := 46) (f := 1) (ci := 3) (C := "FunctionRows") (T := FR) (N := 7) (by decide +kernel) rfl (fun w h => tb_in (fiR w h)) (by decide) (tb_in lkR_46) glR1, os_is_n (j := 1) (by decide +kernel) rfl (by decide), os_al_n (j := 0) (by decide +kernel) rfl, os_iconst (n := 0) (by decide +kernel) (by decide +kernel), os_put hE (idx := 46) (f := 1) (ci := 3) (C := "FunctionRows") (T := FR) (N := 7) (ty0 := ftR) (by decide +kernel) rfl (fun w h => tb_in (fiR w h)) ftR_ok fnR (by decide) (tb_in lkR_46) rfl (by decide +kernel) plR1, os_il_n (j := 1) (by decide +kernel) rfl, os_reti hE (by decide +kernel) rfl⟩
def kR_size (P : MethodName × List Cond × Room → List qm_v → cG → Option qm_v → cG → Prop) : List (Nat × qm_op cG) := [(0, o_al 0), (1, o_get 0 rdR1), (4, o_reti)]
set_option maxRecDepth 20000 in
theorem sR_size {E : cEnv} (hE : cOk E) : qm_cok (cK E (rmL 1) prog_1_method_17_code 1 "FunctionRows" (wsT yR_size prog_1_method_17_code 1 (some .int)) (some .int)) (kR_size (cSd E)) := ⟨os_al_n (j := 0) (by decide +kernel) rfl, os_get (idx := 46) (f := 1) (ci := 3) (C := "FunctionRows") (T := FR) (N := 7) (by decide +kernel) rfl (fun w h => tb_in (fiR w h)) (by decide) (tb_in lkR_46) glR1, os_reti hE (by decide +kernel) rfl⟩
def kR_isExpression (P : MethodName × List Cond × Room → List qm_v → cG → Option qm_v → cG → Prop) : List (Nat × qm_op cG) := [(0, o_il 1), (1, o_iflt 16), (4, o_il 1), (5, o_al 0), (6, o_get 0 rdR1), (9, o_icge 16), (12, o_ic (1)), (13, o_go 17), (16, o_ic (0)), (17, o_retz)]
set_option maxRecDepth 20000 in
theorem sR_isExpression {E : cEnv} (hE : cOk E) : qm_cok (cK E (rmL 1) prog_1_method_18_code 2 "FunctionRows" (wsT yR_isExpression prog_1_method_18_code 2 (some .boolean)) (some .boolean)) (kR_isExpression (cSd E)) := ⟨os_il_n (j := 1) (by decide +kernel) rfl, os_iflt (off := 15) (by decide +kernel) (by decide), os_il_n (j := 1) (by decide +kernel) rfl, os_al_n (j := 0) (by decide +kernel) rfl, os_get (idx := 46) (f := 1) (ci := 3) (C := "FunctionRows") (T := FR) (N := 7) (by decide +kernel) rfl (fun w h => tb_in (fiR w h)) (by decide) (tb_in lkR_46) glR1, os_icge (off := 7) (by decide +kernel) (by decide), os_iconst (n := 1) (by decide +kernel) (by decide +kernel), os_go (off := 4) (by decide +kernel) (by decide), os_iconst (n := 0) (by decide +kernel) (by decide +kernel), os_retz hE (by decide +kernel) rfl⟩
def kR_isVariable (P : MethodName × List Cond × Room → List qm_v → cG → Option qm_v → cG → Prop) : List (Nat × qm_op cG) := [(0, o_il 0), (1, o_iflt 14), (4, o_il 0), (5, o_ic (8)), (7, o_icge 14), (10, o_ic (1)), (11, o_go 15), (14, o_ic (0)), (15, o_retz)]
set_option maxRecDepth 20000 in
theorem sR_isVariable {E : cEnv} (hE : cOk E) : qm_cok (cK E (rmL 1) prog_1_method_19_code 1 "FunctionRows" (wsT yR_isVariable prog_1_method_19_code 1 (some .boolean)) (some .boolean)) (kR_isVariable (cSd E)) := ⟨os_il_n (j := 0) (by decide +kernel) rfl, os_iflt (off := 13) (by decide +kernel) (by decide), os_il_n (j := 0) (by decide +kernel) rfl, os_bipush (n := 8) (by decide +kernel) (by decide +kernel), os_icge (off := 7) (by decide +kernel) (by decide), os_iconst (n := 1) (by decide +kernel) (by decide +kernel), os_go (off := 4) (by decide +kernel) (by decide), os_iconst (n := 0) (by decide +kernel) (by decide +kernel), os_retz hE (by decide +kernel) rfl⟩
def kR_isWhole (P : MethodName × List Cond × Room → List qm_v → cG → Option qm_v → cG → Prop) : List (Nat × qm_op cG) := [(0, o_ll 0), (1, o_lc (-1000000000000000)), (4, o_lclt 20), (8, o_ll 0), (9, o_lc (1000000000000000)), (12, o_lcgt 20), (16, o_ic (1)), (17, o_go 21), (20, o_ic (0)), (21, o_retz)]
set_option maxRecDepth 20000 in
theorem sR_isWhole {E : cEnv} (hE : cOk E) : qm_cok (cK E (rmL 1) prog_1_method_20_code 2 "FunctionRows" (wsT yR_isWhole prog_1_method_20_code 2 (some .boolean)) (some .boolean)) (kR_isWhole (cSd E)) := ⟨os_ll_n (j := 0) (by decide +kernel) rfl, os_ldc2 (idx := 149) (by decide +kernel) (tb_in klR_149), os_lclt (off := 15) (by decide +kernel) (by decide +kernel) (by decide), os_ll_n (j := 0) (by decide +kernel) rfl, os_ldc2 (idx := 151) (by decide +kernel) (tb_in klR_151), os_lcgt (off := 7) (by decide +kernel) (by decide +kernel) (by decide), os_iconst (n := 1) (by decide +kernel) (by decide +kernel), os_go (off := 4) (by decide +kernel) (by decide), os_iconst (n := 0) (by decide +kernel) (by decide +kernel), os_retz hE (by decide +kernel) rfl⟩
def kR_byteOf (P : MethodName × List Cond × Room → List qm_v → cG → Option qm_v → cG → Prop) : List (Nat × qm_op cG) := [(0, o_ll 0), (1, o_ic (8)), (3, o_il 2), (4, o_imul), (5, o_lushr), (6, o_l2i), (7, o_ic (255)), (10, o_iand), (11, o_reti)]
set_option maxRecDepth 20000 in
theorem sR_byteOf {E : cEnv} (hE : cOk E) : qm_cok (cK E (rmL 1) prog_1_method_21_code 3 "FunctionRows" (wsT yR_byteOf prog_1_method_21_code 3 (some .int)) (some .int)) (kR_byteOf (cSd E)) := ⟨os_ll_n (j := 0) (by decide +kernel) rfl, os_bipush (n := 8) (by decide +kernel) (by decide +kernel), os_il_n (j := 2) (by decide +kernel) rfl, os_imul (by decide +kernel), os_lushr (by decide +kernel), os_l2i (by decide +kernel), os_sipush (n := 255) (by decide +kernel) (by decide +kernel), os_iand (by decide +kernel), os_reti hE (by decide +kernel) rfl⟩
def kR_lastLeaf (P : MethodName × List Cond × Room → List qm_v → cG → Option qm_v → cG → Prop) : List (Nat × qm_op cG) := [(0, o_il 0), (1, o_ifne 7), (4, o_ic (7)), (6, o_reti), (7, o_il 0), (8, o_ic (1)), (9, o_icne 14), (12, o_ic (1)), (13, o_reti), (14, o_il 0), (15, o_ic (4)), (16, o_icne 25), (19, o_ic (999)), (22, o_go 26), (25, o_ic (-1)), (26, o_reti)]
set_option maxRecDepth 20000 in
theorem sR_lastLeaf {E : cEnv} (hE : cOk E) : qm_cok (cK E (rmL 1) prog_1_method_22_code 1 "FunctionRows" (wsT yR_lastLeaf prog_1_method_22_code 1 (some .int)) (some .int)) (kR_lastLeaf (cSd E)) := ⟨os_il_n (j := 0) (by decide +kernel) rfl, os_ifne (off := 6) (by decide +kernel) (by decide), os_bipush (n := 7) (by decide +kernel) (by decide +kernel), os_reti hE (by decide +kernel) rfl, os_il_n (j := 0) (by decide +kernel) rfl, os_iconst (n := 1) (by decide +kernel) (by decide +kernel), os_icne (off := 5) (by decide +kernel) (by decide), os_iconst (n := 1) (by decide +kernel) (by decide +kernel), os_reti hE (by decide +kernel) rfl, os_il_n (j := 0) (by decide +kernel) rfl, os_iconst (n := 4) (by decide +kernel) (by decide +kernel), os_icne (off := 9) (by decide +kernel) (by decide), os_sipush (n := 999) (by decide +kernel) (by decide +kernel), os_go (off := 4) (by decide +kernel) (by decide), os_iconst (n := -1) (by decide +kernel) (by decide +kernel), os_reti hE (by decide +kernel) rfl⟩
def kE_becomeValue (P : MethodName × List Cond × Room → List qm_v → cG → Option qm_v → cG → Prop) : List (Nat × qm_op cG) := [(0, o_al 0), (1, o_ic (0)), (2, o_put 3 wrE1), (5, o_al 0), (6, o_al 0), (7, o_get 3 rdE0), (10, o_put 3 wrE2), (13, o_al 0), (14, o_ic (0)), (15, o_put 3 wrE7), (18, o_al 0), (19, o_ic (0)), (20, o_put 3 wrE8), (23, o_al 0), (24, o_get 3 rdE0), (27, o_reta)]
set_option maxRecDepth 20000 in
theorem sE_becomeValue {E : cEnv} (hE : cOk E) : qm_cok (cK E (rmL 1) prog_3_method_2_code 1 "FunctionRows$Expression" (wsT yE_becomeValue prog_3_method_2_code 1 (some (.object "FunctionRows$Value"))) (some (.object "FunctionRows$Value"))) (kE_becomeValue (cSd E)) := ⟨os_al_n (j := 0) (by decide +kernel) rfl, os_iconst (n := 0) (by decide +kernel) (by decide +kernel), os_put hE (idx := 21) (f := 1) (ci := 1) (C := "FunctionRows$Expression") (T := FE) (N := 10) (ty0 := ftE) (by decide +kernel) rfl (fun w h => tb_in (fiE w h)) ftE_ok fnE (by decide) (tb_in lkE_21) rfl (by decide +kernel) plE1, os_al_n (j := 0) (by decide +kernel) rfl, os_al_n (j := 0) (by decide +kernel) rfl, os_get (idx := 12) (f := 0) (ci := 1) (C := "FunctionRows$Expression") (T := FE) (N := 10) (by decide +kernel) rfl (fun w h => tb_in (fiE w h)) (by decide) (tb_in lkE_12) glE0, os_put hE (idx := 18) (f := 2) (ci := 1) (C := "FunctionRows$Expression") (T := FE) (N := 10) (ty0 := ftE) (by decide +kernel) rfl (fun w h => tb_in (fiE w h)) ftE_ok fnE (by decide) (tb_in lkE_18) rfl (by decide +kernel) plE2, os_al_n (j := 0) (by decide +kernel) rfl, os_iconst (n := 0) (by decide +kernel) (by decide +kernel), os_put hE (idx := 25) (f := 7) (ci := 1) (C := "FunctionRows$Expression") (T := FE) (N := 10) (ty0 := ftE) (by decide +kernel) rfl (fun w h => tb_in (fiE w h)) ftE_ok fnE (by decide) (tb_in lkE_25) rfl (by decide +kernel) plE7, os_al_n (j := 0) (by decide +kernel) rfl, os_iconst (n := 0) (by decide +kernel) (by decide +kernel), os_put hE (idx := 28) (f := 8) (ci := 1) (C := "FunctionRows$Expression") (T := FE) (N := 10) (ty0 := ftE) (by decide +kernel) rfl (fun w h => tb_in (fiE w h)) ftE_ok fnE (by decide) (tb_in lkE_28) rfl (by decide +kernel) plE8, os_al_n (j := 0) (by decide +kernel) rfl, os_get (idx := 12) (f := 0) (ci := 1) (C := "FunctionRows$Expression") (T := FE) (N := 10) (by decide +kernel) rfl (fun w h => tb_in (fiE w h)) (by decide) (tb_in lkE_12) glE0, os_reta hE (by decide +kernel) rfl (Or.inl ⟨_, rfl⟩)⟩
def kE_becomeVariable (P : MethodName × List Cond × Room → List qm_v → cG → Option qm_v → cG → Prop) : List (Nat × qm_op cG) := [(0, o_al 0), (1, o_ic (1)), (2, o_put 3 wrE1), (5, o_al 0), (6, o_al 2), (7, o_put 3 wrE2), (10, o_al 0), (11, o_ic (1)), (12, o_il 1), (13, o_ishl), (14, o_put 3 wrE7), (17, o_al 0), (18, o_ic (0)), (19, o_put 3 wrE8), (22, o_ret0)]
set_option maxRecDepth 20000 in
theorem sE_becomeVariable {E : cEnv} (hE : cOk E) : qm_cok (cK E (rmL 1) prog_3_method_3_code 3 "FunctionRows$Expression" (wsT yE_becomeVariable prog_3_method_3_code 3 none) none) (kE_becomeVariable (cSd E)) := ⟨os_al_n (j := 0) (by decide +kernel) rfl, os_iconst (n := 1) (by decide +kernel) (by decide +kernel), os_put hE (idx := 21) (f := 1) (ci := 1) (C := "FunctionRows$Expression") (T := FE) (N := 10) (ty0 := ftE) (by decide +kernel) rfl (fun w h => tb_in (fiE w h)) ftE_ok fnE (by decide) (tb_in lkE_21) rfl (by decide +kernel) plE1, os_al_n (j := 0) (by decide +kernel) rfl, os_al_n (j := 2) (by decide +kernel) rfl, os_put hE (idx := 18) (f := 2) (ci := 1) (C := "FunctionRows$Expression") (T := FE) (N := 10) (ty0 := ftE) (by decide +kernel) rfl (fun w h => tb_in (fiE w h)) ftE_ok fnE (by decide) (tb_in lkE_18) rfl (by decide +kernel) plE2, os_al_n (j := 0) (by decide +kernel) rfl, os_iconst (n := 1) (by decide +kernel) (by decide +kernel), os_il_n (j := 1) (by decide +kernel) rfl, os_ishl (by decide +kernel), os_put hE (idx := 25) (f := 7) (ci := 1) (C := "FunctionRows$Expression") (T := FE) (N := 10) (ty0 := ftE) (by decide +kernel) rfl (fun w h => tb_in (fiE w h)) ftE_ok fnE (by decide) (tb_in lkE_25) rfl (by decide +kernel) plE7, os_al_n (j := 0) (by decide +kernel) rfl, os_iconst (n := 0) (by decide +kernel) (by decide +kernel), os_put hE (idx := 28) (f := 8) (ci := 1) (C := "FunctionRows$Expression") (T := FE) (N := 10) (ty0 := ftE) (by decide +kernel) rfl (fun w h => tb_in (fiE w h)) ftE_ok fnE (by decide) (tb_in lkE_28) rfl (by decide +kernel) plE8, os_ret0 hE (by decide +kernel) rfl⟩
def kE_becomeCall (P : MethodName × List Cond × Room → List qm_v → cG → Option qm_v → cG → Prop) : List (Nat × qm_op cG) := [(0, o_al 0), (1, o_ic (2)), (2, o_put 3 wrE1), (5, o_al 0), (6, o_al 0), (7, o_get 3 rdE0), (10, o_put 3 wrE2), (13, o_al 0), (14, o_il 1), (15, o_put 3 wrE3), (18, o_al 0), (19, o_al 2), (20, o_put 3 wrE4), (23, o_al 0), (24, o_al 3), (25, o_put 3 wrE5), (28, o_al 0), (29, o_al 4), (31, o_put 3 wrE6), (34, o_al 0), (35, o_al 2), (36, o_get 3 rdE7), (39, o_al 3), (40, o_get 3 rdE7), (43, o_ior), (44, o_al 4), (46, o_get 3 rdE7), (49, o_ior), (50, o_put 3 wrE7), (53, o_al 0), (54, o_ic (1)), (55, o_al 2), (56, o_get 3 rdE8), (59, o_al 3), (60, o_get 3 rdE8), (63, o_al 4), (65, o_get 3 rdE8), (68, o_imax), (71, o_imax), (74, o_iadd), (75, o_put 3 wrE8), (78, o_ret0)]
set_option maxRecDepth 20000 in
theorem sE_becomeCall {E : cEnv} (hE : cOk E) : qm_cok (cK E (rmL 1) prog_3_method_4_code 5 "FunctionRows$Expression" (wsT yE_becomeCall prog_3_method_4_code 5 none) none) (kE_becomeCall (cSd E)) := ⟨os_al_n (j := 0) (by decide +kernel) rfl, os_iconst (n := 2) (by decide +kernel) (by decide +kernel), os_put hE (idx := 21) (f := 1) (ci := 1) (C := "FunctionRows$Expression") (T := FE) (N := 10) (ty0 := ftE) (by decide +kernel) rfl (fun w h => tb_in (fiE w h)) ftE_ok fnE (by decide) (tb_in lkE_21) rfl (by decide +kernel) plE1, os_al_n (j := 0) (by decide +kernel) rfl, os_al_n (j := 0) (by decide +kernel) rfl, os_get (idx := 12) (f := 0) (ci := 1) (C := "FunctionRows$Expression") (T := FE) (N := 10) (by decide +kernel) rfl (fun w h => tb_in (fiE w h)) (by decide) (tb_in lkE_12) glE0, os_put hE (idx := 18) (f := 2) (ci := 1) (C := "FunctionRows$Expression") (T := FE) (N := 10) (ty0 := ftE) (by decide +kernel) rfl (fun w h => tb_in (fiE w h)) ftE_ok fnE (by decide) (tb_in lkE_18) rfl (by decide +kernel) plE2, os_al_n (j := 0) (by decide +kernel) rfl, os_il_n (j := 1) (by decide +kernel) rfl, os_put hE (idx := 31) (f := 3) (ci := 1) (C := "FunctionRows$Expression") (T := FE) (N := 10) (ty0 := ftE) (by decide +kernel) rfl (fun w h => tb_in (fiE w h)) ftE_ok fnE (by decide) (tb_in lkE_31) rfl (by decide +kernel) plE3, os_al_n (j := 0) (by decide +kernel) rfl, os_al_n (j := 2) (by decide +kernel) rfl, os_put hE (idx := 34) (f := 4) (ci := 1) (C := "FunctionRows$Expression") (T := FE) (N := 10) (ty0 := ftE) (by decide +kernel) rfl (fun w h => tb_in (fiE w h)) ftE_ok fnE (by decide) (tb_in lkE_34) rfl (by decide +kernel) plE4, os_al_n (j := 0) (by decide +kernel) rfl, os_al_n (j := 3) (by decide +kernel) rfl, os_put hE (idx := 38) (f := 5) (ci := 1) (C := "FunctionRows$Expression") (T := FE) (N := 10) (ty0 := ftE) (by decide +kernel) rfl (fun w h => tb_in (fiE w h)) ftE_ok fnE (by decide) (tb_in lkE_38) rfl (by decide +kernel) plE5, os_al_n (j := 0) (by decide +kernel) rfl, os_al (by decide +kernel), os_put hE (idx := 41) (f := 6) (ci := 1) (C := "FunctionRows$Expression") (T := FE) (N := 10) (ty0 := ftE) (by decide +kernel) rfl (fun w h => tb_in (fiE w h)) ftE_ok fnE (by decide) (tb_in lkE_41) rfl (by decide +kernel) plE6, os_al_n (j := 0) (by decide +kernel) rfl, os_al_n (j := 2) (by decide +kernel) rfl, os_get (idx := 25) (f := 7) (ci := 1) (C := "FunctionRows$Expression") (T := FE) (N := 10) (by decide +kernel) rfl (fun w h => tb_in (fiE w h)) (by decide) (tb_in lkE_25) glE7, os_al_n (j := 3) (by decide +kernel) rfl, os_get (idx := 25) (f := 7) (ci := 1) (C := "FunctionRows$Expression") (T := FE) (N := 10) (by decide +kernel) rfl (fun w h => tb_in (fiE w h)) (by decide) (tb_in lkE_25) glE7, os_ior (by decide +kernel), os_al (by decide +kernel), os_get (idx := 25) (f := 7) (ci := 1) (C := "FunctionRows$Expression") (T := FE) (N := 10) (by decide +kernel) rfl (fun w h => tb_in (fiE w h)) (by decide) (tb_in lkE_25) glE7, os_ior (by decide +kernel), os_put hE (idx := 25) (f := 7) (ci := 1) (C := "FunctionRows$Expression") (T := FE) (N := 10) (ty0 := ftE) (by decide +kernel) rfl (fun w h => tb_in (fiE w h)) ftE_ok fnE (by decide) (tb_in lkE_25) rfl (by decide +kernel) plE7, os_al_n (j := 0) (by decide +kernel) rfl, os_iconst (n := 1) (by decide +kernel) (by decide +kernel), os_al_n (j := 2) (by decide +kernel) rfl, os_get (idx := 28) (f := 8) (ci := 1) (C := "FunctionRows$Expression") (T := FE) (N := 10) (by decide +kernel) rfl (fun w h => tb_in (fiE w h)) (by decide) (tb_in lkE_28) glE8, os_al_n (j := 3) (by decide +kernel) rfl, os_get (idx := 28) (f := 8) (ci := 1) (C := "FunctionRows$Expression") (T := FE) (N := 10) (by decide +kernel) rfl (fun w h => tb_in (fiE w h)) (by decide) (tb_in lkE_28) glE8, os_al (by decide +kernel), os_get (idx := 28) (f := 8) (ci := 1) (C := "FunctionRows$Expression") (T := FE) (N := 10) (by decide +kernel) rfl (fun w h => tb_in (fiE w h)) (by decide) (tb_in lkE_28) glE8, os_imax (idx := 44) (by decide +kernel) (tb_in mlE_44) (tb_in ms_imax) (tb_in mi_math) (tb_in mc_imax) (by decide) (by decide), os_imax (idx := 44) (by decide +kernel) (tb_in mlE_44) (tb_in ms_imax) (tb_in mi_math) (tb_in mc_imax) (by decide) (by decide), os_iadd (by decide +kernel), os_put hE (idx := 28) (f := 8) (ci := 1) (C := "FunctionRows$Expression") (T := FE) (N := 10) (ty0 := ftE) (by decide +kernel) rfl (fun w h => tb_in (fiE w h)) ftE_ok fnE (by decide) (tb_in lkE_28) rfl (by decide +kernel) plE8, os_ret0 hE (by decide +kernel) rfl⟩
def kE_isCall (P : MethodName × List Cond × Room → List qm_v → cG → Option qm_v → cG → Prop) : List (Nat × qm_op cG) := [(0, o_al 0), (1, o_get 3 rdE1), (4, o_ic (2)), (5, o_icne 33), (8, o_al 0), (9, o_getq 3 rdE4), (12, o_br t_nul 33), (15, o_al 0), (16, o_getq 3 rdE5), (19, o_br t_nul 33), (22, o_al 0), (23, o_getq 3 rdE6), (26, o_br t_nul 33), (29, o_ic (1)), (30, o_go 34), (33, o_ic (0)), (34, o_retz)]
set_option maxRecDepth 20000 in
theorem sE_isCall {E : cEnv} (hE : cOk E) : qm_cok (cK E (rmL 1) prog_3_method_5_code 1 "FunctionRows$Expression" (wsT yE_isCall prog_3_method_5_code 1 (some .boolean)) (some .boolean)) (kE_isCall (cSd E)) := ⟨os_al_n (j := 0) (by decide +kernel) rfl, os_get (idx := 21) (f := 1) (ci := 1) (C := "FunctionRows$Expression") (T := FE) (N := 10) (by decide +kernel) rfl (fun w h => tb_in (fiE w h)) (by decide) (tb_in lkE_21) glE1, os_iconst (n := 2) (by decide +kernel) (by decide +kernel), os_icne (off := 28) (by decide +kernel) (by decide), os_al_n (j := 0) (by decide +kernel) rfl, os_getq (idx := 34) (f := 4) (ci := 1) (C := "FunctionRows$Expression") (T := FE) (N := 10) (by decide +kernel) rfl (fun w h => tb_in (fiE w h)) (by decide) (tb_in lkE_34) glE4, os_null (off := 21) (by decide +kernel) (by decide), os_al_n (j := 0) (by decide +kernel) rfl, os_getq (idx := 38) (f := 5) (ci := 1) (C := "FunctionRows$Expression") (T := FE) (N := 10) (by decide +kernel) rfl (fun w h => tb_in (fiE w h)) (by decide) (tb_in lkE_38) glE5, os_null (off := 14) (by decide +kernel) (by decide), os_al_n (j := 0) (by decide +kernel) rfl, os_getq (idx := 41) (f := 6) (ci := 1) (C := "FunctionRows$Expression") (T := FE) (N := 10) (by decide +kernel) rfl (fun w h => tb_in (fiE w h)) (by decide) (tb_in lkE_41) glE6, os_null (off := 7) (by decide +kernel) (by decide), os_iconst (n := 1) (by decide +kernel) (by decide +kernel), os_go (off := 4) (by decide +kernel) (by decide), os_iconst (n := 0) (by decide +kernel) (by decide +kernel), os_retz hE (by decide +kernel) rfl⟩
def kS_isItem (P : MethodName × List Cond × Room → List qm_v → cG → Option qm_v → cG → Prop) : List (Nat × qm_op cG) := [(0, o_il 0), (1, o_ifeq 32), (4, o_il 0), (5, o_ic (94)), (7, o_iceq 32), (10, o_il 0), (11, o_ic (93)), (13, o_iceq 32), (16, o_il 0), (17, o_ic (45)), (19, o_iceq 32), (22, o_il 0), (23, o_ic (92)), (25, o_iceq 32), (28, o_ic (1)), (29, o_go 33), (32, o_ic (0)), (33, o_retz)]
set_option maxRecDepth 20000 in
theorem sS_isItem {E : cEnv} (hE : cOk E) : qm_cok (cK E (rmL 1) prog_4_method_13_code 1 "FunctionRows$Search" (wsT yS_isItem prog_4_method_13_code 1 (some .boolean)) (some .boolean)) (kS_isItem (cSd E)) := ⟨os_il_n (j := 0) (by decide +kernel) rfl, os_ifeq (off := 31) (by decide +kernel) (by decide), os_il_n (j := 0) (by decide +kernel) rfl, os_bipush (n := 94) (by decide +kernel) (by decide +kernel), os_iceq (off := 25) (by decide +kernel) (by decide), os_il_n (j := 0) (by decide +kernel) rfl, os_bipush (n := 93) (by decide +kernel) (by decide +kernel), os_iceq (off := 19) (by decide +kernel) (by decide), os_il_n (j := 0) (by decide +kernel) rfl, os_bipush (n := 45) (by decide +kernel) (by decide +kernel), os_iceq (off := 13) (by decide +kernel) (by decide), os_il_n (j := 0) (by decide +kernel) rfl, os_bipush (n := 92) (by decide +kernel) (by decide +kernel), os_iceq (off := 7) (by decide +kernel) (by decide), os_iconst (n := 1) (by decide +kernel) (by decide +kernel), os_go (off := 4) (by decide +kernel) (by decide), os_iconst (n := 0) (by decide +kernel) (by decide +kernel), os_retz hE (by decide +kernel) rfl⟩
def kS_newState (P : MethodName × List Cond × Room → List qm_v → cG → Option qm_v → cG → Prop) : List (Nat × qm_op cG) := [(0, o_al 0), (1, o_get 7 rdS1), (4, o_ic (63)), (6, o_imin), (9, o_is 1), (10, o_al 0), (11, o_get 7 rdS0), (14, o_il 1), (15, o_ic (0)), (16, o_ast 8 cn8 cw8), (17, o_al 0), (18, o_il 1), (19, o_ic (1)), (20, o_iadd), (21, o_put 7 wrS1), (24, o_il 1), (25, o_reti)]
set_option maxRecDepth 20000 in
theorem sS_newState {E : cEnv} (hE : cOk E) : qm_cok (cK E (rmL 1) prog_4_method_15_code 2 "FunctionRows$Search" (wsT yS_newState prog_4_method_15_code 2 (some .int)) (some .int)) (kS_newState (cSd E)) := ⟨os_al_n (j := 0) (by decide +kernel) rfl, os_get (idx := 81) (f := 1) (ci := 2) (C := "FunctionRows$Search") (T := FS) (N := 14) (by decide +kernel) rfl (fun w h => tb_in (fiS w h)) (by decide) (tb_in lkS_81) glS1, os_bipush (n := 63) (by decide +kernel) (by decide +kernel), os_imin (idx := 134) (by decide +kernel) (tb_in mlS_134) (tb_in ms_imin) (tb_in mi_math) (tb_in mc_imin) (by decide) (by decide), os_is_n (j := 1) (by decide +kernel) rfl (by decide), os_al_n (j := 0) (by decide +kernel) rfl, os_get (idx := 11) (f := 0) (ci := 2) (C := "FunctionRows$Search") (T := FS) (N := 14) (by decide +kernel) rfl (fun w h => tb_in (fiS w h)) (by decide) (tb_in lkS_11) glS0, os_il_n (j := 1) (by decide +kernel) rfl, os_iconst (n := 0) (by decide +kernel) (by decide +kernel), os_iast hE (t0 := 1) (by decide +kernel) rfl cce8 cwr8 cok8, os_al_n (j := 0) (by decide +kernel) rfl, os_il_n (j := 1) (by decide +kernel) rfl, os_iconst (n := 1) (by decide +kernel) (by decide +kernel), os_iadd (by decide +kernel), os_put hE (idx := 81) (f := 1) (ci := 2) (C := "FunctionRows$Search") (T := FS) (N := 14) (ty0 := ftS) (by decide +kernel) rfl (fun w h => tb_in (fiS w h)) ftS_ok fnS (by decide) (tb_in lkS_81) rfl (by decide +kernel) plS1, os_il_n (j := 1) (by decide +kernel) rfl, os_reti hE (by decide +kernel) rfl⟩
def kS_connect (P : MethodName × List Cond × Room → List qm_v → cG → Option qm_v → cG → Prop) : List (Nat × qm_op cG) := [(0, o_al 0), (1, o_get 7 rdS6), (4, o_ic (64)), (6, o_iclt 10), (9, o_ret0), (10, o_al 0), (11, o_get 7 rdS2), (14, o_al 0), (15, o_get 7 rdS6), (18, o_il 1), (19, o_ast 8 cn8 cw8), (20, o_al 0), (21, o_get 7 rdS3), (24, o_al 0), (25, o_get 7 rdS6), (28, o_il 2), (29, o_ast 8 cn8 cw8), (30, o_al 0), (31, o_get 7 rdS4), (34, o_al 0), (35, o_get 7 rdS6), (38, o_il 3), (39, o_ast 8 cn8 cw8), (40, o_al 0), (41, o_get 7 rdS5), (44, o_al 0), (45, o_get 7 rdS6), (48, o_il 4), (50, o_ast 8 cn8 cw8), (51, o_al 0), (52, o_stk f_dup), (53, o_get 7 rdS6), (56, o_ic (1)), (57, o_iadd), (58, o_put 7 wrS6), (61, o_ret0)]
set_option maxRecDepth 20000 in
theorem sS_connect {E : cEnv} (hE : cOk E) : qm_cok (cK E (rmL 1) prog_4_method_16_code 5 "FunctionRows$Search" (wsT yS_connect prog_4_method_16_code 5 none) none) (kS_connect (cSd E)) := ⟨os_al_n (j := 0) (by decide +kernel) rfl, os_get (idx := 84) (f := 6) (ci := 2) (C := "FunctionRows$Search") (T := FS) (N := 14) (by decide +kernel) rfl (fun w h => tb_in (fiS w h)) (by decide) (tb_in lkS_84) glS6, os_bipush (n := 64) (by decide +kernel) (by decide +kernel), os_iclt (off := 4) (by decide +kernel) (by decide), os_ret0 hE (by decide +kernel) rfl, os_al_n (j := 0) (by decide +kernel) rfl, os_get (idx := 15) (f := 2) (ci := 2) (C := "FunctionRows$Search") (T := FS) (N := 14) (by decide +kernel) rfl (fun w h => tb_in (fiS w h)) (by decide) (tb_in lkS_15) glS2, os_al_n (j := 0) (by decide +kernel) rfl, os_get (idx := 84) (f := 6) (ci := 2) (C := "FunctionRows$Search") (T := FS) (N := 14) (by decide +kernel) rfl (fun w h => tb_in (fiS w h)) (by decide) (tb_in lkS_84) glS6, os_il_n (j := 1) (by decide +kernel) rfl, os_iast hE (t0 := 1) (by decide +kernel) rfl cce8 cwr8 cok8, os_al_n (j := 0) (by decide +kernel) rfl, os_get (idx := 18) (f := 3) (ci := 2) (C := "FunctionRows$Search") (T := FS) (N := 14) (by decide +kernel) rfl (fun w h => tb_in (fiS w h)) (by decide) (tb_in lkS_18) glS3, os_al_n (j := 0) (by decide +kernel) rfl, os_get (idx := 84) (f := 6) (ci := 2) (C := "FunctionRows$Search") (T := FS) (N := 14) (by decide +kernel) rfl (fun w h => tb_in (fiS w h)) (by decide) (tb_in lkS_84) glS6, os_il_n (j := 2) (by decide +kernel) rfl, os_iast hE (t0 := 1) (by decide +kernel) rfl cce8 cwr8 cok8, os_al_n (j := 0) (by decide +kernel) rfl, os_get (idx := 21) (f := 4) (ci := 2) (C := "FunctionRows$Search") (T := FS) (N := 14) (by decide +kernel) rfl (fun w h => tb_in (fiS w h)) (by decide) (tb_in lkS_21) glS4, os_al_n (j := 0) (by decide +kernel) rfl, os_get (idx := 84) (f := 6) (ci := 2) (C := "FunctionRows$Search") (T := FS) (N := 14) (by decide +kernel) rfl (fun w h => tb_in (fiS w h)) (by decide) (tb_in lkS_84) glS6, os_il_n (j := 3) (by decide +kernel) rfl, os_iast hE (t0 := 1) (by decide +kernel) rfl cce8 cwr8 cok8, os_al_n (j := 0) (by decide +kernel) rfl, os_get (idx := 24) (f := 5) (ci := 2) (C := "FunctionRows$Search") (T := FS) (N := 14) (by decide +kernel) rfl (fun w h => tb_in (fiS w h)) (by decide) (tb_in lkS_24) glS5, os_al_n (j := 0) (by decide +kernel) rfl, os_get (idx := 84) (f := 6) (ci := 2) (C := "FunctionRows$Search") (T := FS) (N := 14) (by decide +kernel) rfl (fun w h => tb_in (fiS w h)) (by decide) (tb_in lkS_84) glS6, os_il (by decide +kernel), os_iast hE (t0 := 1) (by decide +kernel) rfl cce8 cwr8 cok8, os_al_n (j := 0) (by decide +kernel) rfl, os_dup (by decide +kernel), os_get (idx := 84) (f := 6) (ci := 2) (C := "FunctionRows$Search") (T := FS) (N := 14) (by decide +kernel) rfl (fun w h => tb_in (fiS w h)) (by decide) (tb_in lkS_84) glS6, os_iconst (n := 1) (by decide +kernel) (by decide +kernel), os_iadd (by decide +kernel), os_put hE (idx := 84) (f := 6) (ci := 2) (C := "FunctionRows$Search") (T := FS) (N := 14) (ty0 := ftS) (by decide +kernel) rfl (fun w h => tb_in (fiS w h)) ftS_ok fnS (by decide) (tb_in lkS_84) rfl (by decide +kernel) plS6, os_ret0 hE (by decide +kernel) rfl⟩
def kS_spread (P : MethodName × List Cond × Room → List qm_v → cG → Option qm_v → cG → Prop) : List (Nat × qm_op cG) := [(0, o_al 0), (1, o_get 7 rdS0), (4, o_ic (0)), (5, o_ic (1)), (6, o_al 1), (7, o_get 1 rdV3), (10, o_ic (1)), (11, o_iadd), (12, o_ishl), (13, o_ic (1)), (14, o_isub), (15, o_ast 8 cn8 cw8), (16, o_ic (1)), (17, o_is 2), (18, o_ic (0)), (19, o_is 3), (20, o_il 3), (21, o_ic (1600)), (24, o_icge 126), (27, o_il 2), (28, o_ifeq 126), (31, o_ic (0)), (32, o_is 2), (33, o_ic (0)), (34, o_is 4), (36, o_il 4), (38, o_al 0), (39, o_get 7 rdS6), (42, o_icge 120), (45, o_al 0), (46, o_get 7 rdS0), (49, o_al 0), (50, o_get 7 rdS2), (53, o_il 4), (55, o_ald 8 cn8 cr8), (56, o_ald 8 cn8 cr8), (57, o_al 0), (58, o_get 7 rdS4), (61, o_il 4), (63, o_ald 8 cn8 cr8), (64, o_iand), (65, o_al 0), (66, o_get 7 rdS5), (69, o_il 4), (71, o_ald 8 cn8 cr8), (72, o_ishl), (73, o_is 5), (75, o_il 5), (77, o_al 0), (78, o_get 7 rdS0), (81, o_al 0), (82, o_get 7 rdS3), (85, o_il 4), (87, o_ald 8 cn8 cr8), (88, o_ald 8 cn8 cr8), (89, o_ic (-1)), (90, o_ixor), (91, o_iand), (92, o_ifeq 114), (95, o_al 0), (96, o_get 7 rdS0), (99, o_al 0), (100, o_get 7 rdS3), (103, o_il 4), (105, o_ald 8 cn8 cr8), (106, o_stk f_dup2), (107, o_ald 8 cn8 cr8), (108, o_il 5), (110, o_ior), (111, o_ast 8 cn8 cw8), (112, o_ic (1)), (113, o_is 2), (114, o_inc 4 (1)), (117, o_go 36), (120, o_inc 3 (1)), (123, o_go 20), (126, o_ret0)]
set_option maxRecDepth 20000 in
theorem sS_spread {E : cEnv} (hE : cOk E) : qm_cok (cK E (rmL 1) prog_4_method_17_code 6 "FunctionRows$Search" (wsT yS_spread prog_4_method_17_code 6 none) none) (kS_spread (cSd E)) := ⟨os_al_n (j := 0) (by decide +kernel) rfl, os_get (idx := 11) (f := 0) (ci := 2) (C := "FunctionRows$Search") (T := FS) (N := 14) (by decide +kernel) rfl (fun w h => tb_in (fiS w h)) (by decide) (tb_in lkS_11) glS0, os_iconst (n := 0) (by decide +kernel) (by decide +kernel), os_iconst (n := 1) (by decide +kernel) (by decide +kernel), os_al_n (j := 1) (by decide +kernel) rfl, os_get (idx := 48) (f := 3) (ci := 0) (C := "FunctionRows$Value") (T := FV) (N := 5) (by decide +kernel) rfl (fun w h => tb_in (fiV w h)) (by decide) (tb_in lkS_48) glV3, os_iconst (n := 1) (by decide +kernel) (by decide +kernel), os_iadd (by decide +kernel), os_ishl (by decide +kernel), os_iconst (n := 1) (by decide +kernel) (by decide +kernel), os_isub (by decide +kernel), os_iast hE (t0 := 1) (by decide +kernel) rfl cce8 cwr8 cok8, os_iconst (n := 1) (by decide +kernel) (by decide +kernel), os_is_n (j := 2) (by decide +kernel) rfl (by decide), os_iconst (n := 0) (by decide +kernel) (by decide +kernel), os_is_n (j := 3) (by decide +kernel) rfl (by decide), os_il_n (j := 3) (by decide +kernel) rfl, os_sipush (n := 1600) (by decide +kernel) (by decide +kernel), os_icge (off := 102) (by decide +kernel) (by decide), os_il_n (j := 2) (by decide +kernel) rfl, os_ifeq (off := 98) (by decide +kernel) (by decide), os_iconst (n := 0) (by decide +kernel) (by decide +kernel), os_is_n (j := 2) (by decide +kernel) rfl (by decide), os_iconst (n := 0) (by decide +kernel) (by decide +kernel), os_is (by decide +kernel) (by decide), os_il (by decide +kernel), os_al_n (j := 0) (by decide +kernel) rfl, os_get (idx := 84) (f := 6) (ci := 2) (C := "FunctionRows$Search") (T := FS) (N := 14) (by decide +kernel) rfl (fun w h => tb_in (fiS w h)) (by decide) (tb_in lkS_84) glS6, os_icge (off := 78) (by decide +kernel) (by decide), os_al_n (j := 0) (by decide +kernel) rfl, os_get (idx := 11) (f := 0) (ci := 2) (C := "FunctionRows$Search") (T := FS) (N := 14) (by decide +kernel) rfl (fun w h => tb_in (fiS w h)) (by decide) (tb_in lkS_11) glS0, os_al_n (j := 0) (by decide +kernel) rfl, os_get (idx := 15) (f := 2) (ci := 2) (C := "FunctionRows$Search") (T := FS) (N := 14) (by decide +kernel) rfl (fun w h => tb_in (fiS w h)) (by decide) (tb_in lkS_15) glS2, os_il (by decide +kernel), os_iald (t0 := 1) (by decide +kernel) rfl cce8, os_iald (t0 := 1) (by decide +kernel) rfl cce8, os_al_n (j := 0) (by decide +kernel) rfl, os_get (idx := 21) (f := 4) (ci := 2) (C := "FunctionRows$Search") (T := FS) (N := 14) (by decide +kernel) rfl (fun w h => tb_in (fiS w h)) (by decide) (tb_in lkS_21) glS4, os_il (by decide +kernel), os_iald (t0 := 1) (by decide +kernel) rfl cce8, os_iand (by decide +kernel), os_al_n (j := 0) (by decide +kernel) rfl, os_get (idx := 24) (f := 5) (ci := 2) (C := "FunctionRows$Search") (T := FS) (N := 14) (by decide +kernel) rfl (fun w h => tb_in (fiS w h)) (by decide) (tb_in lkS_24) glS5, os_il (by decide +kernel), os_iald (t0 := 1) (by decide +kernel) rfl cce8, os_ishl (by decide +kernel), os_is (by decide +kernel) (by decide), os_il (by decide +kernel), os_al_n (j := 0) (by decide +kernel) rfl, os_get (idx := 11) (f := 0) (ci := 2) (C := "FunctionRows$Search") (T := FS) (N := 14) (by decide +kernel) rfl (fun w h => tb_in (fiS w h)) (by decide) (tb_in lkS_11) glS0, os_al_n (j := 0) (by decide +kernel) rfl, os_get (idx := 18) (f := 3) (ci := 2) (C := "FunctionRows$Search") (T := FS) (N := 14) (by decide +kernel) rfl (fun w h => tb_in (fiS w h)) (by decide) (tb_in lkS_18) glS3, os_il (by decide +kernel), os_iald (t0 := 1) (by decide +kernel) rfl cce8, os_iald (t0 := 1) (by decide +kernel) rfl cce8, os_iconst (n := -1) (by decide +kernel) (by decide +kernel), os_ixor (by decide +kernel), os_iand (by decide +kernel), os_ifeq (off := 22) (by decide +kernel) (by decide), os_al_n (j := 0) (by decide +kernel) rfl, os_get (idx := 11) (f := 0) (ci := 2) (C := "FunctionRows$Search") (T := FS) (N := 14) (by decide +kernel) rfl (fun w h => tb_in (fiS w h)) (by decide) (tb_in lkS_11) glS0, os_al_n (j := 0) (by decide +kernel) rfl, os_get (idx := 18) (f := 3) (ci := 2) (C := "FunctionRows$Search") (T := FS) (N := 14) (by decide +kernel) rfl (fun w h => tb_in (fiS w h)) (by decide) (tb_in lkS_18) glS3, os_il (by decide +kernel), os_iald (t0 := 1) (by decide +kernel) rfl cce8, os_dup2 (by decide +kernel), os_iald (t0 := 1) (by decide +kernel) rfl cce8, os_il (by decide +kernel), os_ior (by decide +kernel), os_iast hE (t0 := 1) (by decide +kernel) rfl cce8 cwr8 cok8, os_iconst (n := 1) (by decide +kernel) (by decide +kernel), os_is_n (j := 2) (by decide +kernel) rfl (by decide), os_inc (n := 1) (by decide +kernel) (by decide +kernel) (by decide), os_go (off := -81) (by decide +kernel) (by decide), os_inc (n := 1) (by decide +kernel) (by decide +kernel) (by decide), os_go (off := -103) (by decide +kernel) (by decide), os_ret0 hE (by decide +kernel) rfl⟩
def kT_isPlain (P : MethodName × List Cond × Room → List qm_v → cG → Option qm_v → cG → Prop) : List (Nat × qm_op cG) := [(0, o_al 0), (1, o_get 1 rdV0), (4, o_ic (3)), (5, o_icne 19), (8, o_al 0), (9, o_get 1 rdV2), (12, o_ifne 19), (15, o_ic (1)), (16, o_go 20), (19, o_ic (0)), (20, o_retz)]
set_option maxRecDepth 20000 in
theorem sT_isPlain {E : cEnv} (hE : cOk E) : qm_cok (cK E (rmL 1) prog_5_method_10_code 1 "FunctionRows$Texts" (wsT yT_isPlain prog_5_method_10_code 1 (some .boolean)) (some .boolean)) (kT_isPlain (cSd E)) := ⟨os_al_n (j := 0) (by decide +kernel) rfl, os_get (idx := 9) (f := 0) (ci := 0) (C := "FunctionRows$Value") (T := FV) (N := 5) (by decide +kernel) rfl (fun w h => tb_in (fiV w h)) (by decide) (tb_in lkT_9) glV0, os_iconst (n := 3) (by decide +kernel) (by decide +kernel), os_icne (off := 14) (by decide +kernel) (by decide), os_al_n (j := 0) (by decide +kernel) rfl, os_get (idx := 63) (f := 2) (ci := 0) (C := "FunctionRows$Value") (T := FV) (N := 5) (by decide +kernel) rfl (fun w h => tb_in (fiV w h)) (by decide) (tb_in lkT_63) glV2, os_ifne (off := 7) (by decide +kernel) (by decide), os_iconst (n := 1) (by decide +kernel) (by decide +kernel), os_go (off := 4) (by decide +kernel) (by decide), os_iconst (n := 0) (by decide +kernel) (by decide +kernel), os_retz hE (by decide +kernel) rfl⟩
def kU_truth (P : MethodName × List Cond × Room → List qm_v → cG → Option qm_v → cG → Prop) : List (Nat × qm_op cG) := [(0, o_il 0), (1, o_ifeq 8), (4, o_ic (1)), (5, o_go 9), (8, o_ic (0)), (9, o_reti)]
set_option maxRecDepth 20000 in
theorem sU_truth {E : cEnv} (hE : cOk E) : qm_cok (cK E (rmL 1) prog_6_method_4_code 1 "FunctionRows$Truths" (wsT yU_truth prog_6_method_4_code 1 (some .int)) (some .int)) (kU_truth (cSd E)) := ⟨os_il_n (j := 0) (by decide +kernel) rfl, os_ifeq (off := 7) (by decide +kernel) (by decide), os_iconst (n := 1) (by decide +kernel) (by decide +kernel), os_go (off := 4) (by decide +kernel) (by decide), os_iconst (n := 0) (by decide +kernel) (by decide +kernel), os_reti hE (by decide +kernel) rfl⟩
def kU_other (P : MethodName × List Cond × Room → List qm_v → cG → Option qm_v → cG → Prop) : List (Nat × qm_op cG) := [(0, o_il 0), (1, o_ic (-1)), (2, o_icne 9), (5, o_ic (-1)), (6, o_go 12), (9, o_ic (1)), (10, o_il 0), (11, o_isub), (12, o_reti)]
set_option maxRecDepth 20000 in
theorem sU_other {E : cEnv} (hE : cOk E) : qm_cok (cK E (rmL 1) prog_6_method_5_code 1 "FunctionRows$Truths" (wsT yU_other prog_6_method_5_code 1 (some .int)) (some .int)) (kU_other (cSd E)) := ⟨os_il_n (j := 0) (by decide +kernel) rfl, os_iconst (n := -1) (by decide +kernel) (by decide +kernel), os_icne (off := 7) (by decide +kernel) (by decide), os_iconst (n := -1) (by decide +kernel) (by decide +kernel), os_go (off := 6) (by decide +kernel) (by decide), os_iconst (n := 1) (by decide +kernel) (by decide +kernel), os_il_n (j := 0) (by decide +kernel) rfl, os_isub (by decide +kernel), os_reti hE (by decide +kernel) rfl⟩
def kU_both (P : MethodName × List Cond × Room → List qm_v → cG → Option qm_v → cG → Prop) : List (Nat × qm_op cG) := [(0, o_il 0), (1, o_ifeq 8), (4, o_il 1), (5, o_ifne 10), (8, o_ic (0)), (9, o_reti), (10, o_il 0), (11, o_ic (1)), (12, o_icne 24), (15, o_il 1), (16, o_ic (1)), (17, o_icne 24), (20, o_ic (1)), (21, o_go 25), (24, o_ic (-1)), (25, o_reti)]
set_option maxRecDepth 20000 in
theorem sU_both {E : cEnv} (hE : cOk E) : qm_cok (cK E (rmL 1) prog_6_method_6_code 2 "FunctionRows$Truths" (wsT yU_both prog_6_method_6_code 2 (some .int)) (some .int)) (kU_both (cSd E)) := ⟨os_il_n (j := 0) (by decide +kernel) rfl, os_ifeq (off := 7) (by decide +kernel) (by decide), os_il_n (j := 1) (by decide +kernel) rfl, os_ifne (off := 5) (by decide +kernel) (by decide), os_iconst (n := 0) (by decide +kernel) (by decide +kernel), os_reti hE (by decide +kernel) rfl, os_il_n (j := 0) (by decide +kernel) rfl, os_iconst (n := 1) (by decide +kernel) (by decide +kernel), os_icne (off := 12) (by decide +kernel) (by decide), os_il_n (j := 1) (by decide +kernel) rfl, os_iconst (n := 1) (by decide +kernel) (by decide +kernel), os_icne (off := 7) (by decide +kernel) (by decide), os_iconst (n := 1) (by decide +kernel) (by decide +kernel), os_go (off := 4) (by decide +kernel) (by decide), os_iconst (n := -1) (by decide +kernel) (by decide +kernel), os_reti hE (by decide +kernel) rfl⟩
def kU_either (P : MethodName × List Cond × Room → List qm_v → cG → Option qm_v → cG → Prop) : List (Nat × qm_op cG) := [(0, o_il 0), (1, o_ic (1)), (2, o_iceq 10), (5, o_il 1), (6, o_ic (1)), (7, o_icne 12), (10, o_ic (1)), (11, o_reti), (12, o_il 0), (13, o_ifne 24), (16, o_il 1), (17, o_ifne 24), (20, o_ic (0)), (21, o_go 25), (24, o_ic (-1)), (25, o_reti)]
set_option maxRecDepth 20000 in
theorem sU_either {E : cEnv} (hE : cOk E) : qm_cok (cK E (rmL 1) prog_6_method_7_code 2 "FunctionRows$Truths" (wsT yU_either prog_6_method_7_code 2 (some .int)) (some .int)) (kU_either (cSd E)) := ⟨os_il_n (j := 0) (by decide +kernel) rfl, os_iconst (n := 1) (by decide +kernel) (by decide +kernel), os_iceq (off := 8) (by decide +kernel) (by decide), os_il_n (j := 1) (by decide +kernel) rfl, os_iconst (n := 1) (by decide +kernel) (by decide +kernel), os_icne (off := 5) (by decide +kernel) (by decide), os_iconst (n := 1) (by decide +kernel) (by decide +kernel), os_reti hE (by decide +kernel) rfl, os_il_n (j := 0) (by decide +kernel) rfl, os_ifne (off := 11) (by decide +kernel) (by decide), os_il_n (j := 1) (by decide +kernel) rfl, os_ifne (off := 7) (by decide +kernel) (by decide), os_iconst (n := 0) (by decide +kernel) (by decide +kernel), os_go (off := 4) (by decide +kernel) (by decide), os_iconst (n := -1) (by decide +kernel) (by decide +kernel), os_reti hE (by decide +kernel) rfl⟩
def kV_setError (P : MethodName × List Cond × Room → List qm_v → cG → Option qm_v → cG → Prop) : List (Nat × qm_op cG) := [(0, o_al 0), (1, o_ic (0)), (2, o_put 1 wrV0), (5, o_ret0)]
set_option maxRecDepth 20000 in
theorem sV_setError {E : cEnv} (hE : cOk E) : qm_cok (cK E (rmL 1) prog_7_method_2_code 1 "FunctionRows$Value" (wsT yV_setError prog_7_method_2_code 1 none) none) (kV_setError (cSd E)) := ⟨os_al_n (j := 0) (by decide +kernel) rfl, os_iconst (n := 0) (by decide +kernel) (by decide +kernel), os_put hE (idx := 15) (f := 0) (ci := 0) (C := "FunctionRows$Value") (T := FV) (N := 5) (ty0 := ftV) (by decide +kernel) rfl (fun w h => tb_in (fiV w h)) ftV_ok fnV (by decide) (tb_in lkV_15) rfl (by decide +kernel) plV0, os_ret0 hE (by decide +kernel) rfl⟩
def kV_setTruth (P : MethodName × List Cond × Room → List qm_v → cG → Option qm_v → cG → Prop) : List (Nat × qm_op cG) := [(0, o_al 0), (1, o_il 1), (2, o_ic (-1)), (3, o_icne 10), (6, o_ic (0)), (7, o_go 11), (10, o_ic (1)), (11, o_put 1 wrV0), (14, o_al 0), (15, o_il 1), (16, o_i2l), (17, o_put 1 wrV1), (20, o_ret0)]
set_option maxRecDepth 20000 in
theorem sV_setTruth {E : cEnv} (hE : cOk E) : qm_cok (cK E (rmL 1) prog_7_method_3_code 2 "FunctionRows$Value" (wsT yV_setTruth prog_7_method_3_code 2 none) none) (kV_setTruth (cSd E)) := ⟨os_al_n (j := 0) (by decide +kernel) rfl, os_il_n (j := 1) (by decide +kernel) rfl, os_iconst (n := -1) (by decide +kernel) (by decide +kernel), os_icne (off := 7) (by decide +kernel) (by decide), os_iconst (n := 0) (by decide +kernel) (by decide +kernel), os_go (off := 4) (by decide +kernel) (by decide), os_iconst (n := 1) (by decide +kernel) (by decide +kernel), os_put hE (idx := 15) (f := 0) (ci := 0) (C := "FunctionRows$Value") (T := FV) (N := 5) (ty0 := ftV) (by decide +kernel) rfl (fun w h => tb_in (fiV w h)) ftV_ok fnV (by decide) (tb_in lkV_15) rfl (by decide +kernel) plV0, os_al_n (j := 0) (by decide +kernel) rfl, os_il_n (j := 1) (by decide +kernel) rfl, os_i2l (by decide +kernel), os_put hE (idx := 19) (f := 1) (ci := 0) (C := "FunctionRows$Value") (T := FV) (N := 5) (ty0 := ftV) (by decide +kernel) rfl (fun w h => tb_in (fiV w h)) ftV_ok fnV (by decide) (tb_in lkV_19) rfl (by decide +kernel) plV1, os_ret0 hE (by decide +kernel) rfl⟩
def kV_setNode (P : MethodName × List Cond × Room → List qm_v → cG → Option qm_v → cG → Prop) : List (Nat × qm_op cG) := [(0, o_al 0), (1, o_ic (4)), (2, o_put 1 wrV0), (5, o_al 0), (6, o_il 1), (7, o_i2l), (8, o_put 1 wrV1), (11, o_ret0)]
set_option maxRecDepth 20000 in
theorem sV_setNode {E : cEnv} (hE : cOk E) : qm_cok (cK E (rmL 1) prog_7_method_5_code 2 "FunctionRows$Value" (wsT yV_setNode prog_7_method_5_code 2 none) none) (kV_setNode (cSd E)) := ⟨os_al_n (j := 0) (by decide +kernel) rfl, os_iconst (n := 4) (by decide +kernel) (by decide +kernel), os_put hE (idx := 15) (f := 0) (ci := 0) (C := "FunctionRows$Value") (T := FV) (N := 5) (ty0 := ftV) (by decide +kernel) rfl (fun w h => tb_in (fiV w h)) ftV_ok fnV (by decide) (tb_in lkV_15) rfl (by decide +kernel) plV0, os_al_n (j := 0) (by decide +kernel) rfl, os_il_n (j := 1) (by decide +kernel) rfl, os_i2l (by decide +kernel), os_put hE (idx := 19) (f := 1) (ci := 0) (C := "FunctionRows$Value") (T := FV) (N := 5) (ty0 := ftV) (by decide +kernel) rfl (fun w h => tb_in (fiV w h)) ftV_ok fnV (by decide) (tb_in lkV_19) rfl (by decide +kernel) plV1, os_ret0 hE (by decide +kernel) rfl⟩
def kV_startText (P : MethodName × List Cond × Room → List qm_v → cG → Option qm_v → cG → Prop) : List (Nat × qm_op cG) := [(0, o_al 0), (1, o_ic (3)), (2, o_put 1 wrV0), (5, o_al 0), (6, o_il 1), (7, o_put 1 wrV2), (10, o_al 0), (11, o_ic (0)), (12, o_put 1 wrV3), (15, o_ret0)]
set_option maxRecDepth 20000 in
theorem sV_startText {E : cEnv} (hE : cOk E) : qm_cok (cK E (rmL 1) prog_7_method_6_code 2 "FunctionRows$Value" (wsT yV_startText prog_7_method_6_code 2 none) none) (kV_startText (cSd E)) := ⟨os_al_n (j := 0) (by decide +kernel) rfl, os_iconst (n := 3) (by decide +kernel) (by decide +kernel), os_put hE (idx := 15) (f := 0) (ci := 0) (C := "FunctionRows$Value") (T := FV) (N := 5) (ty0 := ftV) (by decide +kernel) rfl (fun w h => tb_in (fiV w h)) ftV_ok fnV (by decide) (tb_in lkV_15) rfl (by decide +kernel) plV0, os_al_n (j := 0) (by decide +kernel) rfl, os_il_n (j := 1) (by decide +kernel) rfl, os_put hE (idx := 27) (f := 2) (ci := 0) (C := "FunctionRows$Value") (T := FV) (N := 5) (ty0 := ftV) (by decide +kernel) rfl (fun w h => tb_in (fiV w h)) ftV_ok fnV (by decide) (tb_in lkV_27) rfl (by decide +kernel) plV2, os_al_n (j := 0) (by decide +kernel) rfl, os_iconst (n := 0) (by decide +kernel) (by decide +kernel), os_put hE (idx := 30) (f := 3) (ci := 0) (C := "FunctionRows$Value") (T := FV) (N := 5) (ty0 := ftV) (by decide +kernel) rfl (fun w h => tb_in (fiV w h)) ftV_ok fnV (by decide) (tb_in lkV_30) rfl (by decide +kernel) plV3, os_ret0 hE (by decide +kernel) rfl⟩
def kV_append (P : MethodName × List Cond × Room → List qm_v → cG → Option qm_v → cG → Prop) : List (Nat × qm_op cG) := [(0, o_al 0), (1, o_get 1 rdV0), (4, o_ic (3)), (5, o_iceq 9), (8, o_ret0), (9, o_al 0), (10, o_get 1 rdV3), (13, o_ic (24)), (15, o_iclt 24), (18, o_al 0), (19, o_ic (0)), (20, o_put 1 wrV0), (23, o_ret0), (24, o_al 0), (25, o_get 1 rdV4), (28, o_al 0), (29, o_get 1 rdV3), (32, o_il 1), (33, o_i2b), (34, o_ast 2 cn2 cw2), (35, o_al 0), (36, o_stk f_dup), (37, o_get 1 rdV3), (40, o_ic (1)), (41, o_iadd), (42, o_put 1 wrV3), (45, o_ret0)]
set_option maxRecDepth 20000 in
theorem sV_append {E : cEnv} (hE : cOk E) : qm_cok (cK E (rmL 1) prog_7_method_7_code 2 "FunctionRows$Value" (wsT yV_append prog_7_method_7_code 2 none) none) (kV_append (cSd E)) := ⟨os_al_n (j := 0) (by decide +kernel) rfl, os_get (idx := 15) (f := 0) (ci := 0) (C := "FunctionRows$Value") (T := FV) (N := 5) (by decide +kernel) rfl (fun w h => tb_in (fiV w h)) (by decide) (tb_in lkV_15) glV0, os_iconst (n := 3) (by decide +kernel) (by decide +kernel), os_iceq (off := 4) (by decide +kernel) (by decide), os_ret0 hE (by decide +kernel) rfl, os_al_n (j := 0) (by decide +kernel) rfl, os_get (idx := 30) (f := 3) (ci := 0) (C := "FunctionRows$Value") (T := FV) (N := 5) (by decide +kernel) rfl (fun w h => tb_in (fiV w h)) (by decide) (tb_in lkV_30) glV3, os_bipush (n := 24) (by decide +kernel) (by decide +kernel), os_iclt (off := 9) (by decide +kernel) (by decide), os_al_n (j := 0) (by decide +kernel) rfl, os_iconst (n := 0) (by decide +kernel) (by decide +kernel), os_put hE (idx := 15) (f := 0) (ci := 0) (C := "FunctionRows$Value") (T := FV) (N := 5) (ty0 := ftV) (by decide +kernel) rfl (fun w h => tb_in (fiV w h)) ftV_ok fnV (by decide) (tb_in lkV_15) rfl (by decide +kernel) plV0, os_ret0 hE (by decide +kernel) rfl, os_al_n (j := 0) (by decide +kernel) rfl, os_get (idx := 9) (f := 4) (ci := 0) (C := "FunctionRows$Value") (T := FV) (N := 5) (by decide +kernel) rfl (fun w h => tb_in (fiV w h)) (by decide) (tb_in lkV_9) glV4, os_al_n (j := 0) (by decide +kernel) rfl, os_get (idx := 30) (f := 3) (ci := 0) (C := "FunctionRows$Value") (T := FV) (N := 5) (by decide +kernel) rfl (fun w h => tb_in (fiV w h)) (by decide) (tb_in lkV_30) glV3, os_il_n (j := 1) (by decide +kernel) rfl, os_i2b (by decide +kernel), os_bast hE (t0 := 0) (by decide +kernel) rfl cce2 cwr2 cok2, os_al_n (j := 0) (by decide +kernel) rfl, os_dup (by decide +kernel), os_get (idx := 30) (f := 3) (ci := 0) (C := "FunctionRows$Value") (T := FV) (N := 5) (by decide +kernel) rfl (fun w h => tb_in (fiV w h)) (by decide) (tb_in lkV_30) glV3, os_iconst (n := 1) (by decide +kernel) (by decide +kernel), os_iadd (by decide +kernel), os_put hE (idx := 30) (f := 3) (ci := 0) (C := "FunctionRows$Value") (T := FV) (N := 5) (ty0 := ftV) (by decide +kernel) rfl (fun w h => tb_in (fiV w h)) ftV_ok fnV (by decide) (tb_in lkV_30) rfl (by decide +kernel) plV3, os_ret0 hE (by decide +kernel) rfl⟩
def kV_at (P : MethodName × List Cond × Room → List qm_v → cG → Option qm_v → cG → Prop) : List (Nat × qm_op cG) := [(0, o_il 1), (1, o_iflt 27), (4, o_il 1), (5, o_al 0), (6, o_get 1 rdV3), (9, o_icge 27), (12, o_il 1), (13, o_ic (24)), (15, o_icge 27), (18, o_al 0), (19, o_get 1 rdV4), (22, o_il 1), (23, o_ald 2 cn2 cr2), (24, o_go 28), (27, o_ic (0)), (28, o_reti)]
set_option maxRecDepth 20000 in
theorem sV_at {E : cEnv} (hE : cOk E) : qm_cok (cK E (rmL 1) prog_7_method_10_code 2 "FunctionRows$Value" (wsT yV_at prog_7_method_10_code 2 (some .int)) (some .int)) (kV_at (cSd E)) := ⟨os_il_n (j := 1) (by decide +kernel) rfl, os_iflt (off := 26) (by decide +kernel) (by decide), os_il_n (j := 1) (by decide +kernel) rfl, os_al_n (j := 0) (by decide +kernel) rfl, os_get (idx := 30) (f := 3) (ci := 0) (C := "FunctionRows$Value") (T := FV) (N := 5) (by decide +kernel) rfl (fun w h => tb_in (fiV w h)) (by decide) (tb_in lkV_30) glV3, os_icge (off := 18) (by decide +kernel) (by decide), os_il_n (j := 1) (by decide +kernel) rfl, os_bipush (n := 24) (by decide +kernel) (by decide +kernel), os_icge (off := 12) (by decide +kernel) (by decide), os_al_n (j := 0) (by decide +kernel) rfl, os_get (idx := 9) (f := 4) (ci := 0) (C := "FunctionRows$Value") (T := FV) (N := 5) (by decide +kernel) rfl (fun w h => tb_in (fiV w h)) (by decide) (tb_in lkV_9) glV4, os_il_n (j := 1) (by decide +kernel) rfl, os_bald (t0 := 0) (by decide +kernel) rfl cce2, os_go (off := 4) (by decide +kernel) (by decide), os_iconst (n := 0) (by decide +kernel) (by decide +kernel), os_reti hE (by decide +kernel) rfl⟩
def kR_type (P : MethodName × List Cond × Room → List qm_v → cG → Option qm_v → cG → Prop) : List (Nat × qm_op cG) := [(0, o_il 3), (1, o_ic (1)), (2, o_iclt 11), (5, o_il 3), (6, o_ic (8)), (8, o_icle 13), (11, o_ic (-1)), (12, o_reti), (13, o_ic (0)), (14, o_is 4), (16, o_il 4), (18, o_il 3), (19, o_icge 52), (22, o_ll 1), (23, o_il 4), (25, o_call 2 (P mR_byteOf)), (28, o_is 5), (30, o_il 5), (32, o_ic (32)), (34, o_iclt 44), (37, o_il 5), (39, o_ic (126)), (41, o_icle 46), (44, o_ic (-1)), (45, o_reti), (46, o_inc 4 (1)), (49, o_go 16), (52, o_al 0), (53, o_get 0 rdR5), (56, o_il 3), (57, o_iadd), (58, o_ic (48)), (60, o_icle 66), (63, o_ic (-3)), (65, o_reti), (66, o_il 3), (67, o_ic (1)), (68, o_isub), (69, o_is 4), (71, o_il 4), (73, o_iflt 108), (76, o_al 0), (77, o_get 0 rdR4), (80, o_al 0), (81, o_get 0 rdR5), (84, o_ll 1), (85, o_il 4), (87, o_call 2 (P mR_byteOf)), (90, o_i2b), (91, o_ast 6 cn6 cw6), (92, o_al 0), (93, o_stk f_dup), (94, o_get 0 rdR5), (97, o_ic (1)), (98, o_iadd), (99, o_put 0 wrR5), (102, o_inc 4 (-1)), (105, o_go 71), (108, o_al 0), (109, o_get 0 rdR5), (112, o_reti)]
set_option maxRecDepth 20000 in
theorem sR_type {E : cEnv} (hE : cOk E) : qm_cok (cK E (rmL 2) prog_1_method_2_code 6 "FunctionRows" (wsT yR_type prog_1_method_2_code 6 (some .int)) (some .int)) (kR_type (cSd E)) := ⟨os_il_n (j := 3) (by decide +kernel) rfl, os_iconst (n := 1) (by decide +kernel) (by decide +kernel), os_iclt (off := 9) (by decide +kernel) (by decide), os_il_n (j := 3) (by decide +kernel) rfl, os_bipush (n := 8) (by decide +kernel) (by decide +kernel), os_icle (off := 5) (by decide +kernel) (by decide), os_iconst (n := -1) (by decide +kernel) (by decide +kernel), os_reti hE (by decide +kernel) rfl, os_iconst (n := 0) (by decide +kernel) (by decide +kernel), os_is (by decide +kernel) (by decide), os_il (by decide +kernel), os_il_n (j := 3) (by decide +kernel) rfl, os_icge (off := 33) (by decide +kernel) (by decide), os_ll_n (j := 1) (by decide +kernel) rfl, os_il (by decide +kernel), os_call hE (pc := 25) (idx := 38) (by decide +kernel) (cwT_s cR_byteOf inR mlR_38 stR_byteOf (by decide +kernel) (by decide)), os_is (by decide +kernel) (by decide), os_il (by decide +kernel), os_bipush (n := 32) (by decide +kernel) (by decide +kernel), os_iclt (off := 10) (by decide +kernel) (by decide), os_il (by decide +kernel), os_bipush (n := 126) (by decide +kernel) (by decide +kernel), os_icle (off := 5) (by decide +kernel) (by decide), os_iconst (n := -1) (by decide +kernel) (by decide +kernel), os_reti hE (by decide +kernel) rfl, os_inc (n := 1) (by decide +kernel) (by decide +kernel) (by decide), os_go (off := -33) (by decide +kernel) (by decide), os_al_n (j := 0) (by decide +kernel) rfl, os_get (idx := 42) (f := 5) (ci := 3) (C := "FunctionRows") (T := FR) (N := 7) (by decide +kernel) rfl (fun w h => tb_in (fiR w h)) (by decide) (tb_in lkR_42) glR5, os_il_n (j := 3) (by decide +kernel) rfl, os_iadd (by decide +kernel), os_bipush (n := 48) (by decide +kernel) (by decide +kernel), os_icle (off := 6) (by decide +kernel) (by decide), os_bipush (n := -3) (by decide +kernel) (by decide +kernel), os_reti hE (by decide +kernel) rfl, os_il_n (j := 3) (by decide +kernel) rfl, os_iconst (n := 1) (by decide +kernel) (by decide +kernel), os_isub (by decide +kernel), os_is (by decide +kernel) (by decide), os_il (by decide +kernel), os_iflt (off := 35) (by decide +kernel) (by decide), os_al_n (j := 0) (by decide +kernel) rfl, os_get (idx := 26) (f := 4) (ci := 3) (C := "FunctionRows") (T := FR) (N := 7) (by decide +kernel) rfl (fun w h => tb_in (fiR w h)) (by decide) (tb_in lkR_26) glR4, os_al_n (j := 0) (by decide +kernel) rfl, os_get (idx := 42) (f := 5) (ci := 3) (C := "FunctionRows") (T := FR) (N := 7) (by decide +kernel) rfl (fun w h => tb_in (fiR w h)) (by decide) (tb_in lkR_42) glR5, os_ll_n (j := 1) (by decide +kernel) rfl, os_il (by decide +kernel), os_call hE (pc := 87) (idx := 38) (by decide +kernel) (cwT_s cR_byteOf inR mlR_38 stR_byteOf (by decide +kernel) (by decide)), os_i2b (by decide +kernel), os_bast hE (t0 := 0) (by decide +kernel) rfl cce6 cwr6 cok6, os_al_n (j := 0) (by decide +kernel) rfl, os_dup (by decide +kernel), os_get (idx := 42) (f := 5) (ci := 3) (C := "FunctionRows") (T := FR) (N := 7) (by decide +kernel) rfl (fun w h => tb_in (fiR w h)) (by decide) (tb_in lkR_42) glR5, os_iconst (n := 1) (by decide +kernel) (by decide +kernel), os_iadd (by decide +kernel), os_put hE (idx := 42) (f := 5) (ci := 3) (C := "FunctionRows") (T := FR) (N := 7) (ty0 := ftR) (by decide +kernel) rfl (fun w h => tb_in (fiR w h)) ftR_ok fnR (by decide) (tb_in lkR_42) rfl (by decide +kernel) plR5, os_inc (n := -1) (by decide +kernel) (by decide +kernel) (by decide), os_go (off := -34) (by decide +kernel) (by decide), os_al_n (j := 0) (by decide +kernel) rfl, os_get (idx := 42) (f := 5) (ci := 3) (C := "FunctionRows") (T := FR) (N := 7) (by decide +kernel) rfl (fun w h => tb_in (fiR w h)) (by decide) (tb_in lkR_42) glR5, os_reti hE (by decide +kernel) rfl⟩
def kR_text (P : MethodName × List Cond × Room → List qm_v → cG → Option qm_v → cG → Prop) : List (Nat × qm_op cG) := [(0, o_al 0), (1, o_get 0 rdR5), (4, o_is 2), (5, o_al 0), (6, o_ic (0)), (7, o_put 0 wrR5), (10, o_il 2), (11, o_ic (24)), (13, o_icgt 26), (16, o_il 1), (17, o_iflt 26), (20, o_il 1), (21, o_ic (26)), (23, o_icle 28), (26, o_ic (-1)), (27, o_reti), (28, o_al 0), (29, o_get 0 rdR1), (32, o_ic (80)), (34, o_iclt 40), (37, o_ic (-3)), (39, o_reti), (40, o_al 0), (41, o_get 0 rdR0), (44, o_al 0), (45, o_get 0 rdR1), (48, o_aald 4 cn4 cr4), (49, o_callv 3 1 (P mE_becomeValue)), (52, o_as 3), (53, o_al 3), (54, o_il 1), (55, o_callv 1 2 (P mV_startText)), (58, o_ic (0)), (59, o_is 4), (61, o_il 4), (63, o_il 2), (64, o_icge 84), (67, o_al 3), (68, o_al 0), (69, o_get 0 rdR4), (72, o_il 4), (74, o_ald 6 cn6 cr6), (75, o_callv 1 2 (P mV_append)), (78, o_inc 4 (1)), (81, o_go 61), (84, o_al 0), (85, o_stk f_dup), (86, o_get 0 rdR1), (89, o_stk f_dupx1), (90, o_ic (1)), (91, o_iadd), (92, o_put 0 wrR1), (95, o_reti)]
set_option maxRecDepth 20000 in
theorem sR_text {E : cEnv} (hE : cOk E) : qm_cok (cK E (rmL 2) prog_1_method_3_code 5 "FunctionRows" (wsT yR_text prog_1_method_3_code 5 (some .int)) (some .int)) (kR_text (cSd E)) := ⟨os_al_n (j := 0) (by decide +kernel) rfl, os_get (idx := 42) (f := 5) (ci := 3) (C := "FunctionRows") (T := FR) (N := 7) (by decide +kernel) rfl (fun w h => tb_in (fiR w h)) (by decide) (tb_in lkR_42) glR5, os_is_n (j := 2) (by decide +kernel) rfl (by decide), os_al_n (j := 0) (by decide +kernel) rfl, os_iconst (n := 0) (by decide +kernel) (by decide +kernel), os_put hE (idx := 42) (f := 5) (ci := 3) (C := "FunctionRows") (T := FR) (N := 7) (ty0 := ftR) (by decide +kernel) rfl (fun w h => tb_in (fiR w h)) ftR_ok fnR (by decide) (tb_in lkR_42) rfl (by decide +kernel) plR5, os_il_n (j := 2) (by decide +kernel) rfl, os_bipush (n := 24) (by decide +kernel) (by decide +kernel), os_icgt (off := 13) (by decide +kernel) (by decide), os_il_n (j := 1) (by decide +kernel) rfl, os_iflt (off := 9) (by decide +kernel) (by decide), os_il_n (j := 1) (by decide +kernel) rfl, os_bipush (n := 26) (by decide +kernel) (by decide +kernel), os_icle (off := 5) (by decide +kernel) (by decide), os_iconst (n := -1) (by decide +kernel) (by decide +kernel), os_reti hE (by decide +kernel) rfl, os_al_n (j := 0) (by decide +kernel) rfl, os_get (idx := 46) (f := 1) (ci := 3) (C := "FunctionRows") (T := FR) (N := 7) (by decide +kernel) rfl (fun w h => tb_in (fiR w h)) (by decide) (tb_in lkR_46) glR1, os_bipush (n := 80) (by decide +kernel) (by decide +kernel), os_iclt (off := 6) (by decide +kernel) (by decide), os_bipush (n := -3) (by decide +kernel) (by decide +kernel), os_reti hE (by decide +kernel) rfl, os_al_n (j := 0) (by decide +kernel) rfl, os_get (idx := 11) (f := 0) (ci := 3) (C := "FunctionRows") (T := FR) (N := 7) (by decide +kernel) rfl (fun w h => tb_in (fiR w h)) (by decide) (tb_in lkR_11) glR0, os_al_n (j := 0) (by decide +kernel) rfl, os_get (idx := 46) (f := 1) (ci := 3) (C := "FunctionRows") (T := FR) (N := 7) (by decide +kernel) rfl (fun w h => tb_in (fiR w h)) (by decide) (tb_in lkR_46) glR1, os_aald (t0 := 2) (by decide +kernel) rfl cce4, os_callv hE (pc := 49) (idx := 49) (ci := 1) (by decide +kernel) rfl crc3 (cwT_v cE_becomeValue inE mlR_49 imE_becomeValue seE_becomeValue (by decide +kernel) (by decide)), os_as_n (j := 3) (by decide +kernel) rfl (by decide), os_al_n (j := 3) (by decide +kernel) rfl, os_il_n (j := 1) (by decide +kernel) rfl, os_callv hE (pc := 55) (idx := 53) (ci := 0) (by decide +kernel) rfl crc1 (cwT_v cV_startText inV mlR_53 imV_startText seV_startText (by decide +kernel) (by decide)), os_iconst (n := 0) (by decide +kernel) (by decide +kernel), os_is (by decide +kernel) (by decide), os_il (by decide +kernel), os_il_n (j := 2) (by decide +kernel) rfl, os_icge (off := 20) (by decide +kernel) (by decide), os_al_n (j := 3) (by decide +kernel) rfl, os_al_n (j := 0) (by decide +kernel) rfl, os_get (idx := 26) (f := 4) (ci := 3) (C := "FunctionRows") (T := FR) (N := 7) (by decide +kernel) rfl (fun w h => tb_in (fiR w h)) (by decide) (tb_in lkR_26) glR4, os_il (by decide +kernel), os_bald (t0 := 0) (by decide +kernel) rfl cce6, os_callv hE (pc := 75) (idx := 57) (ci := 0) (by decide +kernel) rfl crc1 (cwT_v cV_append inV mlR_57 imV_append seV_append (by decide +kernel) (by decide)), os_inc (n := 1) (by decide +kernel) (by decide +kernel) (by decide), os_go (off := -20) (by decide +kernel) (by decide), os_al_n (j := 0) (by decide +kernel) rfl, os_dup (by decide +kernel), os_get (idx := 46) (f := 1) (ci := 3) (C := "FunctionRows") (T := FR) (N := 7) (by decide +kernel) rfl (fun w h => tb_in (fiR w h)) (by decide) (tb_in lkR_46) glR1, os_dupx1 (by decide +kernel), os_iconst (n := 1) (by decide +kernel) (by decide +kernel), os_iadd (by decide +kernel), os_put hE (idx := 46) (f := 1) (ci := 3) (C := "FunctionRows") (T := FR) (N := 7) (ty0 := ftR) (by decide +kernel) rfl (fun w h => tb_in (fiR w h)) ftR_ok fnR (by decide) (tb_in lkR_46) rfl (by decide +kernel) plR1, os_reti hE (by decide +kernel) rfl⟩
def kR_leaf (P : MethodName × List Cond × Room → List qm_v → cG → Option qm_v → cG → Prop) : List (Nat × qm_op cG) := [(0, o_il 2), (1, o_iflt 12), (4, o_il 2), (5, o_il 1), (6, o_call 1 (P mR_lastLeaf)), (9, o_icle 14), (12, o_ic (-1)), (13, o_reti), (14, o_al 0), (15, o_get 0 rdR1), (18, o_ic (80)), (20, o_iclt 26), (23, o_ic (-3)), (25, o_reti), (26, o_al 0), (27, o_get 0 rdR0), (30, o_al 0), (31, o_get 0 rdR1), (34, o_aald 4 cn4 cr4), (35, o_as 3), (36, o_il 1), (37, o_ifne 54), (40, o_al 3), (41, o_il 2), (42, o_al 0), (43, o_get 0 rdR2), (46, o_il 2), (47, o_aald 5 cn5 cr5), (48, o_callv 3 3 (P mE_becomeVariable)), (51, o_go 78), (54, o_il 1), (55, o_ic (1)), (56, o_icne 70), (59, o_al 3), (60, o_callv 3 1 (P mE_becomeValue)), (63, o_il 2), (64, o_callv 1 2 (P mV_setTruth)), (67, o_go 78), (70, o_al 3), (71, o_callv 3 1 (P mE_becomeValue)), (74, o_il 2), (75, o_callv 1 2 (P mV_setNode)), (78, o_al 0), (79, o_stk f_dup), (80, o_get 0 rdR1), (83, o_stk f_dupx1), (84, o_ic (1)), (85, o_iadd), (86, o_put 0 wrR1), (89, o_reti)]
set_option maxRecDepth 20000 in
theorem sR_leaf {E : cEnv} (hE : cOk E) : qm_cok (cK E (rmL 2) prog_1_method_5_code 4 "FunctionRows" (wsT yR_leaf prog_1_method_5_code 4 (some .int)) (some .int)) (kR_leaf (cSd E)) := ⟨os_il_n (j := 2) (by decide +kernel) rfl, os_iflt (off := 11) (by decide +kernel) (by decide), os_il_n (j := 2) (by decide +kernel) rfl, os_il_n (j := 1) (by decide +kernel) rfl, os_call hE (pc := 6) (idx := 68) (by decide +kernel) (cwT_s cR_lastLeaf inR mlR_68 stR_lastLeaf (by decide +kernel) (by decide)), os_icle (off := 5) (by decide +kernel) (by decide), os_iconst (n := -1) (by decide +kernel) (by decide +kernel), os_reti hE (by decide +kernel) rfl, os_al_n (j := 0) (by decide +kernel) rfl, os_get (idx := 46) (f := 1) (ci := 3) (C := "FunctionRows") (T := FR) (N := 7) (by decide +kernel) rfl (fun w h => tb_in (fiR w h)) (by decide) (tb_in lkR_46) glR1, os_bipush (n := 80) (by decide +kernel) (by decide +kernel), os_iclt (off := 6) (by decide +kernel) (by decide), os_bipush (n := -3) (by decide +kernel) (by decide +kernel), os_reti hE (by decide +kernel) rfl, os_al_n (j := 0) (by decide +kernel) rfl, os_get (idx := 11) (f := 0) (ci := 3) (C := "FunctionRows") (T := FR) (N := 7) (by decide +kernel) rfl (fun w h => tb_in (fiR w h)) (by decide) (tb_in lkR_11) glR0, os_al_n (j := 0) (by decide +kernel) rfl, os_get (idx := 46) (f := 1) (ci := 3) (C := "FunctionRows") (T := FR) (N := 7) (by decide +kernel) rfl (fun w h => tb_in (fiR w h)) (by decide) (tb_in lkR_46) glR1, os_aald (t0 := 2) (by decide +kernel) rfl cce4, os_as_n (j := 3) (by decide +kernel) rfl (by decide), os_il_n (j := 1) (by decide +kernel) rfl, os_ifne (off := 17) (by decide +kernel) (by decide), os_al_n (j := 3) (by decide +kernel) rfl, os_il_n (j := 2) (by decide +kernel) rfl, os_al_n (j := 0) (by decide +kernel) rfl, os_get (idx := 17) (f := 2) (ci := 3) (C := "FunctionRows") (T := FR) (N := 7) (by decide +kernel) rfl (fun w h => tb_in (fiR w h)) (by decide) (tb_in lkR_17) glR2, os_il_n (j := 2) (by decide +kernel) rfl, os_aald (t0 := 3) (by decide +kernel) rfl cce5, os_callv hE (pc := 48) (idx := 72) (ci := 1) (by decide +kernel) rfl crc3 (cwT_v cE_becomeVariable inE mlR_72 imE_becomeVariable seE_becomeVariable (by decide +kernel) (by decide)), os_go (off := 27) (by decide +kernel) (by decide), os_il_n (j := 1) (by decide +kernel) rfl, os_iconst (n := 1) (by decide +kernel) (by decide +kernel), os_icne (off := 14) (by decide +kernel) (by decide), os_al_n (j := 3) (by decide +kernel) rfl, os_callv hE (pc := 60) (idx := 49) (ci := 1) (by decide +kernel) rfl crc3 (cwT_v cE_becomeValue inE mlR_49 imE_becomeValue seE_becomeValue (by decide +kernel) (by decide)), os_il_n (j := 2) (by decide +kernel) rfl, os_callv hE (pc := 64) (idx := 76) (ci := 0) (by decide +kernel) rfl crc1 (cwT_v cV_setTruth inV mlR_76 imV_setTruth seV_setTruth (by decide +kernel) (by decide)), os_go (off := 11) (by decide +kernel) (by decide), os_al_n (j := 3) (by decide +kernel) rfl, os_callv hE (pc := 71) (idx := 49) (ci := 1) (by decide +kernel) rfl crc3 (cwT_v cE_becomeValue inE mlR_49 imE_becomeValue seE_becomeValue (by decide +kernel) (by decide)), os_il_n (j := 2) (by decide +kernel) rfl, os_callv hE (pc := 75) (idx := 79) (ci := 0) (by decide +kernel) rfl crc1 (cwT_v cV_setNode inV mlR_79 imV_setNode seV_setNode (by decide +kernel) (by decide)), os_al_n (j := 0) (by decide +kernel) rfl, os_dup (by decide +kernel), os_get (idx := 46) (f := 1) (ci := 3) (C := "FunctionRows") (T := FR) (N := 7) (by decide +kernel) rfl (fun w h => tb_in (fiR w h)) (by decide) (tb_in lkR_46) glR1, os_dupx1 (by decide +kernel), os_iconst (n := 1) (by decide +kernel) (by decide +kernel), os_iadd (by decide +kernel), os_put hE (idx := 46) (f := 1) (ci := 3) (C := "FunctionRows") (T := FR) (N := 7) (ty0 := ftR) (by decide +kernel) rfl (fun w h => tb_in (fiR w h)) ftR_ok fnR (by decide) (tb_in lkR_46) rfl (by decide +kernel) plR1, os_reti hE (by decide +kernel) rfl⟩
def kR_call (P : MethodName × List Cond × Room → List qm_v → cG → Option qm_v → cG → Prop) : List (Nat × qm_op cG) := [(0, o_al 0), (1, o_il 1), (2, o_callv 0 2 (P mR_takes)), (5, o_is 5), (7, o_il 5), (9, o_ic (-1)), (10, o_icne 15), (13, o_ic (-1)), (14, o_reti), (15, o_il 5), (17, o_ic (1)), (18, o_icle 25), (21, o_il 3), (22, o_go 26), (25, o_il 2), (26, o_is 6), (28, o_il 5), (30, o_ic (2)), (31, o_icle 39), (34, o_il 4), (36, o_go 40), (39, o_il 2), (40, o_is 7), (42, o_al 0), (43, o_il 2), (44, o_callv 0 2 (P mR_isExpression)), (47, o_ifeq 68), (50, o_al 0), (51, o_il 6), (53, o_callv 0 2 (P mR_isExpression)), (56, o_ifeq 68), (59, o_al 0), (60, o_il 7), (62, o_callv 0 2 (P mR_isExpression)), (65, o_ifne 70), (68, o_ic (-1)), (69, o_reti), (70, o_al 0), (71, o_get 0 rdR1), (74, o_ic (80)), (76, o_iclt 82), (79, o_ic (-3)), (81, o_reti), (82, o_al 0), (83, o_get 0 rdR0), (86, o_al 0), (87, o_get 0 rdR1), (90, o_aald 4 cn4 cr4), (91, o_il 1), (92, o_al 0), (93, o_get 0 rdR0), (96, o_il 2), (97, o_aald 4 cn4 cr4), (98, o_al 0), (99, o_get 0 rdR0), (102, o_il 6), (104, o_aald 4 cn4 cr4), (105, o_al 0), (106, o_get 0 rdR0), (109, o_il 7), (111, o_aald 4 cn4 cr4), (112, o_callv 3 5 (P mE_becomeCall)), (115, o_al 0), (116, o_stk f_dup), (117, o_get 0 rdR1), (120, o_stk f_dupx1), (121, o_ic (1)), (122, o_iadd), (123, o_put 0 wrR1), (126, o_reti)]
set_option maxRecDepth 20000 in
theorem sR_call {E : cEnv} (hE : cOk E) : qm_cok (cK E (rmL 2) prog_1_method_6_code 8 "FunctionRows" (wsT yR_call prog_1_method_6_code 8 (some .int)) (some .int)) (kR_call (cSd E)) := ⟨os_al_n (j := 0) (by decide +kernel) rfl, os_il_n (j := 1) (by decide +kernel) rfl, os_callv hE (pc := 2) (idx := 82) (ci := 3) (by decide +kernel) rfl crc0 (cwT_v cR_takes inR mlR_82 imR_takes seR_takes (by decide +kernel) (by decide)), os_is (by decide +kernel) (by decide), os_il (by decide +kernel), os_iconst (n := -1) (by decide +kernel) (by decide +kernel), os_icne (off := 5) (by decide +kernel) (by decide), os_iconst (n := -1) (by decide +kernel) (by decide +kernel), os_reti hE (by decide +kernel) rfl, os_il (by decide +kernel), os_iconst (n := 1) (by decide +kernel) (by decide +kernel), os_icle (off := 7) (by decide +kernel) (by decide), os_il_n (j := 3) (by decide +kernel) rfl, os_go (off := 4) (by decide +kernel) (by decide), os_il_n (j := 2) (by decide +kernel) rfl, os_is (by decide +kernel) (by decide), os_il (by decide +kernel), os_iconst (n := 2) (by decide +kernel) (by decide +kernel), os_icle (off := 8) (by decide +kernel) (by decide), os_il (by decide +kernel), os_go (off := 4) (by decide +kernel) (by decide), os_il_n (j := 2) (by decide +kernel) rfl, os_is (by decide +kernel) (by decide), os_al_n (j := 0) (by decide +kernel) rfl, os_il_n (j := 2) (by decide +kernel) rfl, os_callv hE (pc := 44) (idx := 85) (ci := 3) (by decide +kernel) rfl crc0 (cwT_v cR_isExpression inR mlR_85 imR_isExpression seR_isExpression (by decide +kernel) (by decide)), os_ifeq (off := 21) (by decide +kernel) (by decide), os_al_n (j := 0) (by decide +kernel) rfl, os_il (by decide +kernel), os_callv hE (pc := 53) (idx := 85) (ci := 3) (by decide +kernel) rfl crc0 (cwT_v cR_isExpression inR mlR_85 imR_isExpression seR_isExpression (by decide +kernel) (by decide)), os_ifeq (off := 12) (by decide +kernel) (by decide), os_al_n (j := 0) (by decide +kernel) rfl, os_il (by decide +kernel), os_callv hE (pc := 62) (idx := 85) (ci := 3) (by decide +kernel) rfl crc0 (cwT_v cR_isExpression inR mlR_85 imR_isExpression seR_isExpression (by decide +kernel) (by decide)), os_ifne (off := 5) (by decide +kernel) (by decide), os_iconst (n := -1) (by decide +kernel) (by decide +kernel), os_reti hE (by decide +kernel) rfl, os_al_n (j := 0) (by decide +kernel) rfl, os_get (idx := 46) (f := 1) (ci := 3) (C := "FunctionRows") (T := FR) (N := 7) (by decide +kernel) rfl (fun w h => tb_in (fiR w h)) (by decide) (tb_in lkR_46) glR1, os_bipush (n := 80) (by decide +kernel) (by decide +kernel), os_iclt (off := 6) (by decide +kernel) (by decide), os_bipush (n := -3) (by decide +kernel) (by decide +kernel), os_reti hE (by decide +kernel) rfl, os_al_n (j := 0) (by decide +kernel) rfl, os_get (idx := 11) (f := 0) (ci := 3) (C := "FunctionRows") (T := FR) (N := 7) (by decide +kernel) rfl (fun w h => tb_in (fiR w h)) (by decide) (tb_in lkR_11) glR0, os_al_n (j := 0) (by decide +kernel) rfl, os_get (idx := 46) (f := 1) (ci := 3) (C := "FunctionRows") (T := FR) (N := 7) (by decide +kernel) rfl (fun w h => tb_in (fiR w h)) (by decide) (tb_in lkR_46) glR1, os_aald (t0 := 2) (by decide +kernel) rfl cce4, os_il_n (j := 1) (by decide +kernel) rfl, os_al_n (j := 0) (by decide +kernel) rfl, os_get (idx := 11) (f := 0) (ci := 3) (C := "FunctionRows") (T := FR) (N := 7) (by decide +kernel) rfl (fun w h => tb_in (fiR w h)) (by decide) (tb_in lkR_11) glR0, os_il_n (j := 2) (by decide +kernel) rfl, os_aald (t0 := 2) (by decide +kernel) rfl cce4, os_al_n (j := 0) (by decide +kernel) rfl, os_get (idx := 11) (f := 0) (ci := 3) (C := "FunctionRows") (T := FR) (N := 7) (by decide +kernel) rfl (fun w h => tb_in (fiR w h)) (by decide) (tb_in lkR_11) glR0, os_il (by decide +kernel), os_aald (t0 := 2) (by decide +kernel) rfl cce4, os_al_n (j := 0) (by decide +kernel) rfl, os_get (idx := 11) (f := 0) (ci := 3) (C := "FunctionRows") (T := FR) (N := 7) (by decide +kernel) rfl (fun w h => tb_in (fiR w h)) (by decide) (tb_in lkR_11) glR0, os_il (by decide +kernel), os_aald (t0 := 2) (by decide +kernel) rfl cce4, os_callv hE (pc := 112) (idx := 89) (ci := 1) (by decide +kernel) rfl crc3 (cwT_v cE_becomeCall inE mlR_89 imE_becomeCall seE_becomeCall (by decide +kernel) (by decide)), os_al_n (j := 0) (by decide +kernel) rfl, os_dup (by decide +kernel), os_get (idx := 46) (f := 1) (ci := 3) (C := "FunctionRows") (T := FR) (N := 7) (by decide +kernel) rfl (fun w h => tb_in (fiR w h)) (by decide) (tb_in lkR_46) glR1, os_dupx1 (by decide +kernel), os_iconst (n := 1) (by decide +kernel) (by decide +kernel), os_iadd (by decide +kernel), os_put hE (idx := 46) (f := 1) (ci := 3) (C := "FunctionRows") (T := FR) (N := 7) (ty0 := ftR) (by decide +kernel) rfl (fun w h => tb_in (fiR w h)) ftR_ok fnR (by decide) (tb_in lkR_46) rfl (by decide +kernel) plR1, os_reti hE (by decide +kernel) rfl⟩
def kR_letter (P : MethodName × List Cond × Room → List qm_v → cG → Option qm_v → cG → Prop) : List (Nat × qm_op cG) := [(0, o_al 0), (1, o_get 0 rdR3), (4, o_get 1 rdV0), (7, o_ic (3)), (8, o_icne 26), (11, o_il 1), (12, o_iflt 26), (15, o_il 1), (16, o_al 0), (17, o_get 0 rdR3), (20, o_get 1 rdV3), (23, o_iclt 29), (26, o_ic (-2)), (28, o_reti), (29, o_al 0), (30, o_get 0 rdR3), (33, o_il 1), (34, o_callv 1 2 (P mV_at)), (37, o_reti)]
set_option maxRecDepth 20000 in
theorem sR_letter {E : cEnv} (hE : cOk E) : qm_cok (cK E (rmL 2) prog_1_method_11_code 2 "FunctionRows" (wsT yR_letter prog_1_method_11_code 2 (some .int)) (some .int)) (kR_letter (cSd E)) := ⟨os_al_n (j := 0) (by decide +kernel) rfl, os_get (idx := 22) (f := 3) (ci := 3) (C := "FunctionRows") (T := FR) (N := 7) (by decide +kernel) rfl (fun w h => tb_in (fiR w h)) (by decide) (tb_in lkR_22) glR3, os_get (idx := 119) (f := 0) (ci := 0) (C := "FunctionRows$Value") (T := FV) (N := 5) (by decide +kernel) rfl (fun w h => tb_in (fiV w h)) (by decide) (tb_in lkR_119) glV0, os_iconst (n := 3) (by decide +kernel) (by decide +kernel), os_icne (off := 18) (by decide +kernel) (by decide), os_il_n (j := 1) (by decide +kernel) rfl, os_iflt (off := 14) (by decide +kernel) (by decide), os_il_n (j := 1) (by decide +kernel) rfl, os_al_n (j := 0) (by decide +kernel) rfl, os_get (idx := 22) (f := 3) (ci := 3) (C := "FunctionRows") (T := FR) (N := 7) (by decide +kernel) rfl (fun w h => tb_in (fiR w h)) (by decide) (tb_in lkR_22) glR3, os_get (idx := 124) (f := 3) (ci := 0) (C := "FunctionRows$Value") (T := FV) (N := 5) (by decide +kernel) rfl (fun w h => tb_in (fiV w h)) (by decide) (tb_in lkR_124) glV3, os_iclt (off := 6) (by decide +kernel) (by decide), os_bipush (n := -2) (by decide +kernel) (by decide +kernel), os_reti hE (by decide +kernel) rfl, os_al_n (j := 0) (by decide +kernel) rfl, os_get (idx := 22) (f := 3) (ci := 3) (C := "FunctionRows") (T := FR) (N := 7) (by decide +kernel) rfl (fun w h => tb_in (fiR w h)) (by decide) (tb_in lkR_22) glR3, os_il_n (j := 1) (by decide +kernel) rfl, os_callv hE (pc := 34) (idx := 134) (ci := 0) (by decide +kernel) rfl crc1 (cwT_v cV_at inV mlR_134 imV_at seV_at (by decide +kernel) (by decide)), os_reti hE (by decide +kernel) rfl⟩
def kR_drop (P : MethodName × List Cond × Room → List qm_v → cG → Option qm_v → cG → Prop) : List (Nat × qm_op cG) := [(0, o_il 1), (1, o_call 1 (P mR_isVariable)), (4, o_ifne 9), (7, o_ic (-1)), (8, o_reti), (9, o_al 0), (10, o_get 0 rdR2), (13, o_il 1), (14, o_aald 5 cn5 cr5), (15, o_get 1 rdV0), (18, o_ifne 23), (21, o_ic (0)), (22, o_reti), (23, o_al 0), (24, o_get 0 rdR2), (27, o_il 1), (28, o_aald 5 cn5 cr5), (29, o_callv 1 1 (P mV_setError)), (32, o_ic (1)), (33, o_reti)]
set_option maxRecDepth 20000 in
theorem sR_drop {E : cEnv} (hE : cOk E) : qm_cok (cK E (rmL 2) prog_1_method_13_code 2 "FunctionRows" (wsT yR_drop prog_1_method_13_code 2 (some .int)) (some .int)) (kR_drop (cSd E)) := ⟨os_il_n (j := 1) (by decide +kernel) rfl, os_call hE (pc := 1) (idx := 137) (by decide +kernel) (cwT_s cR_isVariable inR mlR_137 stR_isVariable (by decide +kernel) (by decide)), os_ifne (off := 5) (by decide +kernel) (by decide), os_iconst (n := -1) (by decide +kernel) (by decide +kernel), os_reti hE (by decide +kernel) rfl, os_al_n (j := 0) (by decide +kernel) rfl, os_get (idx := 17) (f := 2) (ci := 3) (C := "FunctionRows") (T := FR) (N := 7) (by decide +kernel) rfl (fun w h => tb_in (fiR w h)) (by decide) (tb_in lkR_17) glR2, os_il_n (j := 1) (by decide +kernel) rfl, os_aald (t0 := 3) (by decide +kernel) rfl cce5, os_get (idx := 119) (f := 0) (ci := 0) (C := "FunctionRows$Value") (T := FV) (N := 5) (by decide +kernel) rfl (fun w h => tb_in (fiV w h)) (by decide) (tb_in lkR_119) glV0, os_ifne (off := 5) (by decide +kernel) (by decide), os_iconst (n := 0) (by decide +kernel) (by decide +kernel), os_reti hE (by decide +kernel) rfl, os_al_n (j := 0) (by decide +kernel) rfl, os_get (idx := 17) (f := 2) (ci := 3) (C := "FunctionRows") (T := FR) (N := 7) (by decide +kernel) rfl (fun w h => tb_in (fiR w h)) (by decide) (tb_in lkR_17) glR2, os_il_n (j := 1) (by decide +kernel) rfl, os_aald (t0 := 3) (by decide +kernel) rfl cce5, os_callv hE (pc := 29) (idx := 140) (ci := 0) (by decide +kernel) rfl crc1 (cwT_v cV_setError inV mlR_140 imV_setError seV_setError (by decide +kernel) (by decide)), os_iconst (n := 1) (by decide +kernel) (by decide +kernel), os_reti hE (by decide +kernel) rfl⟩
def kR_uses (P : MethodName × List Cond × Room → List qm_v → cG → Option qm_v → cG → Prop) : List (Nat × qm_op cG) := [(0, o_al 0), (1, o_il 1), (2, o_callv 0 2 (P mR_isExpression)), (5, o_ifeq 20), (8, o_al 0), (9, o_get 0 rdR0), (12, o_il 1), (13, o_aald 4 cn4 cr4), (14, o_get 3 rdE7), (17, o_go 21), (20, o_ic (-1)), (21, o_reti)]
set_option maxRecDepth 20000 in
theorem sR_uses {E : cEnv} (hE : cOk E) : qm_cok (cK E (rmL 2) prog_1_method_14_code 2 "FunctionRows" (wsT yR_uses prog_1_method_14_code 2 (some .int)) (some .int)) (kR_uses (cSd E)) := ⟨os_al_n (j := 0) (by decide +kernel) rfl, os_il_n (j := 1) (by decide +kernel) rfl, os_callv hE (pc := 2) (idx := 85) (ci := 3) (by decide +kernel) rfl crc0 (cwT_v cR_isExpression inR mlR_85 imR_isExpression seR_isExpression (by decide +kernel) (by decide)), os_ifeq (off := 15) (by decide +kernel) (by decide), os_al_n (j := 0) (by decide +kernel) rfl, os_get (idx := 11) (f := 0) (ci := 3) (C := "FunctionRows") (T := FR) (N := 7) (by decide +kernel) rfl (fun w h => tb_in (fiR w h)) (by decide) (tb_in lkR_11) glR0, os_il_n (j := 1) (by decide +kernel) rfl, os_aald (t0 := 2) (by decide +kernel) rfl cce4, os_get (idx := 143) (f := 7) (ci := 1) (C := "FunctionRows$Expression") (T := FE) (N := 10) (by decide +kernel) rfl (fun w h => tb_in (fiE w h)) (by decide) (tb_in lkR_143) glE7, os_go (off := 4) (by decide +kernel) (by decide), os_iconst (n := -1) (by decide +kernel) (by decide +kernel), os_reti hE (by decide +kernel) rfl⟩
def kR_depth (P : MethodName × List Cond × Room → List qm_v → cG → Option qm_v → cG → Prop) : List (Nat × qm_op cG) := [(0, o_al 0), (1, o_il 1), (2, o_callv 0 2 (P mR_isExpression)), (5, o_ifeq 20), (8, o_al 0), (9, o_get 0 rdR0), (12, o_il 1), (13, o_aald 4 cn4 cr4), (14, o_get 3 rdE8), (17, o_go 21), (20, o_ic (-1)), (21, o_reti)]
set_option maxRecDepth 20000 in
theorem sR_depth {E : cEnv} (hE : cOk E) : qm_cok (cK E (rmL 2) prog_1_method_15_code 2 "FunctionRows" (wsT yR_depth prog_1_method_15_code 2 (some .int)) (some .int)) (kR_depth (cSd E)) := ⟨os_al_n (j := 0) (by decide +kernel) rfl, os_il_n (j := 1) (by decide +kernel) rfl, os_callv hE (pc := 2) (idx := 85) (ci := 3) (by decide +kernel) rfl crc0 (cwT_v cR_isExpression inR mlR_85 imR_isExpression seR_isExpression (by decide +kernel) (by decide)), os_ifeq (off := 15) (by decide +kernel) (by decide), os_al_n (j := 0) (by decide +kernel) rfl, os_get (idx := 11) (f := 0) (ci := 3) (C := "FunctionRows") (T := FR) (N := 7) (by decide +kernel) rfl (fun w h => tb_in (fiR w h)) (by decide) (tb_in lkR_11) glR0, os_il_n (j := 1) (by decide +kernel) rfl, os_aald (t0 := 2) (by decide +kernel) rfl cce4, os_get (idx := 146) (f := 8) (ci := 1) (C := "FunctionRows$Expression") (T := FE) (N := 10) (by decide +kernel) rfl (fun w h => tb_in (fiE w h)) (by decide) (tb_in lkR_146) glE8, os_go (off := 4) (by decide +kernel) (by decide), os_iconst (n := -1) (by decide +kernel) (by decide +kernel), os_reti hE (by decide +kernel) rfl⟩
def kE_wantOperands (P : MethodName × List Cond × Room → List qm_v → cG → Option qm_v → cG → Prop) : List (Nat × qm_op cG) := [(0, o_al 0), (1, o_callv 3 1 (P mE_isCall)), (4, o_ifeq 31), (7, o_al 0), (8, o_getq 3 rdE4), (11, o_ic (1)), (12, o_put 3 wrE9), (15, o_al 0), (16, o_getq 3 rdE5), (19, o_ic (1)), (20, o_put 3 wrE9), (23, o_al 0), (24, o_getq 3 rdE6), (27, o_ic (1)), (28, o_put 3 wrE9), (31, o_ret0)]
set_option maxRecDepth 20000 in
theorem sE_wantOperands {E : cEnv} (hE : cOk E) : qm_cok (cK E (rmL 2) prog_3_method_6_code 1 "FunctionRows$Expression" (wsT yE_wantOperands prog_3_method_6_code 1 none) none) (kE_wantOperands (cSd E)) := ⟨os_al_n (j := 0) (by decide +kernel) rfl, os_callv hE (pc := 1) (idx := 50) (ci := 1) (by decide +kernel) rfl crc3 (cwT_v cE_isCall inE mlE_50 imE_isCall seE_isCall (by decide +kernel) (by decide)), os_ifeq (off := 27) (by decide +kernel) (by decide), os_al_n (j := 0) (by decide +kernel) rfl, os_getq (idx := 34) (f := 4) (ci := 1) (C := "FunctionRows$Expression") (T := FE) (N := 10) (by decide +kernel) rfl (fun w h => tb_in (fiE w h)) (by decide) (tb_in lkE_34) glE4, os_iconst (n := 1) (by decide +kernel) (by decide +kernel), os_put hE (idx := 54) (f := 9) (ci := 1) (C := "FunctionRows$Expression") (T := FE) (N := 10) (ty0 := ftE) (by decide +kernel) rfl (fun w h => tb_in (fiE w h)) ftE_ok fnE (by decide) (tb_in lkE_54) rfl (by decide +kernel) plE9, os_al_n (j := 0) (by decide +kernel) rfl, os_getq (idx := 38) (f := 5) (ci := 1) (C := "FunctionRows$Expression") (T := FE) (N := 10) (by decide +kernel) rfl (fun w h => tb_in (fiE w h)) (by decide) (tb_in lkE_38) glE5, os_iconst (n := 1) (by decide +kernel) (by decide +kernel), os_put hE (idx := 54) (f := 9) (ci := 1) (C := "FunctionRows$Expression") (T := FE) (N := 10) (ty0 := ftE) (by decide +kernel) rfl (fun w h => tb_in (fiE w h)) ftE_ok fnE (by decide) (tb_in lkE_54) rfl (by decide +kernel) plE9, os_al_n (j := 0) (by decide +kernel) rfl, os_getq (idx := 41) (f := 6) (ci := 1) (C := "FunctionRows$Expression") (T := FE) (N := 10) (by decide +kernel) rfl (fun w h => tb_in (fiE w h)) (by decide) (tb_in lkE_41) glE6, os_iconst (n := 1) (by decide +kernel) (by decide +kernel), os_put hE (idx := 54) (f := 9) (ci := 1) (C := "FunctionRows$Expression") (T := FE) (N := 10) (ty0 := ftE) (by decide +kernel) rfl (fun w h => tb_in (fiE w h)) ftE_ok fnE (by decide) (tb_in lkE_54) rfl (by decide +kernel) plE9, os_ret0 hE (by decide +kernel) rfl⟩
def kE_given (P : MethodName × List Cond × Room → List qm_v → cG → Option qm_v → cG → Prop) : List (Nat × qm_op cG) := [(0, o_al 0), (1, o_get 3 rdE1), (4, o_ic (1)), (5, o_icne 29), (8, o_al 0), (9, o_get 3 rdE2), (12, o_get 1 rdV0), (15, o_ifeq 22), (18, o_ic (1)), (19, o_go 23), (22, o_ic (0)), (23, o_call 1 (P mU_truth)), (26, o_go 30), (29, o_ic (-1)), (30, o_reti)]
set_option maxRecDepth 20000 in
theorem sE_given {E : cEnv} (hE : cOk E) : qm_cok (cK E (rmL 2) prog_3_method_7_code 1 "FunctionRows$Expression" (wsT yE_given prog_3_method_7_code 1 (some .int)) (some .int)) (kE_given (cSd E)) := ⟨os_al_n (j := 0) (by decide +kernel) rfl, os_get (idx := 21) (f := 1) (ci := 1) (C := "FunctionRows$Expression") (T := FE) (N := 10) (by decide +kernel) rfl (fun w h => tb_in (fiE w h)) (by decide) (tb_in lkE_21) glE1, os_iconst (n := 1) (by decide +kernel) (by decide +kernel), os_icne (off := 24) (by decide +kernel) (by decide), os_al_n (j := 0) (by decide +kernel) rfl, os_get (idx := 18) (f := 2) (ci := 1) (C := "FunctionRows$Expression") (T := FE) (N := 10) (by decide +kernel) rfl (fun w h => tb_in (fiE w h)) (by decide) (tb_in lkE_18) glE2, os_get (idx := 58) (f := 0) (ci := 0) (C := "FunctionRows$Value") (T := FV) (N := 5) (by decide +kernel) rfl (fun w h => tb_in (fiV w h)) (by decide) (tb_in lkE_58) glV0, os_ifeq (off := 7) (by decide +kernel) (by decide), os_iconst (n := 1) (by decide +kernel) (by decide +kernel), os_go (off := 4) (by decide +kernel) (by decide), os_iconst (n := 0) (by decide +kernel) (by decide +kernel), os_call hE (pc := 23) (idx := 61) (by decide +kernel) (cwT_s cU_truth inU mlE_61 stU_truth (by decide +kernel) (by decide)), os_go (off := 4) (by decide +kernel) (by decide), os_iconst (n := -1) (by decide +kernel) (by decide +kernel), os_reti hE (by decide +kernel) rfl⟩
def kS_begin (P : MethodName × List Cond × Room → List qm_v → cG → Option qm_v → cG → Prop) : List (Nat × qm_op cG) := [(0, o_al 0), (1, o_ic (0)), (2, o_put 7 wrS1), (5, o_al 0), (6, o_ic (0)), (7, o_put 7 wrS6), (10, o_al 0), (11, o_ic (0)), (12, o_put 7 wrS9), (15, o_al 0), (16, o_ic (0)), (17, o_put 7 wrS13), (20, o_al 0), (21, o_al 0), (22, o_callv 7 1 (P mS_newState)), (25, o_put 7 wrS10), (28, o_al 0), (29, o_al 0), (30, o_callv 7 1 (P mS_newState)), (33, o_put 7 wrS11), (36, o_al 0), (37, o_al 0), (38, o_get 7 rdS10), (41, o_put 7 wrS12), (44, o_ret0)]
set_option maxRecDepth 20000 in
theorem sS_begin {E : cEnv} (hE : cOk E) : qm_cok (cK E (rmL 2) prog_4_method_3_code 1 "FunctionRows$Search" (wsT yS_begin prog_4_method_3_code 1 none) none) (kS_begin (cSd E)) := ⟨os_al_n (j := 0) (by decide +kernel) rfl, os_iconst (n := 0) (by decide +kernel) (by decide +kernel), os_put hE (idx := 81) (f := 1) (ci := 2) (C := "FunctionRows$Search") (T := FS) (N := 14) (ty0 := ftS) (by decide +kernel) rfl (fun w h => tb_in (fiS w h)) ftS_ok fnS (by decide) (tb_in lkS_81) rfl (by decide +kernel) plS1, os_al_n (j := 0) (by decide +kernel) rfl, os_iconst (n := 0) (by decide +kernel) (by decide +kernel), os_put hE (idx := 84) (f := 6) (ci := 2) (C := "FunctionRows$Search") (T := FS) (N := 14) (ty0 := ftS) (by decide +kernel) rfl (fun w h => tb_in (fiS w h)) ftS_ok fnS (by decide) (tb_in lkS_84) rfl (by decide +kernel) plS6, os_al_n (j := 0) (by decide +kernel) rfl, os_iconst (n := 0) (by decide +kernel) (by decide +kernel), os_put hE (idx := 58) (f := 9) (ci := 2) (C := "FunctionRows$Search") (T := FS) (N := 14) (ty0 := ftS) (by decide +kernel) rfl (fun w h => tb_in (fiS w h)) ftS_ok fnS (by decide) (tb_in lkS_58) rfl (by decide +kernel) plS9, os_al_n (j := 0) (by decide +kernel) rfl, os_iconst (n := 0) (by decide +kernel) (by decide +kernel), os_put hE (idx := 51) (f := 13) (ci := 2) (C := "FunctionRows$Search") (T := FS) (N := 14) (ty0 := ftS) (by decide +kernel) rfl (fun w h => tb_in (fiS w h)) ftS_ok fnS (by decide) (tb_in lkS_51) rfl (by decide +kernel) plS13, os_al_n (j := 0) (by decide +kernel) rfl, os_al_n (j := 0) (by decide +kernel) rfl, os_callv hE (pc := 22) (idx := 87) (ci := 2) (by decide +kernel) rfl crc7 (cwT_v cS_newState inS mlS_87 imS_newState seS_newState (by decide +kernel) (by decide)), os_put hE (idx := 91) (f := 10) (ci := 2) (C := "FunctionRows$Search") (T := FS) (N := 14) (ty0 := ftS) (by decide +kernel) rfl (fun w h => tb_in (fiS w h)) ftS_ok fnS (by decide) (tb_in lkS_91) rfl (by decide +kernel) plS10, os_al_n (j := 0) (by decide +kernel) rfl, os_al_n (j := 0) (by decide +kernel) rfl, os_callv hE (pc := 30) (idx := 87) (ci := 2) (by decide +kernel) rfl crc7 (cwT_v cS_newState inS mlS_87 imS_newState seS_newState (by decide +kernel) (by decide)), os_put hE (idx := 64) (f := 11) (ci := 2) (C := "FunctionRows$Search") (T := FS) (N := 14) (ty0 := ftS) (by decide +kernel) rfl (fun w h => tb_in (fiS w h)) ftS_ok fnS (by decide) (tb_in lkS_64) rfl (by decide +kernel) plS11, os_al_n (j := 0) (by decide +kernel) rfl, os_al_n (j := 0) (by decide +kernel) rfl, os_get (idx := 91) (f := 10) (ci := 2) (C := "FunctionRows$Search") (T := FS) (N := 14) (by decide +kernel) rfl (fun w h => tb_in (fiS w h)) (by decide) (tb_in lkS_91) glS10, os_put hE (idx := 61) (f := 12) (ci := 2) (C := "FunctionRows$Search") (T := FS) (N := 14) (ty0 := ftS) (by decide +kernel) rfl (fun w h => tb_in (fiS w h)) ftS_ok fnS (by decide) (tb_in lkS_61) rfl (by decide +kernel) plS12, os_ret0 hE (by decide +kernel) rfl⟩
def kS_anchor (P : MethodName × List Cond × Room → List qm_v → cG → Option qm_v → cG → Prop) : List (Nat × qm_op cG) := [(0, o_al 0), (1, o_callv 7 1 (P mS_newState)), (4, o_is 2), (5, o_al 0), (6, o_al 0), (7, o_get 7 rdS12), (10, o_il 2), (11, o_il 1), (12, o_ic (0)), (13, o_callv 7 5 (P mS_connect)), (16, o_al 0), (17, o_il 2), (18, o_put 7 wrS12), (21, o_ic (1)), (22, o_retz)]
set_option maxRecDepth 20000 in
theorem sS_anchor {E : cEnv} (hE : cOk E) : qm_cok (cK E (rmL 2) prog_4_method_7_code 3 "FunctionRows$Search" (wsT yS_anchor prog_4_method_7_code 3 (some .boolean)) (some .boolean)) (kS_anchor (cSd E)) := ⟨os_al_n (j := 0) (by decide +kernel) rfl, os_callv hE (pc := 1) (idx := 87) (ci := 2) (by decide +kernel) rfl crc7 (cwT_v cS_newState inS mlS_87 imS_newState seS_newState (by decide +kernel) (by decide)), os_is_n (j := 2) (by decide +kernel) rfl (by decide), os_al_n (j := 0) (by decide +kernel) rfl, os_al_n (j := 0) (by decide +kernel) rfl, os_get (idx := 61) (f := 12) (ci := 2) (C := "FunctionRows$Search") (T := FS) (N := 14) (by decide +kernel) rfl (fun w h => tb_in (fiS w h)) (by decide) (tb_in lkS_61) glS12, os_il_n (j := 2) (by decide +kernel) rfl, os_il_n (j := 1) (by decide +kernel) rfl, os_iconst (n := 0) (by decide +kernel) (by decide +kernel), os_callv hE (pc := 13) (idx := 67) (ci := 2) (by decide +kernel) rfl crc7 (cwT_v cS_connect inS mlS_67 imS_connect seS_connect (by decide +kernel) (by decide)), os_al_n (j := 0) (by decide +kernel) rfl, os_il_n (j := 2) (by decide +kernel) rfl, os_put hE (idx := 61) (f := 12) (ci := 2) (C := "FunctionRows$Search") (T := FS) (N := 14) (ty0 := ftS) (by decide +kernel) rfl (fun w h => tb_in (fiS w h)) ftS_ok fnS (by decide) (tb_in lkS_61) rfl (by decide +kernel) plS12, os_iconst (n := 1) (by decide +kernel) (by decide +kernel), os_retz hE (by decide +kernel) rfl⟩
def kS_enter (P : MethodName × List Cond × Room → List qm_v → cG → Option qm_v → cG → Prop) : List (Nat × qm_op cG) := [(0, o_al 0), (1, o_callv 7 1 (P mS_newState)), (4, o_is 1), (5, o_al 0), (6, o_al 0), (7, o_get 7 rdS12), (10, o_il 1), (11, o_ic (-1)), (12, o_ic (0)), (13, o_callv 7 5 (P mS_connect)), (16, o_il 1), (17, o_reti)]
set_option maxRecDepth 20000 in
theorem sS_enter {E : cEnv} (hE : cOk E) : qm_cok (cK E (rmL 2) prog_4_method_9_code 2 "FunctionRows$Search" (wsT yS_enter prog_4_method_9_code 2 (some .int)) (some .int)) (kS_enter (cSd E)) := ⟨os_al_n (j := 0) (by decide +kernel) rfl, os_callv hE (pc := 1) (idx := 87) (ci := 2) (by decide +kernel) rfl crc7 (cwT_v cS_newState inS mlS_87 imS_newState seS_newState (by decide +kernel) (by decide)), os_is_n (j := 1) (by decide +kernel) rfl (by decide), os_al_n (j := 0) (by decide +kernel) rfl, os_al_n (j := 0) (by decide +kernel) rfl, os_get (idx := 61) (f := 12) (ci := 2) (C := "FunctionRows$Search") (T := FS) (N := 14) (by decide +kernel) rfl (fun w h => tb_in (fiS w h)) (by decide) (tb_in lkS_61) glS12, os_il_n (j := 1) (by decide +kernel) rfl, os_iconst (n := -1) (by decide +kernel) (by decide +kernel), os_iconst (n := 0) (by decide +kernel) (by decide +kernel), os_callv hE (pc := 13) (idx := 67) (ci := 2) (by decide +kernel) rfl crc7 (cwT_v cS_connect inS mlS_67 imS_connect seS_connect (by decide +kernel) (by decide)), os_il_n (j := 1) (by decide +kernel) rfl, os_reti hE (by decide +kernel) rfl⟩
def kS_repeat (P : MethodName × List Cond × Room → List qm_v → cG → Option qm_v → cG → Prop) : List (Nat × qm_op cG) := [(0, o_al 3), (1, o_al 0), (2, o_get 7 rdS13), (5, o_callv 1 2 (P mV_at)), (8, o_is 4), (10, o_al 0), (11, o_il 4), (13, o_ic (42)), (15, o_icne 22), (18, o_il 1), (19, o_go 23), (22, o_il 2), (23, o_put 7 wrS12), (26, o_il 4), (28, o_ic (42)), (30, o_iceq 40), (33, o_il 4), (35, o_ic (43)), (37, o_icne 61), (40, o_al 0), (41, o_il 2), (42, o_il 1), (43, o_ic (-1)), (44, o_ic (0)), (45, o_callv 7 5 (P mS_connect)), (48, o_al 0), (49, o_stk f_dup), (50, o_get 7 rdS13), (53, o_ic (1)), (54, o_iadd), (55, o_put 7 wrS13), (58, o_go 86), (61, o_il 4), (63, o_ic (63)), (65, o_icne 86), (68, o_al 0), (69, o_il 1), (70, o_il 2), (71, o_ic (-1)), (72, o_ic (0)), (73, o_callv 7 5 (P mS_connect)), (76, o_al 0), (77, o_stk f_dup), (78, o_get 7 rdS13), (81, o_ic (1)), (82, o_iadd), (83, o_put 7 wrS13), (86, o_ret0)]
set_option maxRecDepth 20000 in
theorem sS_repeat {E : cEnv} (hE : cOk E) : qm_cok (cK E (rmL 2) prog_4_method_10_code 5 "FunctionRows$Search" (wsT yS_repeat prog_4_method_10_code 5 none) none) (kS_repeat (cSd E)) := ⟨os_al_n (j := 3) (by decide +kernel) rfl, os_al_n (j := 0) (by decide +kernel) rfl, os_get (idx := 51) (f := 13) (ci := 2) (C := "FunctionRows$Search") (T := FS) (N := 14) (by decide +kernel) rfl (fun w h => tb_in (fiS w h)) (by decide) (tb_in lkS_51) glS13, os_callv hE (pc := 5) (idx := 94) (ci := 0) (by decide +kernel) rfl crc1 (cwT_v cV_at inV mlS_94 imV_at seV_at (by decide +kernel) (by decide)), os_is (by decide +kernel) (by decide), os_al_n (j := 0) (by decide +kernel) rfl, os_il (by decide +kernel), os_bipush (n := 42) (by decide +kernel) (by decide +kernel), os_icne (off := 7) (by decide +kernel) (by decide), os_il_n (j := 1) (by decide +kernel) rfl, os_go (off := 4) (by decide +kernel) (by decide), os_il_n (j := 2) (by decide +kernel) rfl, os_put hE (idx := 61) (f := 12) (ci := 2) (C := "FunctionRows$Search") (T := FS) (N := 14) (ty0 := ftS) (by decide +kernel) rfl (fun w h => tb_in (fiS w h)) ftS_ok fnS (by decide) (tb_in lkS_61) rfl (by decide +kernel) plS12, os_il (by decide +kernel), os_bipush (n := 42) (by decide +kernel) (by decide +kernel), os_iceq (off := 10) (by decide +kernel) (by decide), os_il (by decide +kernel), os_bipush (n := 43) (by decide +kernel) (by decide +kernel), os_icne (off := 24) (by decide +kernel) (by decide), os_al_n (j := 0) (by decide +kernel) rfl, os_il_n (j := 2) (by decide +kernel) rfl, os_il_n (j := 1) (by decide +kernel) rfl, os_iconst (n := -1) (by decide +kernel) (by decide +kernel), os_iconst (n := 0) (by decide +kernel) (by decide +kernel), os_callv hE (pc := 45) (idx := 67) (ci := 2) (by decide +kernel) rfl crc7 (cwT_v cS_connect inS mlS_67 imS_connect seS_connect (by decide +kernel) (by decide)), os_al_n (j := 0) (by decide +kernel) rfl, os_dup (by decide +kernel), os_get (idx := 51) (f := 13) (ci := 2) (C := "FunctionRows$Search") (T := FS) (N := 14) (by decide +kernel) rfl (fun w h => tb_in (fiS w h)) (by decide) (tb_in lkS_51) glS13, os_iconst (n := 1) (by decide +kernel) (by decide +kernel), os_iadd (by decide +kernel), os_put hE (idx := 51) (f := 13) (ci := 2) (C := "FunctionRows$Search") (T := FS) (N := 14) (ty0 := ftS) (by decide +kernel) rfl (fun w h => tb_in (fiS w h)) ftS_ok fnS (by decide) (tb_in lkS_51) rfl (by decide +kernel) plS13, os_go (off := 28) (by decide +kernel) (by decide), os_il (by decide +kernel), os_bipush (n := 63) (by decide +kernel) (by decide +kernel), os_icne (off := 21) (by decide +kernel) (by decide), os_al_n (j := 0) (by decide +kernel) rfl, os_il_n (j := 1) (by decide +kernel) rfl, os_il_n (j := 2) (by decide +kernel) rfl, os_iconst (n := -1) (by decide +kernel) (by decide +kernel), os_iconst (n := 0) (by decide +kernel) (by decide +kernel), os_callv hE (pc := 73) (idx := 67) (ci := 2) (by decide +kernel) rfl crc7 (cwT_v cS_connect inS mlS_67 imS_connect seS_connect (by decide +kernel) (by decide)), os_al_n (j := 0) (by decide +kernel) rfl, os_dup (by decide +kernel), os_get (idx := 51) (f := 13) (ci := 2) (C := "FunctionRows$Search") (T := FS) (N := 14) (by decide +kernel) rfl (fun w h => tb_in (fiS w h)) (by decide) (tb_in lkS_51) glS13, os_iconst (n := 1) (by decide +kernel) (by decide +kernel), os_iadd (by decide +kernel), os_put hE (idx := 51) (f := 13) (ci := 2) (C := "FunctionRows$Search") (T := FS) (N := 14) (ty0 := ftS) (by decide +kernel) rfl (fun w h => tb_in (fiS w h)) ftS_ok fnS (by decide) (tb_in lkS_51) rfl (by decide +kernel) plS13, os_ret0 hE (by decide +kernel) rfl⟩
def kS_placesOf (P : MethodName × List Cond × Room → List qm_v → cG → Option qm_v → cG → Prop) : List (Nat × qm_op cG) := [(0, o_ic (0)), (1, o_is 3), (2, o_ic (0)), (3, o_is 4), (5, o_il 4), (7, o_al 0), (8, o_get 1 rdV3), (11, o_icge 47), (14, o_al 0), (15, o_il 4), (17, o_callv 1 2 (P mV_at)), (20, o_is 5), (22, o_il 5), (24, o_il 1), (25, o_iclt 41), (28, o_il 5), (30, o_il 2), (31, o_icgt 41), (34, o_il 3), (35, o_ic (1)), (36, o_il 4), (38, o_ishl), (39, o_ior), (40, o_is 3), (41, o_inc 4 (1)), (44, o_go 5), (47, o_il 3), (48, o_reti)]
set_option maxRecDepth 20000 in
theorem sS_placesOf {E : cEnv} (hE : cOk E) : qm_cok (cK E (rmL 2) prog_4_method_14_code 6 "FunctionRows$Search" (wsT yS_placesOf prog_4_method_14_code 6 (some .int)) (some .int)) (kS_placesOf (cSd E)) := ⟨os_iconst (n := 0) (by decide +kernel) (by decide +kernel), os_is_n (j := 3) (by decide +kernel) rfl (by decide), os_iconst (n := 0) (by decide +kernel) (by decide +kernel), os_is (by decide +kernel) (by decide), os_il (by decide +kernel), os_al_n (j := 0) (by decide +kernel) rfl, os_get (idx := 48) (f := 3) (ci := 0) (C := "FunctionRows$Value") (T := FV) (N := 5) (by decide +kernel) rfl (fun w h => tb_in (fiV w h)) (by decide) (tb_in lkS_48) glV3, os_icge (off := 36) (by decide +kernel) (by decide), os_al_n (j := 0) (by decide +kernel) rfl, os_il (by decide +kernel), os_callv hE (pc := 17) (idx := 94) (ci := 0) (by decide +kernel) rfl crc1 (cwT_v cV_at inV mlS_94 imV_at seV_at (by decide +kernel) (by decide)), os_is (by decide +kernel) (by decide), os_il (by decide +kernel), os_il_n (j := 1) (by decide +kernel) rfl, os_iclt (off := 16) (by decide +kernel) (by decide), os_il (by decide +kernel), os_il_n (j := 2) (by decide +kernel) rfl, os_icgt (off := 10) (by decide +kernel) (by decide), os_il_n (j := 3) (by decide +kernel) rfl, os_iconst (n := 1) (by decide +kernel) (by decide +kernel), os_il (by decide +kernel), os_ishl (by decide +kernel), os_ior (by decide +kernel), os_is_n (j := 3) (by decide +kernel) rfl (by decide), os_inc (n := 1) (by decide +kernel) (by decide +kernel) (by decide), os_go (off := -39) (by decide +kernel) (by decide), os_il_n (j := 3) (by decide +kernel) rfl, os_reti hE (by decide +kernel) rfl⟩
def kT_resize (P : MethodName × List Cond × Room → List qm_v → cG → Option qm_v → cG → Prop) : List (Nat × qm_op cG) := [(0, o_al 0), (1, o_al 1), (2, o_get 1 rdV2), (5, o_callv 1 2 (P mV_startText)), (8, o_ic (0)), (9, o_is 4), (11, o_il 4), (13, o_al 1), (14, o_get 1 rdV3), (17, o_icge 62), (20, o_al 1), (21, o_il 4), (23, o_callv 1 2 (P mV_at)), (26, o_is 5), (28, o_al 0), (29, o_il 5), (31, o_il 2), (32, o_iclt 51), (35, o_il 5), (37, o_il 2), (38, o_ic (26)), (40, o_iadd), (41, o_icge 51), (44, o_il 5), (46, o_il 3), (47, o_iadd), (48, o_go 53), (51, o_il 5), (53, o_callv 1 2 (P mV_append)), (56, o_inc 4 (1)), (59, o_go 11), (62, o_ret0)]
set_option maxRecDepth 20000 in
theorem sT_resize {E : cEnv} (hE : cOk E) : qm_cok (cK E (rmL 2) prog_5_method_4_code 6 "FunctionRows$Texts" (wsT yT_resize prog_5_method_4_code 6 none) none) (kT_resize (cSd E)) := ⟨os_al_n (j := 0) (by decide +kernel) rfl, os_al_n (j := 1) (by decide +kernel) rfl, os_get (idx := 63) (f := 2) (ci := 0) (C := "FunctionRows$Value") (T := FV) (N := 5) (by decide +kernel) rfl (fun w h => tb_in (fiV w h)) (by decide) (tb_in lkT_63) glV2, os_callv hE (pc := 5) (idx := 66) (ci := 0) (by decide +kernel) rfl crc1 (cwT_v cV_startText inV mlT_66 imV_startText seV_startText (by decide +kernel) (by decide)), os_iconst (n := 0) (by decide +kernel) (by decide +kernel), os_is (by decide +kernel) (by decide), os_il (by decide +kernel), os_al_n (j := 1) (by decide +kernel) rfl, os_get (idx := 18) (f := 3) (ci := 0) (C := "FunctionRows$Value") (T := FV) (N := 5) (by decide +kernel) rfl (fun w h => tb_in (fiV w h)) (by decide) (tb_in lkT_18) glV3, os_icge (off := 45) (by decide +kernel) (by decide), os_al_n (j := 1) (by decide +kernel) rfl, os_il (by decide +kernel), os_callv hE (pc := 23) (idx := 74) (ci := 0) (by decide +kernel) rfl crc1 (cwT_v cV_at inV mlT_74 imV_at seV_at (by decide +kernel) (by decide)), os_is (by decide +kernel) (by decide), os_al_n (j := 0) (by decide +kernel) rfl, os_il (by decide +kernel), os_il_n (j := 2) (by decide +kernel) rfl, os_iclt (off := 19) (by decide +kernel) (by decide), os_il (by decide +kernel), os_il_n (j := 2) (by decide +kernel) rfl, os_bipush (n := 26) (by decide +kernel) (by decide +kernel), os_iadd (by decide +kernel), os_icge (off := 10) (by decide +kernel) (by decide), os_il (by decide +kernel), os_il_n (j := 3) (by decide +kernel) rfl, os_iadd (by decide +kernel), os_go (off := 5) (by decide +kernel) (by decide), os_il (by decide +kernel), os_callv hE (pc := 53) (idx := 78) (ci := 0) (by decide +kernel) rfl crc1 (cwT_v cV_append inV mlT_78 imV_append seV_append (by decide +kernel) (by decide)), os_inc (n := 1) (by decide +kernel) (by decide +kernel) (by decide), os_go (off := -48) (by decide +kernel) (by decide), os_ret0 hE (by decide +kernel) rfl⟩
def kT_tagLetter (P : MethodName × List Cond × Room → List qm_v → cG → Option qm_v → cG → Prop) : List (Nat × qm_op cG) := [(0, o_al 0), (1, o_ic (0)), (2, o_callv 1 2 (P mV_startText)), (5, o_al 1), (6, o_get 1 rdV2), (9, o_ifeq 23), (12, o_al 0), (13, o_ic (96)), (15, o_al 1), (16, o_get 1 rdV2), (19, o_iadd), (20, o_callv 1 2 (P mV_append)), (23, o_ret0)]
set_option maxRecDepth 20000 in
theorem sT_tagLetter {E : cEnv} (hE : cOk E) : qm_cok (cK E (rmL 2) prog_5_method_6_code 2 "FunctionRows$Texts" (wsT yT_tagLetter prog_5_method_6_code 2 none) none) (kT_tagLetter (cSd E)) := ⟨os_al_n (j := 0) (by decide +kernel) rfl, os_iconst (n := 0) (by decide +kernel) (by decide +kernel), os_callv hE (pc := 2) (idx := 66) (ci := 0) (by decide +kernel) rfl crc1 (cwT_v cV_startText inV mlT_66 imV_startText seV_startText (by decide +kernel) (by decide)), os_al_n (j := 1) (by decide +kernel) rfl, os_get (idx := 63) (f := 2) (ci := 0) (C := "FunctionRows$Value") (T := FV) (N := 5) (by decide +kernel) rfl (fun w h => tb_in (fiV w h)) (by decide) (tb_in lkT_63) glV2, os_ifeq (off := 14) (by decide +kernel) (by decide), os_al_n (j := 0) (by decide +kernel) rfl, os_bipush (n := 96) (by decide +kernel) (by decide +kernel), os_al_n (j := 1) (by decide +kernel) rfl, os_get (idx := 63) (f := 2) (ci := 0) (C := "FunctionRows$Value") (T := FV) (N := 5) (by decide +kernel) rfl (fun w h => tb_in (fiV w h)) (by decide) (tb_in lkT_63) glV2, os_iadd (by decide +kernel), os_callv hE (pc := 20) (idx := 78) (ci := 0) (by decide +kernel) rfl crc1 (cwT_v cV_append inV mlT_78 imV_append seV_append (by decide +kernel) (by decide)), os_ret0 hE (by decide +kernel) rfl⟩
def kU_of (P : MethodName × List Cond × Room → List qm_v → cG → Option qm_v → cG → Prop) : List (Nat × qm_op cG) := [(0, o_al 0), (1, o_get 1 rdV0), (4, o_sw [(1, 32), (2, 32), (3, 50)] 66), (32, o_al 0), (33, o_get 1 rdV1), (36, o_lc 0), (37, o_lceq 45), (41, o_ic (1)), (42, o_go 46), (45, o_ic (0)), (46, o_call 1 (P mU_truth)), (49, o_reti), (50, o_al 0), (51, o_get 1 rdV3), (54, o_ifle 61), (57, o_ic (1)), (58, o_go 62), (61, o_ic (0)), (62, o_call 1 (P mU_truth)), (65, o_reti), (66, o_ic (-1)), (67, o_reti)]
set_option maxRecDepth 20000 in
theorem sU_of {E : cEnv} (hE : cOk E) : qm_cok (cK E (rmL 2) prog_6_method_3_code 1 "FunctionRows$Truths" (wsT yU_of prog_6_method_3_code 1 (some .int)) (some .int)) (kU_of (cSd E)) := ⟨os_al_n (j := 0) (by decide +kernel) rfl, os_get (idx := 33) (f := 0) (ci := 0) (C := "FunctionRows$Value") (T := FV) (N := 5) (by decide +kernel) rfl (fun w h => tb_in (fiV w h)) (by decide) (tb_in lkU_33) glV0, os_table (len := 28) (dflt := 62) (lo := 1) (hi := 3) (offs := #[28, 28, 46]) (by decide +kernel) (by decide) (by decide) (by decide +kernel) (by decide +kernel), os_al_n (j := 0) (by decide +kernel) rfl, os_get (idx := 39) (f := 1) (ci := 0) (C := "FunctionRows$Value") (T := FV) (N := 5) (by decide +kernel) rfl (fun w h => tb_in (fiV w h)) (by decide) (tb_in lkU_39) glV1, os_lconst (n := 0) (by decide +kernel) (by decide +kernel), os_lceq (off := 7) (by decide +kernel) (by decide +kernel) (by decide), os_iconst (n := 1) (by decide +kernel) (by decide +kernel), os_go (off := 4) (by decide +kernel) (by decide), os_iconst (n := 0) (by decide +kernel) (by decide +kernel), os_call hE (pc := 46) (idx := 43) (by decide +kernel) (cwT_s cU_truth inU mlU_43 stU_truth (by decide +kernel) (by decide)), os_reti hE (by decide +kernel) rfl, os_al_n (j := 0) (by decide +kernel) rfl, os_get (idx := 47) (f := 3) (ci := 0) (C := "FunctionRows$Value") (T := FV) (N := 5) (by decide +kernel) rfl (fun w h => tb_in (fiV w h)) (by decide) (tb_in lkU_47) glV3, os_ifle (off := 7) (by decide +kernel) (by decide), os_iconst (n := 1) (by decide +kernel) (by decide +kernel), os_go (off := 4) (by decide +kernel) (by decide), os_iconst (n := 0) (by decide +kernel) (by decide +kernel), os_call hE (pc := 62) (idx := 43) (by decide +kernel) (cwT_s cU_truth inU mlU_43 stU_truth (by decide +kernel) (by decide)), os_reti hE (by decide +kernel) rfl, os_iconst (n := -1) (by decide +kernel) (by decide +kernel), os_reti hE (by decide +kernel) rfl⟩
def kU_isBefore (P : MethodName × List Cond × Room → List qm_v → cG → Option qm_v → cG → Prop) : List (Nat × qm_op cG) := [(0, o_ic (0)), (1, o_is 2), (2, o_il 2), (3, o_al 1), (4, o_get 1 rdV3), (7, o_icge 48), (10, o_al 0), (11, o_il 2), (12, o_callv 1 2 (P mV_at)), (15, o_al 1), (16, o_il 2), (17, o_callv 1 2 (P mV_at)), (20, o_iceq 42), (23, o_al 0), (24, o_il 2), (25, o_callv 1 2 (P mV_at)), (28, o_al 1), (29, o_il 2), (30, o_callv 1 2 (P mV_at)), (33, o_icge 40), (36, o_ic (1)), (37, o_go 41), (40, o_ic (0)), (41, o_retz), (42, o_inc 2 (1)), (45, o_go 2), (48, o_ic (0)), (49, o_retz)]
set_option maxRecDepth 20000 in
theorem sU_isBefore {E : cEnv} (hE : cOk E) : qm_cok (cK E (rmL 2) prog_6_method_10_code 3 "FunctionRows$Truths" (wsT yU_isBefore prog_6_method_10_code 3 (some .boolean)) (some .boolean)) (kU_isBefore (cSd E)) := ⟨os_iconst (n := 0) (by decide +kernel) (by decide +kernel), os_is_n (j := 2) (by decide +kernel) rfl (by decide), os_il_n (j := 2) (by decide +kernel) rfl, os_al_n (j := 1) (by decide +kernel) rfl, os_get (idx := 47) (f := 3) (ci := 0) (C := "FunctionRows$Value") (T := FV) (N := 5) (by decide +kernel) rfl (fun w h => tb_in (fiV w h)) (by decide) (tb_in lkU_47) glV3, os_icge (off := 41) (by decide +kernel) (by decide), os_al_n (j := 0) (by decide +kernel) rfl, os_il_n (j := 2) (by decide +kernel) rfl, os_callv hE (pc := 12) (idx := 61) (ci := 0) (by decide +kernel) rfl crc1 (cwT_v cV_at inV mlU_61 imV_at seV_at (by decide +kernel) (by decide)), os_al_n (j := 1) (by decide +kernel) rfl, os_il_n (j := 2) (by decide +kernel) rfl, os_callv hE (pc := 17) (idx := 61) (ci := 0) (by decide +kernel) rfl crc1 (cwT_v cV_at inV mlU_61 imV_at seV_at (by decide +kernel) (by decide)), os_iceq (off := 22) (by decide +kernel) (by decide), os_al_n (j := 0) (by decide +kernel) rfl, os_il_n (j := 2) (by decide +kernel) rfl, os_callv hE (pc := 25) (idx := 61) (ci := 0) (by decide +kernel) rfl crc1 (cwT_v cV_at inV mlU_61 imV_at seV_at (by decide +kernel) (by decide)), os_al_n (j := 1) (by decide +kernel) rfl, os_il_n (j := 2) (by decide +kernel) rfl, os_callv hE (pc := 30) (idx := 61) (ci := 0) (by decide +kernel) rfl crc1 (cwT_v cV_at inV mlU_61 imV_at seV_at (by decide +kernel) (by decide)), os_icge (off := 7) (by decide +kernel) (by decide), os_iconst (n := 1) (by decide +kernel) (by decide +kernel), os_go (off := 4) (by decide +kernel) (by decide), os_iconst (n := 0) (by decide +kernel) (by decide +kernel), os_retz hE (by decide +kernel) rfl, os_inc (n := 1) (by decide +kernel) (by decide +kernel) (by decide), os_go (off := -43) (by decide +kernel) (by decide), os_iconst (n := 0) (by decide +kernel) (by decide +kernel), os_retz hE (by decide +kernel) rfl⟩
def kV_setWhole (P : MethodName × List Cond × Room → List qm_v → cG → Option qm_v → cG → Prop) : List (Nat × qm_op cG) := [(0, o_al 0), (1, o_ll 1), (2, o_call 1 (P mR_isWhole)), (5, o_ifeq 12), (8, o_ic (2)), (9, o_go 13), (12, o_ic (0)), (13, o_put 1 wrV0), (16, o_al 0), (17, o_ll 1), (18, o_put 1 wrV1), (21, o_ret0)]
set_option maxRecDepth 20000 in
theorem sV_setWhole {E : cEnv} (hE : cOk E) (hX : qm_Nx E) : qm_cok (cK E (rmL 2) prog_7_method_4_code 3 "FunctionRows$Value" (wsT yV_setWhole prog_7_method_4_code 3 none) none) (kV_setWhole (cSd E)) := ⟨os_al_n (j := 0) (by decide +kernel) rfl, os_ll_n (j := 1) (by decide +kernel) rfl, os_calln hE (pc := 2) (idx := 23) (by decide +kernel) (cnT_s cR_isWhole inR stR_isWhole (by decide +kernel) (by decide)) hX, os_ifeq (off := 7) (by decide +kernel) (by decide), os_iconst (n := 2) (by decide +kernel) (by decide +kernel), os_go (off := 4) (by decide +kernel) (by decide), os_iconst (n := 0) (by decide +kernel) (by decide +kernel), os_put hE (idx := 15) (f := 0) (ci := 0) (C := "FunctionRows$Value") (T := FV) (N := 5) (ty0 := ftV) (by decide +kernel) rfl (fun w h => tb_in (fiV w h)) ftV_ok fnV (by decide) (tb_in lkV_15) rfl (by decide +kernel) plV0, os_al_n (j := 0) (by decide +kernel) rfl, os_ll_n (j := 1) (by decide +kernel) rfl, os_put hE (idx := 19) (f := 1) (ci := 0) (C := "FunctionRows$Value") (T := FV) (N := 5) (ty0 := ftV) (by decide +kernel) rfl (fun w h => tb_in (fiV w h)) ftV_ok fnV (by decide) (tb_in lkV_19) rfl (by decide +kernel) plV1, os_ret0 hE (by decide +kernel) rfl⟩
def kV_appendPart (P : MethodName × List Cond × Room → List qm_v → cG → Option qm_v → cG → Prop) : List (Nat × qm_op cG) := [(0, o_il 3), (1, o_al 1), (2, o_get 1 rdV3), (5, o_imin), (8, o_is 4), (10, o_il 2), (11, o_ic (0)), (12, o_imax), (15, o_is 5), (17, o_il 5), (19, o_il 4), (21, o_icge 40), (24, o_al 0), (25, o_al 1), (26, o_il 5), (28, o_callv 1 2 (P mV_at)), (31, o_callv 1 2 (P mV_append)), (34, o_inc 5 (1)), (37, o_go 17), (40, o_ret0)]
set_option maxRecDepth 20000 in
theorem sV_appendPart {E : cEnv} (hE : cOk E) : qm_cok (cK E (rmL 2) prog_7_method_8_code 6 "FunctionRows$Value" (wsT yV_appendPart prog_7_method_8_code 6 none) none) (kV_appendPart (cSd E)) := ⟨os_il_n (j := 3) (by decide +kernel) rfl, os_al_n (j := 1) (by decide +kernel) rfl, os_get (idx := 30) (f := 3) (ci := 0) (C := "FunctionRows$Value") (T := FV) (N := 5) (by decide +kernel) rfl (fun w h => tb_in (fiV w h)) (by decide) (tb_in lkV_30) glV3, os_imin (idx := 33) (by decide +kernel) (tb_in mlV_33) (tb_in ms_imin) (tb_in mi_math) (tb_in mc_imin) (by decide) (by decide), os_is (by decide +kernel) (by decide), os_il_n (j := 2) (by decide +kernel) rfl, os_iconst (n := 0) (by decide +kernel) (by decide +kernel), os_imax (idx := 39) (by decide +kernel) (tb_in mlV_39) (tb_in ms_imax) (tb_in mi_math) (tb_in mc_imax) (by decide) (by decide), os_is (by decide +kernel) (by decide), os_il (by decide +kernel), os_il (by decide +kernel), os_icge (off := 19) (by decide +kernel) (by decide), os_al_n (j := 0) (by decide +kernel) rfl, os_al_n (j := 1) (by decide +kernel) rfl, os_il (by decide +kernel), os_callv hE (pc := 28) (idx := 42) (ci := 0) (by decide +kernel) rfl crc1 (cwT_v cV_at inV mlV_42 imV_at seV_at (by decide +kernel) (by decide)), os_callv hE (pc := 31) (idx := 46) (ci := 0) (by decide +kernel) rfl crc1 (cwT_v cV_append inV mlV_46 imV_append seV_append (by decide +kernel) (by decide)), os_inc (n := 1) (by decide +kernel) (by decide +kernel) (by decide), os_go (off := -20) (by decide +kernel) (by decide), os_ret0 hE (by decide +kernel) rfl⟩
def kV_appendDigits (P : MethodName × List Cond × Room → List qm_v → cG → Option qm_v → cG → Prop) : List (Nat × qm_op cG) := [(0, o_lc 1), (1, o_ls 3), (2, o_ic (0)), (3, o_is 5), (5, o_il 5), (7, o_ic (15)), (9, o_icge 34), (12, o_ll 1), (13, o_ll 3), (14, o_ldiv), (15, o_lc (10)), (18, o_lclt 34), (22, o_ll 3), (23, o_lc (10)), (26, o_lmul), (27, o_ls 3), (28, o_inc 5 (1)), (31, o_go 5), (34, o_ic (0)), (35, o_is 5), (37, o_il 5), (39, o_ic (16)), (41, o_icge 77), (44, o_ll 3), (45, o_lc 0), (46, o_lcle 77), (50, o_al 0), (51, o_ic (48)), (53, o_ll 1), (54, o_ll 3), (55, o_ldiv), (56, o_lc (10)), (59, o_lrem), (60, o_l2i), (61, o_iadd), (62, o_callv 1 2 (P mV_append)), (65, o_ll 3), (66, o_lc (10)), (69, o_ldiv), (70, o_ls 3), (71, o_inc 5 (1)), (74, o_go 37), (77, o_ret0)]
set_option maxRecDepth 20000 in
theorem sV_appendDigits {E : cEnv} (hE : cOk E) : qm_cok (cK E (rmL 2) prog_7_method_9_code 6 "FunctionRows$Value" (wsT yV_appendDigits prog_7_method_9_code 6 none) none) (kV_appendDigits (cSd E)) := ⟨os_lconst (n := 1) (by decide +kernel) (by decide +kernel), os_ls_n (j := 3) (by decide +kernel) rfl (by decide), os_iconst (n := 0) (by decide +kernel) (by decide +kernel), os_is (by decide +kernel) (by decide), os_il (by decide +kernel), os_bipush (n := 15) (by decide +kernel) (by decide +kernel), os_icge (off := 25) (by decide +kernel) (by decide), os_ll_n (j := 1) (by decide +kernel) rfl, os_ll_n (j := 3) (by decide +kernel) rfl, os_ldiv (by decide +kernel), os_ldc2 (idx := 50) (by decide +kernel) (tb_in klV_50), os_lclt (off := 15) (by decide +kernel) (by decide +kernel) (by decide), os_ll_n (j := 3) (by decide +kernel) rfl, os_ldc2 (idx := 50) (by decide +kernel) (tb_in klV_50), os_lmul (by decide +kernel), os_ls_n (j := 3) (by decide +kernel) rfl (by decide), os_inc (n := 1) (by decide +kernel) (by decide +kernel) (by decide), os_go (off := -26) (by decide +kernel) (by decide), os_iconst (n := 0) (by decide +kernel) (by decide +kernel), os_is (by decide +kernel) (by decide), os_il (by decide +kernel), os_bipush (n := 16) (by decide +kernel) (by decide +kernel), os_icge (off := 36) (by decide +kernel) (by decide), os_ll_n (j := 3) (by decide +kernel) rfl, os_lconst (n := 0) (by decide +kernel) (by decide +kernel), os_lcle (off := 30) (by decide +kernel) (by decide +kernel) (by decide), os_al_n (j := 0) (by decide +kernel) rfl, os_bipush (n := 48) (by decide +kernel) (by decide +kernel), os_ll_n (j := 1) (by decide +kernel) rfl, os_ll_n (j := 3) (by decide +kernel) rfl, os_ldiv (by decide +kernel), os_ldc2 (idx := 50) (by decide +kernel) (tb_in klV_50), os_lrem (by decide +kernel), os_l2i (by decide +kernel), os_iadd (by decide +kernel), os_callv hE (pc := 62) (idx := 46) (ci := 0) (by decide +kernel) rfl crc1 (cwT_v cV_append inV mlV_46 imV_append seV_append (by decide +kernel) (by decide)), os_ll_n (j := 3) (by decide +kernel) rfl, os_ldc2 (idx := 50) (by decide +kernel) (tb_in klV_50), os_ldiv (by decide +kernel), os_ls_n (j := 3) (by decide +kernel) rfl (by decide), os_inc (n := 1) (by decide +kernel) (by decide +kernel) (by decide), os_go (off := -37) (by decide +kernel) (by decide), os_ret0 hE (by decide +kernel) rfl⟩
def kV_hasAt (P : MethodName × List Cond × Room → List qm_v → cG → Option qm_v → cG → Prop) : List (Nat × qm_op cG) := [(0, o_il 1), (1, o_iflt 17), (4, o_il 1), (5, o_al 2), (6, o_get 1 rdV3), (9, o_iadd), (10, o_al 0), (11, o_get 1 rdV3), (14, o_icle 19), (17, o_ic (0)), (18, o_retz), (19, o_ic (0)), (20, o_is 3), (21, o_il 3), (22, o_al 2), (23, o_get 1 rdV3), (26, o_icge 52), (29, o_al 0), (30, o_il 1), (31, o_il 3), (32, o_iadd), (33, o_callv 1 2 (P mV_at)), (36, o_al 2), (37, o_il 3), (38, o_callv 1 2 (P mV_at)), (41, o_iceq 46), (44, o_ic (0)), (45, o_retz), (46, o_inc 3 (1)), (49, o_go 21), (52, o_ic (1)), (53, o_retz)]
set_option maxRecDepth 20000 in
theorem sV_hasAt {E : cEnv} (hE : cOk E) : qm_cok (cK E (rmL 2) prog_7_method_12_code 4 "FunctionRows$Value" (wsT yV_hasAt prog_7_method_12_code 4 (some .boolean)) (some .boolean)) (kV_hasAt (cSd E)) := ⟨os_il_n (j := 1) (by decide +kernel) rfl, os_iflt (off := 16) (by decide +kernel) (by decide), os_il_n (j := 1) (by decide +kernel) rfl, os_al_n (j := 2) (by decide +kernel) rfl, os_get (idx := 30) (f := 3) (ci := 0) (C := "FunctionRows$Value") (T := FV) (N := 5) (by decide +kernel) rfl (fun w h => tb_in (fiV w h)) (by decide) (tb_in lkV_30) glV3, os_iadd (by decide +kernel), os_al_n (j := 0) (by decide +kernel) rfl, os_get (idx := 30) (f := 3) (ci := 0) (C := "FunctionRows$Value") (T := FV) (N := 5) (by decide +kernel) rfl (fun w h => tb_in (fiV w h)) (by decide) (tb_in lkV_30) glV3, os_icle (off := 5) (by decide +kernel) (by decide), os_iconst (n := 0) (by decide +kernel) (by decide +kernel), os_retz hE (by decide +kernel) rfl, os_iconst (n := 0) (by decide +kernel) (by decide +kernel), os_is_n (j := 3) (by decide +kernel) rfl (by decide), os_il_n (j := 3) (by decide +kernel) rfl, os_al_n (j := 2) (by decide +kernel) rfl, os_get (idx := 30) (f := 3) (ci := 0) (C := "FunctionRows$Value") (T := FV) (N := 5) (by decide +kernel) rfl (fun w h => tb_in (fiV w h)) (by decide) (tb_in lkV_30) glV3, os_icge (off := 26) (by decide +kernel) (by decide), os_al_n (j := 0) (by decide +kernel) rfl, os_il_n (j := 1) (by decide +kernel) rfl, os_il_n (j := 3) (by decide +kernel) rfl, os_iadd (by decide +kernel), os_callv hE (pc := 33) (idx := 42) (ci := 0) (by decide +kernel) rfl crc1 (cwT_v cV_at inV mlV_42 imV_at seV_at (by decide +kernel) (by decide)), os_al_n (j := 2) (by decide +kernel) rfl, os_il_n (j := 3) (by decide +kernel) rfl, os_callv hE (pc := 38) (idx := 42) (ci := 0) (by decide +kernel) rfl crc1 (cwT_v cV_at inV mlV_42 imV_at seV_at (by decide +kernel) (by decide)), os_iceq (off := 5) (by decide +kernel) (by decide), os_iconst (n := 0) (by decide +kernel) (by decide +kernel), os_retz hE (by decide +kernel) rfl, os_inc (n := 1) (by decide +kernel) (by decide +kernel) (by decide), os_go (off := -28) (by decide +kernel) (by decide), os_iconst (n := 1) (by decide +kernel) (by decide +kernel), os_retz hE (by decide +kernel) rfl⟩
def kR_whole (P : MethodName × List Cond × Room → List qm_v → cG → Option qm_v → cG → Prop) : List (Nat × qm_op cG) := [(0, o_ll 1), (1, o_call 1 (P mR_isWhole)), (4, o_ifne 9), (7, o_ic (-1)), (8, o_reti), (9, o_al 0), (10, o_get 0 rdR1), (13, o_ic (80)), (15, o_iclt 21), (18, o_ic (-3)), (20, o_reti), (21, o_al 0), (22, o_get 0 rdR0), (25, o_al 0), (26, o_get 0 rdR1), (29, o_aald 4 cn4 cr4), (30, o_callv 3 1 (P mE_becomeValue)), (33, o_ll 1), (34, o_callv 1 2 (P mV_setWhole)), (37, o_al 0), (38, o_stk f_dup), (39, o_get 0 rdR1), (42, o_stk f_dupx1), (43, o_ic (1)), (44, o_iadd), (45, o_put 0 wrR1), (48, o_reti)]
set_option maxRecDepth 20000 in
theorem sR_whole {E : cEnv} (hE : cOk E) : qm_cok (cK E (rmL 3) prog_1_method_4_code 3 "FunctionRows" (wsT yR_whole prog_1_method_4_code 3 (some .int)) (some .int)) (kR_whole (cSd E)) := ⟨os_ll_n (j := 1) (by decide +kernel) rfl, os_call hE (pc := 1) (idx := 60) (by decide +kernel) (cwT_s cR_isWhole inR mlR_60 stR_isWhole (by decide +kernel) (by decide)), os_ifne (off := 5) (by decide +kernel) (by decide), os_iconst (n := -1) (by decide +kernel) (by decide +kernel), os_reti hE (by decide +kernel) rfl, os_al_n (j := 0) (by decide +kernel) rfl, os_get (idx := 46) (f := 1) (ci := 3) (C := "FunctionRows") (T := FR) (N := 7) (by decide +kernel) rfl (fun w h => tb_in (fiR w h)) (by decide) (tb_in lkR_46) glR1, os_bipush (n := 80) (by decide +kernel) (by decide +kernel), os_iclt (off := 6) (by decide +kernel) (by decide), os_bipush (n := -3) (by decide +kernel) (by decide +kernel), os_reti hE (by decide +kernel) rfl, os_al_n (j := 0) (by decide +kernel) rfl, os_get (idx := 11) (f := 0) (ci := 3) (C := "FunctionRows") (T := FR) (N := 7) (by decide +kernel) rfl (fun w h => tb_in (fiR w h)) (by decide) (tb_in lkR_11) glR0, os_al_n (j := 0) (by decide +kernel) rfl, os_get (idx := 46) (f := 1) (ci := 3) (C := "FunctionRows") (T := FR) (N := 7) (by decide +kernel) rfl (fun w h => tb_in (fiR w h)) (by decide) (tb_in lkR_46) glR1, os_aald (t0 := 2) (by decide +kernel) rfl cce4, os_callv hE (pc := 30) (idx := 49) (ci := 1) (by decide +kernel) rfl crc3 (cwT_v cE_becomeValue inE mlR_49 imE_becomeValue seE_becomeValue (by decide +kernel) (by decide)), os_ll_n (j := 1) (by decide +kernel) rfl, os_callv hE (pc := 34) (idx := 64) (ci := 0) (by decide +kernel) rfl crc1 (cwT_v cV_setWhole inV mlR_64 imV_setWhole seV_setWhole (by decide +kernel) (by decide)), os_al_n (j := 0) (by decide +kernel) rfl, os_dup (by decide +kernel), os_get (idx := 46) (f := 1) (ci := 3) (C := "FunctionRows") (T := FR) (N := 7) (by decide +kernel) rfl (fun w h => tb_in (fiR w h)) (by decide) (tb_in lkR_46) glR1, os_dupx1 (by decide +kernel), os_iconst (n := 1) (by decide +kernel) (by decide +kernel), os_iadd (by decide +kernel), os_put hE (idx := 46) (f := 1) (ci := 3) (C := "FunctionRows") (T := FR) (N := 7) (ty0 := ftR) (by decide +kernel) rfl (fun w h => tb_in (fiR w h)) ftR_ok fnR (by decide) (tb_in lkR_46) rfl (by decide +kernel) plR1, os_reti hE (by decide +kernel) rfl⟩
def kC_readDigits (P : MethodName × List Cond × Room → List qm_v → cG → Option qm_v → cG → Prop) : List (Nat × qm_op cG) := [(0, o_al 1), (1, o_ic (0)), (2, o_callv 1 2 (P mV_at)), (5, o_ic (45)), (7, o_icne 14), (10, o_ic (1)), (11, o_go 15), (14, o_ic (0)), (15, o_is 2), (16, o_il 2), (17, o_ifeq 24), (20, o_ic (1)), (21, o_go 25), (24, o_ic (0)), (25, o_is 3), (26, o_al 1), (27, o_get 1 rdV3), (30, o_il 3), (31, o_isub), (32, o_is 4), (34, o_il 4), (36, o_ic (1)), (37, o_iclt 51), (40, o_il 4), (42, o_ic (15)), (44, o_icgt 51), (47, o_ic (1)), (48, o_go 52), (51, o_ic (0)), (52, o_is 5), (54, o_lc 0), (55, o_ls 6), (57, o_il 3), (58, o_is 8), (60, o_il 5), (62, o_ifeq 129), (65, o_il 8), (67, o_al 1), (68, o_get 1 rdV3), (71, o_icge 129), (74, o_al 1), (75, o_il 8), (77, o_callv 1 2 (P mV_at)), (80, o_ic (48)), (82, o_iclt 100), (85, o_al 1), (86, o_il 8), (88, o_callv 1 2 (P mV_at)), (91, o_ic (57)), (93, o_icgt 100), (96, o_ic (1)), (97, o_go 101), (100, o_ic (0)), (101, o_is 5), (103, o_ll 6), (105, o_lc (10)), (108, o_lmul), (109, o_al 1), (110, o_il 8), (112, o_callv 1 2 (P mV_at)), (115, o_i2l), (116, o_ladd), (117, o_lc (48)), (120, o_lsub), (121, o_ls 6), (123, o_inc 8 (1)), (126, o_go 60), (129, o_il 5), (131, o_ifeq 153), (134, o_al 0), (135, o_il 2), (136, o_ifeq 145), (139, o_ll 6), (141, o_lneg), (142, o_go 147), (145, o_ll 6), (147, o_callv 1 2 (P mV_setWhole)), (150, o_go 157), (153, o_al 0), (154, o_callv 1 1 (P mV_setError)), (157, o_ret0)]
set_option maxRecDepth 20000 in
theorem sC_readDigits {E : cEnv} (hE : cOk E) : qm_cok (cK E (rmL 3) prog_2_method_5_code 9 "FunctionRows$Casts" (wsT yC_readDigits prog_2_method_5_code 9 none) none) (kC_readDigits (cSd E)) := ⟨os_al_n (j := 1) (by decide +kernel) rfl, os_iconst (n := 0) (by decide +kernel) (by decide +kernel), os_callv hE (pc := 2) (idx := 58) (ci := 0) (by decide +kernel) rfl crc1 (cwT_v cV_at inV mlC_58 imV_at seV_at (by decide +kernel) (by decide)), os_bipush (n := 45) (by decide +kernel) (by decide +kernel), os_icne (off := 7) (by decide +kernel) (by decide), os_iconst (n := 1) (by decide +kernel) (by decide +kernel), os_go (off := 4) (by decide +kernel) (by decide), os_iconst (n := 0) (by decide +kernel) (by decide +kernel), os_is_n (j := 2) (by decide +kernel) rfl (by decide), os_il_n (j := 2) (by decide +kernel) rfl, os_ifeq (off := 7) (by decide +kernel) (by decide), os_iconst (n := 1) (by decide +kernel) (by decide +kernel), os_go (off := 4) (by decide +kernel) (by decide), os_iconst (n := 0) (by decide +kernel) (by decide +kernel), os_is_n (j := 3) (by decide +kernel) rfl (by decide), os_al_n (j := 1) (by decide +kernel) rfl, os_get (idx := 62) (f := 3) (ci := 0) (C := "FunctionRows$Value") (T := FV) (N := 5) (by decide +kernel) rfl (fun w h => tb_in (fiV w h)) (by decide) (tb_in lkC_62) glV3, os_il_n (j := 3) (by decide +kernel) rfl, os_isub (by decide +kernel), os_is (by decide +kernel) (by decide), os_il (by decide +kernel), os_iconst (n := 1) (by decide +kernel) (by decide +kernel), os_iclt (off := 14) (by decide +kernel) (by decide), os_il (by decide +kernel), os_bipush (n := 15) (by decide +kernel) (by decide +kernel), os_icgt (off := 7) (by decide +kernel) (by decide), os_iconst (n := 1) (by decide +kernel) (by decide +kernel), os_go (off := 4) (by decide +kernel) (by decide), os_iconst (n := 0) (by decide +kernel) (by decide +kernel), os_is (by decide +kernel) (by decide), os_lconst (n := 0) (by decide +kernel) (by decide +kernel), os_ls (by decide +kernel) (by decide), os_il_n (j := 3) (by decide +kernel) rfl, os_is (by decide +kernel) (by decide), os_il (by decide +kernel), os_ifeq (off := 67) (by decide +kernel) (by decide), os_il (by decide +kernel), os_al_n (j := 1) (by decide +kernel) rfl, os_get (idx := 62) (f := 3) (ci := 0) (C := "FunctionRows$Value") (T := FV) (N := 5) (by decide +kernel) rfl (fun w h => tb_in (fiV w h)) (by decide) (tb_in lkC_62) glV3, os_icge (off := 58) (by decide +kernel) (by decide), os_al_n (j := 1) (by decide +kernel) rfl, os_il (by decide +kernel), os_callv hE (pc := 77) (idx := 58) (ci := 0) (by decide +kernel) rfl crc1 (cwT_v cV_at inV mlC_58 imV_at seV_at (by decide +kernel) (by decide)), os_bipush (n := 48) (by decide +kernel) (by decide +kernel), os_iclt (off := 18) (by decide +kernel) (by decide), os_al_n (j := 1) (by decide +kernel) rfl, os_il (by decide +kernel), os_callv hE (pc := 88) (idx := 58) (ci := 0) (by decide +kernel) rfl crc1 (cwT_v cV_at inV mlC_58 imV_at seV_at (by decide +kernel) (by decide)), os_bipush (n := 57) (by decide +kernel) (by decide +kernel), os_icgt (off := 7) (by decide +kernel) (by decide), os_iconst (n := 1) (by decide +kernel) (by decide +kernel), os_go (off := 4) (by decide +kernel) (by decide), os_iconst (n := 0) (by decide +kernel) (by decide +kernel), os_is (by decide +kernel) (by decide), os_ll (by decide +kernel), os_ldc2 (idx := 65) (by decide +kernel) (tb_in klC_65), os_lmul (by decide +kernel), os_al_n (j := 1) (by decide +kernel) rfl, os_il (by decide +kernel), os_callv hE (pc := 112) (idx := 58) (ci := 0) (by decide +kernel) rfl crc1 (cwT_v cV_at inV mlC_58 imV_at seV_at (by decide +kernel) (by decide)), os_i2l (by decide +kernel), os_ladd (by decide +kernel), os_ldc2 (idx := 67) (by decide +kernel) (tb_in klC_67), os_lsub (by decide +kernel), os_ls (by decide +kernel) (by decide), os_inc (n := 1) (by decide +kernel) (by decide +kernel) (by decide), os_go (off := -66) (by decide +kernel) (by decide), os_il (by decide +kernel), os_ifeq (off := 22) (by decide +kernel) (by decide), os_al_n (j := 0) (by decide +kernel) rfl, os_il_n (j := 2) (by decide +kernel) rfl, os_ifeq (off := 9) (by decide +kernel) (by decide), os_ll (by decide +kernel), os_lneg (by decide +kernel), os_go (off := 5) (by decide +kernel) (by decide), os_ll (by decide +kernel), os_callv hE (pc := 147) (idx := 34) (ci := 0) (by decide +kernel) rfl crc1 (cwT_v cV_setWhole inV mlC_34 imV_setWhole seV_setWhole (by decide +kernel) (by decide)), os_go (off := 7) (by decide +kernel) (by decide), os_al_n (j := 0) (by decide +kernel) rfl, os_callv hE (pc := 154) (idx := 31) (ci := 0) (by decide +kernel) rfl crc1 (cwT_v cV_setError inV mlC_31 imV_setError seV_setError (by decide +kernel) (by decide)), os_ret0 hE (by decide +kernel) rfl⟩
def kS_openGroup (P : MethodName × List Cond × Room → List qm_v → cG → Option qm_v → cG → Prop) : List (Nat × qm_op cG) := [(0, o_al 0), (1, o_get 7 rdS9), (4, o_ic (24)), (6, o_iclt 11), (9, o_ic (0)), (10, o_retz), (11, o_al 0), (12, o_get 7 rdS7), (15, o_al 0), (16, o_get 7 rdS9), (19, o_al 0), (20, o_get 7 rdS10), (23, o_ast 8 cn8 cw8), (24, o_al 0), (25, o_get 7 rdS8), (28, o_al 0), (29, o_get 7 rdS9), (32, o_al 0), (33, o_get 7 rdS11), (36, o_ast 8 cn8 cw8), (37, o_al 0), (38, o_stk f_dup), (39, o_get 7 rdS9), (42, o_ic (1)), (43, o_iadd), (44, o_put 7 wrS9), (47, o_al 0), (48, o_al 0), (49, o_callv 7 1 (P mS_enter)), (52, o_put 7 wrS10), (55, o_al 0), (56, o_al 0), (57, o_callv 7 1 (P mS_newState)), (60, o_put 7 wrS11), (63, o_al 0), (64, o_al 0), (65, o_get 7 rdS10), (68, o_put 7 wrS12), (71, o_ic (1)), (72, o_retz)]
set_option maxRecDepth 20000 in
theorem sS_openGroup {E : cEnv} (hE : cOk E) : qm_cok (cK E (rmL 3) prog_4_method_5_code 1 "FunctionRows$Search" (wsT yS_openGroup prog_4_method_5_code 1 (some .boolean)) (some .boolean)) (kS_openGroup (cSd E)) := ⟨os_al_n (j := 0) (by decide +kernel) rfl, os_get (idx := 58) (f := 9) (ci := 2) (C := "FunctionRows$Search") (T := FS) (N := 14) (by decide +kernel) rfl (fun w h => tb_in (fiS w h)) (by decide) (tb_in lkS_58) glS9, os_bipush (n := 24) (by decide +kernel) (by decide +kernel), os_iclt (off := 5) (by decide +kernel) (by decide), os_iconst (n := 0) (by decide +kernel) (by decide +kernel), os_retz hE (by decide +kernel) rfl, os_al_n (j := 0) (by decide +kernel) rfl, os_get (idx := 27) (f := 7) (ci := 2) (C := "FunctionRows$Search") (T := FS) (N := 14) (by decide +kernel) rfl (fun w h => tb_in (fiS w h)) (by decide) (tb_in lkS_27) glS7, os_al_n (j := 0) (by decide +kernel) rfl, os_get (idx := 58) (f := 9) (ci := 2) (C := "FunctionRows$Search") (T := FS) (N := 14) (by decide +kernel) rfl (fun w h => tb_in (fiS w h)) (by decide) (tb_in lkS_58) glS9, os_al_n (j := 0) (by decide +kernel) rfl, os_get (idx := 91) (f := 10) (ci := 2) (C := "FunctionRows$Search") (T := FS) (N := 14) (by decide +kernel) rfl (fun w h => tb_in (fiS w h)) (by decide) (tb_in lkS_91) glS10, os_iast hE (t0 := 1) (by decide +kernel) rfl cce8 cwr8 cok8, os_al_n (j := 0) (by decide +kernel) rfl, os_get (idx := 30) (f := 8) (ci := 2) (C := "FunctionRows$Search") (T := FS) (N := 14) (by decide +kernel) rfl (fun w h => tb_in (fiS w h)) (by decide) (tb_in lkS_30) glS8, os_al_n (j := 0) (by decide +kernel) rfl, os_get (idx := 58) (f := 9) (ci := 2) (C := "FunctionRows$Search") (T := FS) (N := 14) (by decide +kernel) rfl (fun w h => tb_in (fiS w h)) (by decide) (tb_in lkS_58) glS9, os_al_n (j := 0) (by decide +kernel) rfl, os_get (idx := 64) (f := 11) (ci := 2) (C := "FunctionRows$Search") (T := FS) (N := 14) (by decide +kernel) rfl (fun w h => tb_in (fiS w h)) (by decide) (tb_in lkS_64) glS11, os_iast hE (t0 := 1) (by decide +kernel) rfl cce8 cwr8 cok8, os_al_n (j := 0) (by decide +kernel) rfl, os_dup (by decide +kernel), os_get (idx := 58) (f := 9) (ci := 2) (C := "FunctionRows$Search") (T := FS) (N := 14) (by decide +kernel) rfl (fun w h => tb_in (fiS w h)) (by decide) (tb_in lkS_58) glS9, os_iconst (n := 1) (by decide +kernel) (by decide +kernel), os_iadd (by decide +kernel), os_put hE (idx := 58) (f := 9) (ci := 2) (C := "FunctionRows$Search") (T := FS) (N := 14) (ty0 := ftS) (by decide +kernel) rfl (fun w h => tb_in (fiS w h)) ftS_ok fnS (by decide) (tb_in lkS_58) rfl (by decide +kernel) plS9, os_al_n (j := 0) (by decide +kernel) rfl, os_al_n (j := 0) (by decide +kernel) rfl, os_callv hE (pc := 49) (idx := 124) (ci := 2) (by decide +kernel) rfl crc7 (cwT_v cS_enter inS mlS_124 imS_enter seS_enter (by decide +kernel) (by decide)), os_put hE (idx := 91) (f := 10) (ci := 2) (C := "FunctionRows$Search") (T := FS) (N := 14) (ty0 := ftS) (by decide +kernel) rfl (fun w h => tb_in (fiS w h)) ftS_ok fnS (by decide) (tb_in lkS_91) rfl (by decide +kernel) plS10, os_al_n (j := 0) (by decide +kernel) rfl, os_al_n (j := 0) (by decide +kernel) rfl, os_callv hE (pc := 57) (idx := 87) (ci := 2) (by decide +kernel) rfl crc7 (cwT_v cS_newState inS mlS_87 imS_newState seS_newState (by decide +kernel) (by decide)), os_put hE (idx := 64) (f := 11) (ci := 2) (C := "FunctionRows$Search") (T := FS) (N := 14) (ty0 := ftS) (by decide +kernel) rfl (fun w h => tb_in (fiS w h)) ftS_ok fnS (by decide) (tb_in lkS_64) rfl (by decide +kernel) plS11, os_al_n (j := 0) (by decide +kernel) rfl, os_al_n (j := 0) (by decide +kernel) rfl, os_get (idx := 91) (f := 10) (ci := 2) (C := "FunctionRows$Search") (T := FS) (N := 14) (by decide +kernel) rfl (fun w h => tb_in (fiS w h)) (by decide) (tb_in lkS_91) glS10, os_put hE (idx := 61) (f := 12) (ci := 2) (C := "FunctionRows$Search") (T := FS) (N := 14) (ty0 := ftS) (by decide +kernel) rfl (fun w h => tb_in (fiS w h)) ftS_ok fnS (by decide) (tb_in lkS_61) rfl (by decide +kernel) plS12, os_iconst (n := 1) (by decide +kernel) (by decide +kernel), os_retz hE (by decide +kernel) rfl⟩
def kS_closeGroup (P : MethodName × List Cond × Room → List qm_v → cG → Option qm_v → cG → Prop) : List (Nat × qm_op cG) := [(0, o_al 0), (1, o_get 7 rdS9), (4, o_ifgt 9), (7, o_ic (0)), (8, o_retz), (9, o_al 0), (10, o_al 0), (11, o_get 7 rdS12), (14, o_al 0), (15, o_get 7 rdS11), (18, o_ic (-1)), (19, o_ic (0)), (20, o_callv 7 5 (P mS_connect)), (23, o_al 0), (24, o_al 0), (25, o_get 7 rdS10), (28, o_al 0), (29, o_get 7 rdS11), (32, o_al 1), (33, o_callv 7 4 (P mS_repeat)), (36, o_al 0), (37, o_stk f_dup), (38, o_get 7 rdS9), (41, o_ic (1)), (42, o_isub), (43, o_put 7 wrS9), (46, o_al 0), (47, o_al 0), (48, o_get 7 rdS7), (51, o_al 0), (52, o_get 7 rdS9), (55, o_ald 8 cn8 cr8), (56, o_put 7 wrS10), (59, o_al 0), (60, o_al 0), (61, o_get 7 rdS8), (64, o_al 0), (65, o_get 7 rdS9), (68, o_ald 8 cn8 cr8), (69, o_put 7 wrS11), (72, o_ic (1)), (73, o_retz)]
set_option maxRecDepth 20000 in
theorem sS_closeGroup {E : cEnv} (hE : cOk E) : qm_cok (cK E (rmL 3) prog_4_method_6_code 2 "FunctionRows$Search" (wsT yS_closeGroup prog_4_method_6_code 2 (some .boolean)) (some .boolean)) (kS_closeGroup (cSd E)) := ⟨os_al_n (j := 0) (by decide +kernel) rfl, os_get (idx := 58) (f := 9) (ci := 2) (C := "FunctionRows$Search") (T := FS) (N := 14) (by decide +kernel) rfl (fun w h => tb_in (fiS w h)) (by decide) (tb_in lkS_58) glS9, os_ifgt (off := 5) (by decide +kernel) (by decide), os_iconst (n := 0) (by decide +kernel) (by decide +kernel), os_retz hE (by decide +kernel) rfl, os_al_n (j := 0) (by decide +kernel) rfl, os_al_n (j := 0) (by decide +kernel) rfl, os_get (idx := 61) (f := 12) (ci := 2) (C := "FunctionRows$Search") (T := FS) (N := 14) (by decide +kernel) rfl (fun w h => tb_in (fiS w h)) (by decide) (tb_in lkS_61) glS12, os_al_n (j := 0) (by decide +kernel) rfl, os_get (idx := 64) (f := 11) (ci := 2) (C := "FunctionRows$Search") (T := FS) (N := 14) (by decide +kernel) rfl (fun w h => tb_in (fiS w h)) (by decide) (tb_in lkS_64) glS11, os_iconst (n := -1) (by decide +kernel) (by decide +kernel), os_iconst (n := 0) (by decide +kernel) (by decide +kernel), os_callv hE (pc := 20) (idx := 67) (ci := 2) (by decide +kernel) rfl crc7 (cwT_v cS_connect inS mlS_67 imS_connect seS_connect (by decide +kernel) (by decide)), os_al_n (j := 0) (by decide +kernel) rfl, os_al_n (j := 0) (by decide +kernel) rfl, os_get (idx := 91) (f := 10) (ci := 2) (C := "FunctionRows$Search") (T := FS) (N := 14) (by decide +kernel) rfl (fun w h => tb_in (fiS w h)) (by decide) (tb_in lkS_91) glS10, os_al_n (j := 0) (by decide +kernel) rfl, os_get (idx := 64) (f := 11) (ci := 2) (C := "FunctionRows$Search") (T := FS) (N := 14) (by decide +kernel) rfl (fun w h => tb_in (fiS w h)) (by decide) (tb_in lkS_64) glS11, os_al_n (j := 1) (by decide +kernel) rfl, os_callv hE (pc := 33) (idx := 127) (ci := 2) (by decide +kernel) rfl crc7 (cwT_v cS_repeat inS mlS_127 imS_repeat seS_repeat (by decide +kernel) (by decide)), os_al_n (j := 0) (by decide +kernel) rfl, os_dup (by decide +kernel), os_get (idx := 58) (f := 9) (ci := 2) (C := "FunctionRows$Search") (T := FS) (N := 14) (by decide +kernel) rfl (fun w h => tb_in (fiS w h)) (by decide) (tb_in lkS_58) glS9, os_iconst (n := 1) (by decide +kernel) (by decide +kernel), os_isub (by decide +kernel), os_put hE (idx := 58) (f := 9) (ci := 2) (C := "FunctionRows$Search") (T := FS) (N := 14) (ty0 := ftS) (by decide +kernel) rfl (fun w h => tb_in (fiS w h)) ftS_ok fnS (by decide) (tb_in lkS_58) rfl (by decide +kernel) plS9, os_al_n (j := 0) (by decide +kernel) rfl, os_al_n (j := 0) (by decide +kernel) rfl, os_get (idx := 27) (f := 7) (ci := 2) (C := "FunctionRows$Search") (T := FS) (N := 14) (by decide +kernel) rfl (fun w h => tb_in (fiS w h)) (by decide) (tb_in lkS_27) glS7, os_al_n (j := 0) (by decide +kernel) rfl, os_get (idx := 58) (f := 9) (ci := 2) (C := "FunctionRows$Search") (T := FS) (N := 14) (by decide +kernel) rfl (fun w h => tb_in (fiS w h)) (by decide) (tb_in lkS_58) glS9, os_iald (t0 := 1) (by decide +kernel) rfl cce8, os_put hE (idx := 91) (f := 10) (ci := 2) (C := "FunctionRows$Search") (T := FS) (N := 14) (ty0 := ftS) (by decide +kernel) rfl (fun w h => tb_in (fiS w h)) ftS_ok fnS (by decide) (tb_in lkS_91) rfl (by decide +kernel) plS10, os_al_n (j := 0) (by decide +kernel) rfl, os_al_n (j := 0) (by decide +kernel) rfl, os_get (idx := 30) (f := 8) (ci := 2) (C := "FunctionRows$Search") (T := FS) (N := 14) (by decide +kernel) rfl (fun w h => tb_in (fiS w h)) (by decide) (tb_in lkS_30) glS8, os_al_n (j := 0) (by decide +kernel) rfl, os_get (idx := 58) (f := 9) (ci := 2) (C := "FunctionRows$Search") (T := FS) (N := 14) (by decide +kernel) rfl (fun w h => tb_in (fiS w h)) (by decide) (tb_in lkS_58) glS9, os_iald (t0 := 1) (by decide +kernel) rfl cce8, os_put hE (idx := 64) (f := 11) (ci := 2) (C := "FunctionRows$Search") (T := FS) (N := 14) (ty0 := ftS) (by decide +kernel) rfl (fun w h => tb_in (fiS w h)) ftS_ok fnS (by decide) (tb_in lkS_64) rfl (by decide +kernel) plS11, os_iconst (n := 1) (by decide +kernel) (by decide +kernel), os_retz hE (by decide +kernel) rfl⟩
def kS_atom (P : MethodName × List Cond × Room → List qm_v → cG → Option qm_v → cG → Prop) : List (Nat × qm_op cG) := [(0, o_il 1), (1, o_ic (-1)), (2, o_icne 7), (5, o_ic (0)), (6, o_retz), (7, o_al 0), (8, o_callv 7 1 (P mS_enter)), (11, o_is 3), (12, o_al 0), (13, o_callv 7 1 (P mS_newState)), (16, o_is 4), (18, o_al 0), (19, o_il 3), (20, o_il 4), (22, o_il 1), (23, o_ic (1)), (24, o_callv 7 5 (P mS_connect)), (27, o_al 0), (28, o_il 3), (29, o_il 4), (31, o_al 2), (32, o_callv 7 4 (P mS_repeat)), (35, o_ic (1)), (36, o_retz)]
set_option maxRecDepth 20000 in
theorem sS_atom {E : cEnv} (hE : cOk E) : qm_cok (cK E (rmL 3) prog_4_method_8_code 5 "FunctionRows$Search" (wsT yS_atom prog_4_method_8_code 5 (some .boolean)) (some .boolean)) (kS_atom (cSd E)) := ⟨os_il_n (j := 1) (by decide +kernel) rfl, os_iconst (n := -1) (by decide +kernel) (by decide +kernel), os_icne (off := 5) (by decide +kernel) (by decide), os_iconst (n := 0) (by decide +kernel) (by decide +kernel), os_retz hE (by decide +kernel) rfl, os_al_n (j := 0) (by decide +kernel) rfl, os_callv hE (pc := 8) (idx := 124) (ci := 2) (by decide +kernel) rfl crc7 (cwT_v cS_enter inS mlS_124 imS_enter seS_enter (by decide +kernel) (by decide)), os_is_n (j := 3) (by decide +kernel) rfl (by decide), os_al_n (j := 0) (by decide +kernel) rfl, os_callv hE (pc := 13) (idx := 87) (ci := 2) (by decide +kernel) rfl crc7 (cwT_v cS_newState inS mlS_87 imS_newState seS_newState (by decide +kernel) (by decide)), os_is (by decide +kernel) (by decide), os_al_n (j := 0) (by decide +kernel) rfl, os_il_n (j := 3) (by decide +kernel) rfl, os_il (by decide +kernel), os_il_n (j := 1) (by decide +kernel) rfl, os_iconst (n := 1) (by decide +kernel) (by decide +kernel), os_callv hE (pc := 24) (idx := 67) (ci := 2) (by decide +kernel) rfl crc7 (cwT_v cS_connect inS mlS_67 imS_connect seS_connect (by decide +kernel) (by decide)), os_al_n (j := 0) (by decide +kernel) rfl, os_il_n (j := 3) (by decide +kernel) rfl, os_il (by decide +kernel), os_al_n (j := 2) (by decide +kernel) rfl, os_callv hE (pc := 32) (idx := 127) (ci := 2) (by decide +kernel) rfl crc7 (cwT_v cS_repeat inS mlS_127 imS_repeat seS_repeat (by decide +kernel) (by decide)), os_iconst (n := 1) (by decide +kernel) (by decide +kernel), os_retz hE (by decide +kernel) rfl⟩
def kS_readEscaped (P : MethodName × List Cond × Room → List qm_v → cG → Option qm_v → cG → Prop) : List (Nat × qm_op cG) := [(0, o_al 0), (1, o_get 7 rdS13), (4, o_al 2), (5, o_get 1 rdV3), (8, o_iclt 13), (11, o_ic (-1)), (12, o_reti), (13, o_al 2), (14, o_al 0), (15, o_get 7 rdS13), (18, o_callv 1 2 (P mV_at)), (21, o_is 3), (22, o_al 0), (23, o_stk f_dup), (24, o_get 7 rdS13), (27, o_ic (1)), (28, o_iadd), (29, o_put 7 wrS13), (32, o_al 1), (33, o_il 3), (34, o_il 3), (35, o_call 3 (P mS_placesOf)), (38, o_reti)]
set_option maxRecDepth 20000 in
theorem sS_readEscaped {E : cEnv} (hE : cOk E) : qm_cok (cK E (rmL 3) prog_4_method_11_code 4 "FunctionRows$Search" (wsT yS_readEscaped prog_4_method_11_code 4 (some .int)) (some .int)) (kS_readEscaped (cSd E)) := ⟨os_al_n (j := 0) (by decide +kernel) rfl, os_get (idx := 51) (f := 13) (ci := 2) (C := "FunctionRows$Search") (T := FS) (N := 14) (by decide +kernel) rfl (fun w h => tb_in (fiS w h)) (by decide) (tb_in lkS_51) glS13, os_al_n (j := 2) (by decide +kernel) rfl, os_get (idx := 48) (f := 3) (ci := 0) (C := "FunctionRows$Value") (T := FV) (N := 5) (by decide +kernel) rfl (fun w h => tb_in (fiV w h)) (by decide) (tb_in lkS_48) glV3, os_iclt (off := 5) (by decide +kernel) (by decide), os_iconst (n := -1) (by decide +kernel) (by decide +kernel), os_reti hE (by decide +kernel) rfl, os_al_n (j := 2) (by decide +kernel) rfl, os_al_n (j := 0) (by decide +kernel) rfl, os_get (idx := 51) (f := 13) (ci := 2) (C := "FunctionRows$Search") (T := FS) (N := 14) (by decide +kernel) rfl (fun w h => tb_in (fiS w h)) (by decide) (tb_in lkS_51) glS13, os_callv hE (pc := 18) (idx := 94) (ci := 0) (by decide +kernel) rfl crc1 (cwT_v cV_at inV mlS_94 imV_at seV_at (by decide +kernel) (by decide)), os_is_n (j := 3) (by decide +kernel) rfl (by decide), os_al_n (j := 0) (by decide +kernel) rfl, os_dup (by decide +kernel), os_get (idx := 51) (f := 13) (ci := 2) (C := "FunctionRows$Search") (T := FS) (N := 14) (by decide +kernel) rfl (fun w h => tb_in (fiS w h)) (by decide) (tb_in lkS_51) glS13, os_iconst (n := 1) (by decide +kernel) (by decide +kernel), os_iadd (by decide +kernel), os_put hE (idx := 51) (f := 13) (ci := 2) (C := "FunctionRows$Search") (T := FS) (N := 14) (ty0 := ftS) (by decide +kernel) rfl (fun w h => tb_in (fiS w h)) ftS_ok fnS (by decide) (tb_in lkS_51) rfl (by decide +kernel) plS13, os_al_n (j := 1) (by decide +kernel) rfl, os_il_n (j := 3) (by decide +kernel) rfl, os_il_n (j := 3) (by decide +kernel) rfl, os_call hE (pc := 35) (idx := 109) (by decide +kernel) (cwT_s cS_placesOf inS mlS_109 stS_placesOf (by decide +kernel) (by decide)), os_reti hE (by decide +kernel) rfl⟩
def kS_readItems (P : MethodName × List Cond × Room → List qm_v → cG → Option qm_v → cG → Prop) : List (Nat × qm_op cG) := [(0, o_al 2), (1, o_al 0), (2, o_get 7 rdS13), (5, o_callv 1 2 (P mV_at)), (8, o_ic (94)), (10, o_icne 17), (13, o_ic (1)), (14, o_go 18), (17, o_ic (0)), (18, o_is 3), (19, o_il 3), (20, o_ifeq 33), (23, o_al 0), (24, o_stk f_dup), (25, o_get 7 rdS13), (28, o_ic (1)), (29, o_iadd), (30, o_put 7 wrS13), (33, o_ic (0)), (34, o_is 4), (36, o_ic (0)), (37, o_is 5), (39, o_ic (0)), (40, o_is 6), (42, o_il 6), (44, o_al 2), (45, o_get 1 rdV3), (48, o_icge 184), (51, o_al 2), (52, o_al 0), (53, o_get 7 rdS13), (56, o_callv 1 2 (P mV_at)), (59, o_ic (93)), (61, o_iceq 184), (64, o_al 2), (65, o_al 0), (66, o_get 7 rdS13), (69, o_callv 1 2 (P mV_at)), (72, o_is 7), (74, o_al 2), (75, o_al 0), (76, o_get 7 rdS13), (79, o_ic (1)), (80, o_iadd), (81, o_callv 1 2 (P mV_at)), (84, o_ic (45)), (86, o_icne 93), (89, o_ic (1)), (90, o_go 94), (93, o_ic (0)), (94, o_is 8), (96, o_il 8), (98, o_ifeq 114), (101, o_al 2), (102, o_al 0), (103, o_get 7 rdS13), (106, o_ic (2)), (107, o_iadd), (108, o_callv 1 2 (P mV_at)), (111, o_go 116), (114, o_il 7), (116, o_is 9), (118, o_il 7), (120, o_call 1 (P mS_isItem)), (123, o_ifeq 141), (126, o_il 9), (128, o_call 1 (P mS_isItem)), (131, o_ifeq 141), (134, o_il 7), (136, o_il 9), (138, o_icle 143), (141, o_ic (-1)), (142, o_reti), (143, o_il 4), (145, o_al 1), (146, o_il 7), (148, o_il 9), (150, o_call 3 (P mS_placesOf)), (153, o_ior), (154, o_is 4), (156, o_al 0), (157, o_stk f_dup), (158, o_get 7 rdS13), (161, o_il 8), (163, o_ifeq 170), (166, o_ic (3)), (167, o_go 171), (170, o_ic (1)), (171, o_iadd), (172, o_put 7 wrS13), (175, o_inc 5 (1)), (178, o_inc 6 (1)), (181, o_go 42), (184, o_il 5), (186, o_ifeq 202), (189, o_al 2), (190, o_al 0), (191, o_get 7 rdS13), (194, o_callv 1 2 (P mV_at)), (197, o_ic (93)), (199, o_iceq 204), (202, o_ic (-1)), (203, o_reti), (204, o_al 0), (205, o_stk f_dup), (206, o_get 7 rdS13), (209, o_ic (1)), (210, o_iadd), (211, o_put 7 wrS13), (214, o_il 3), (215, o_ifeq 234), (218, o_al 1), (219, o_ic (32)), (221, o_ic (126)), (223, o_call 3 (P mS_placesOf)), (226, o_il 4), (228, o_ic (-1)), (229, o_ixor), (230, o_iand), (231, o_go 236), (234, o_il 4), (236, o_reti)]
set_option maxRecDepth 20000 in
theorem sS_readItems {E : cEnv} (hE : cOk E) : qm_cok (cK E (rmL 3) prog_4_method_12_code 10 "FunctionRows$Search" (wsT yS_readItems prog_4_method_12_code 10 (some .int)) (some .int)) (kS_readItems (cSd E)) := ⟨os_al_n (j := 2) (by decide +kernel) rfl, os_al_n (j := 0) (by decide +kernel) rfl, os_get (idx := 51) (f := 13) (ci := 2) (C := "FunctionRows$Search") (T := FS) (N := 14) (by decide +kernel) rfl (fun w h => tb_in (fiS w h)) (by decide) (tb_in lkS_51) glS13, os_callv hE (pc := 5) (idx := 94) (ci := 0) (by decide +kernel) rfl crc1 (cwT_v cV_at inV mlS_94 imV_at seV_at (by decide +kernel) (by decide)), os_bipush (n := 94) (by decide +kernel) (by decide +kernel), os_icne (off := 7) (by decide +kernel) (by decide), os_iconst (n := 1) (by decide +kernel) (by decide +kernel), os_go (off := 4) (by decide +kernel) (by decide), os_iconst (n := 0) (by decide +kernel) (by decide +kernel), os_is_n (j := 3) (by decide +kernel) rfl (by decide), os_il_n (j := 3) (by decide +kernel) rfl, os_ifeq (off := 13) (by decide +kernel) (by decide), os_al_n (j := 0) (by decide +kernel) rfl, os_dup (by decide +kernel), os_get (idx := 51) (f := 13) (ci := 2) (C := "FunctionRows$Search") (T := FS) (N := 14) (by decide +kernel) rfl (fun w h => tb_in (fiS w h)) (by decide) (tb_in lkS_51) glS13, os_iconst (n := 1) (by decide +kernel) (by decide +kernel), os_iadd (by decide +kernel), os_put hE (idx := 51) (f := 13) (ci := 2) (C := "FunctionRows$Search") (T := FS) (N := 14) (ty0 := ftS) (by decide +kernel) rfl (fun w h => tb_in (fiS w h)) ftS_ok fnS (by decide) (tb_in lkS_51) rfl (by decide +kernel) plS13, os_iconst (n := 0) (by decide +kernel) (by decide +kernel), os_is (by decide +kernel) (by decide), os_iconst (n := 0) (by decide +kernel) (by decide +kernel), os_is (by decide +kernel) (by decide), os_iconst (n := 0) (by decide +kernel) (by decide +kernel), os_is (by decide +kernel) (by decide), os_il (by decide +kernel), os_al_n (j := 2) (by decide +kernel) rfl, os_get (idx := 48) (f := 3) (ci := 0) (C := "FunctionRows$Value") (T := FV) (N := 5) (by decide +kernel) rfl (fun w h => tb_in (fiV w h)) (by decide) (tb_in lkS_48) glV3, os_icge (off := 136) (by decide +kernel) (by decide), os_al_n (j := 2) (by decide +kernel) rfl, os_al_n (j := 0) (by decide +kernel) rfl, os_get (idx := 51) (f := 13) (ci := 2) (C := "FunctionRows$Search") (T := FS) (N := 14) (by decide +kernel) rfl (fun w h => tb_in (fiS w h)) (by decide) (tb_in lkS_51) glS13, os_callv hE (pc := 56) (idx := 94) (ci := 0) (by decide +kernel) rfl crc1 (cwT_v cV_at inV mlS_94 imV_at seV_at (by decide +kernel) (by decide)), os_bipush (n := 93) (by decide +kernel) (by decide +kernel), os_iceq (off := 123) (by decide +kernel) (by decide), os_al_n (j := 2) (by decide +kernel) rfl, os_al_n (j := 0) (by decide +kernel) rfl, os_get (idx := 51) (f := 13) (ci := 2) (C := "FunctionRows$Search") (T := FS) (N := 14) (by decide +kernel) rfl (fun w h => tb_in (fiS w h)) (by decide) (tb_in lkS_51) glS13, os_callv hE (pc := 69) (idx := 94) (ci := 0) (by decide +kernel) rfl crc1 (cwT_v cV_at inV mlS_94 imV_at seV_at (by decide +kernel) (by decide)), os_is (by decide +kernel) (by decide), os_al_n (j := 2) (by decide +kernel) rfl, os_al_n (j := 0) (by decide +kernel) rfl, os_get (idx := 51) (f := 13) (ci := 2) (C := "FunctionRows$Search") (T := FS) (N := 14) (by decide +kernel) rfl (fun w h => tb_in (fiS w h)) (by decide) (tb_in lkS_51) glS13, os_iconst (n := 1) (by decide +kernel) (by decide +kernel), os_iadd (by decide +kernel), os_callv hE (pc := 81) (idx := 94) (ci := 0) (by decide +kernel) rfl crc1 (cwT_v cV_at inV mlS_94 imV_at seV_at (by decide +kernel) (by decide)), os_bipush (n := 45) (by decide +kernel) (by decide +kernel), os_icne (off := 7) (by decide +kernel) (by decide), os_iconst (n := 1) (by decide +kernel) (by decide +kernel), os_go (off := 4) (by decide +kernel) (by decide), os_iconst (n := 0) (by decide +kernel) (by decide +kernel), os_is (by decide +kernel) (by decide), os_il (by decide +kernel), os_ifeq (off := 16) (by decide +kernel) (by decide), os_al_n (j := 2) (by decide +kernel) rfl, os_al_n (j := 0) (by decide +kernel) rfl, os_get (idx := 51) (f := 13) (ci := 2) (C := "FunctionRows$Search") (T := FS) (N := 14) (by decide +kernel) rfl (fun w h => tb_in (fiS w h)) (by decide) (tb_in lkS_51) glS13, os_iconst (n := 2) (by decide +kernel) (by decide +kernel), os_iadd (by decide +kernel), os_callv hE (pc := 108) (idx := 94) (ci := 0) (by decide +kernel) rfl crc1 (cwT_v cV_at inV mlS_94 imV_at seV_at (by decide +kernel) (by decide)), os_go (off := 5) (by decide +kernel) (by decide), os_il (by decide +kernel), os_is (by decide +kernel) (by decide), os_il (by decide +kernel), os_call hE (pc := 120) (idx := 131) (by decide +kernel) (cwT_s cS_isItem inS mlS_131 stS_isItem (by decide +kernel) (by decide)), os_ifeq (off := 18) (by decide +kernel) (by decide), os_il (by decide +kernel), os_call hE (pc := 128) (idx := 131) (by decide +kernel) (cwT_s cS_isItem inS mlS_131 stS_isItem (by decide +kernel) (by decide)), os_ifeq (off := 10) (by decide +kernel) (by decide), os_il (by decide +kernel), os_il (by decide +kernel), os_icle (off := 5) (by decide +kernel) (by decide), os_iconst (n := -1) (by decide +kernel) (by decide +kernel), os_reti hE (by decide +kernel) rfl, os_il (by decide +kernel), os_al_n (j := 1) (by decide +kernel) rfl, os_il (by decide +kernel), os_il (by decide +kernel), os_call hE (pc := 150) (idx := 109) (by decide +kernel) (cwT_s cS_placesOf inS mlS_109 stS_placesOf (by decide +kernel) (by decide)), os_ior (by decide +kernel), os_is (by decide +kernel) (by decide), os_al_n (j := 0) (by decide +kernel) rfl, os_dup (by decide +kernel), os_get (idx := 51) (f := 13) (ci := 2) (C := "FunctionRows$Search") (T := FS) (N := 14) (by decide +kernel) rfl (fun w h => tb_in (fiS w h)) (by decide) (tb_in lkS_51) glS13, os_il (by decide +kernel), os_ifeq (off := 7) (by decide +kernel) (by decide), os_iconst (n := 3) (by decide +kernel) (by decide +kernel), os_go (off := 4) (by decide +kernel) (by decide), os_iconst (n := 1) (by decide +kernel) (by decide +kernel), os_iadd (by decide +kernel), os_put hE (idx := 51) (f := 13) (ci := 2) (C := "FunctionRows$Search") (T := FS) (N := 14) (ty0 := ftS) (by decide +kernel) rfl (fun w h => tb_in (fiS w h)) ftS_ok fnS (by decide) (tb_in lkS_51) rfl (by decide +kernel) plS13, os_inc (n := 1) (by decide +kernel) (by decide +kernel) (by decide), os_inc (n := 1) (by decide +kernel) (by decide +kernel) (by decide), os_go (off := -139) (by decide +kernel) (by decide), os_il (by decide +kernel), os_ifeq (off := 16) (by decide +kernel) (by decide), os_al_n (j := 2) (by decide +kernel) rfl, os_al_n (j := 0) (by decide +kernel) rfl, os_get (idx := 51) (f := 13) (ci := 2) (C := "FunctionRows$Search") (T := FS) (N := 14) (by decide +kernel) rfl (fun w h => tb_in (fiS w h)) (by decide) (tb_in lkS_51) glS13, os_callv hE (pc := 194) (idx := 94) (ci := 0) (by decide +kernel) rfl crc1 (cwT_v cV_at inV mlS_94 imV_at seV_at (by decide +kernel) (by decide)), os_bipush (n := 93) (by decide +kernel) (by decide +kernel), os_iceq (off := 5) (by decide +kernel) (by decide), os_iconst (n := -1) (by decide +kernel) (by decide +kernel), os_reti hE (by decide +kernel) rfl, os_al_n (j := 0) (by decide +kernel) rfl, os_dup (by decide +kernel), os_get (idx := 51) (f := 13) (ci := 2) (C := "FunctionRows$Search") (T := FS) (N := 14) (by decide +kernel) rfl (fun w h => tb_in (fiS w h)) (by decide) (tb_in lkS_51) glS13, os_iconst (n := 1) (by decide +kernel) (by decide +kernel), os_iadd (by decide +kernel), os_put hE (idx := 51) (f := 13) (ci := 2) (C := "FunctionRows$Search") (T := FS) (N := 14) (ty0 := ftS) (by decide +kernel) rfl (fun w h => tb_in (fiS w h)) ftS_ok fnS (by decide) (tb_in lkS_51) rfl (by decide +kernel) plS13, os_il_n (j := 3) (by decide +kernel) rfl, os_ifeq (off := 19) (by decide +kernel) (by decide), os_al_n (j := 1) (by decide +kernel) rfl, os_bipush (n := 32) (by decide +kernel) (by decide +kernel), os_bipush (n := 126) (by decide +kernel) (by decide +kernel), os_call hE (pc := 223) (idx := 109) (by decide +kernel) (cwT_s cS_placesOf inS mlS_109 stS_placesOf (by decide +kernel) (by decide)), os_il (by decide +kernel), os_iconst (n := -1) (by decide +kernel) (by decide +kernel), os_ixor (by decide +kernel), os_iand (by decide +kernel), os_go (off := 5) (by decide +kernel) (by decide), os_il (by decide +kernel), os_reti hE (by decide +kernel) rfl⟩
def kT_part (P : MethodName × List Cond × Room → List qm_v → cG → Option qm_v → cG → Prop) : List (Nat × qm_op cG) := [(0, o_al 2), (1, o_get 1 rdV0), (4, o_ic (2)), (5, o_icne 16), (8, o_al 3), (9, o_get 1 rdV0), (12, o_ic (2)), (13, o_iceq 21), (16, o_al 0), (17, o_callv 1 1 (P mV_setError)), (20, o_ret0), (21, o_al 2), (22, o_get 1 rdV1), (25, o_lc 1), (26, o_lmax), (29, o_lc 1), (30, o_lsub), (31, o_ls 4), (33, o_al 2), (34, o_get 1 rdV1), (37, o_lc 1), (38, o_lsub), (39, o_al 3), (40, o_get 1 rdV1), (43, o_ladd), (44, o_al 1), (45, o_get 1 rdV3), (48, o_i2l), (49, o_lmin), (52, o_ls 6), (54, o_al 0), (55, o_al 1), (56, o_get 1 rdV2), (59, o_callv 1 2 (P mV_startText)), (62, o_ll 4), (64, o_ll 6), (66, o_lcge 81), (70, o_al 0), (71, o_al 1), (72, o_ll 4), (74, o_l2i), (75, o_ll 6), (77, o_l2i), (78, o_callv 1 4 (P mV_appendPart)), (81, o_ret0)]
set_option maxRecDepth 20000 in
theorem sT_part {E : cEnv} (hE : cOk E) : qm_cok (cK E (rmL 3) prog_5_method_3_code 8 "FunctionRows$Texts" (wsT yT_part prog_5_method_3_code 8 none) none) (kT_part (cSd E)) := ⟨os_al_n (j := 2) (by decide +kernel) rfl, os_get (idx := 9) (f := 0) (ci := 0) (C := "FunctionRows$Value") (T := FV) (N := 5) (by decide +kernel) rfl (fun w h => tb_in (fiV w h)) (by decide) (tb_in lkT_9) glV0, os_iconst (n := 2) (by decide +kernel) (by decide +kernel), os_icne (off := 11) (by decide +kernel) (by decide), os_al_n (j := 3) (by decide +kernel) rfl, os_get (idx := 9) (f := 0) (ci := 0) (C := "FunctionRows$Value") (T := FV) (N := 5) (by decide +kernel) rfl (fun w h => tb_in (fiV w h)) (by decide) (tb_in lkT_9) glV0, os_iconst (n := 2) (by decide +kernel) (by decide +kernel), os_iceq (off := 8) (by decide +kernel) (by decide), os_al_n (j := 0) (by decide +kernel) rfl, os_callv hE (pc := 17) (idx := 15) (ci := 0) (by decide +kernel) rfl crc1 (cwT_v cV_setError inV mlT_15 imV_setError seV_setError (by decide +kernel) (by decide)), os_ret0 hE (by decide +kernel) rfl, os_al_n (j := 2) (by decide +kernel) rfl, os_get (idx := 50) (f := 1) (ci := 0) (C := "FunctionRows$Value") (T := FV) (N := 5) (by decide +kernel) rfl (fun w h => tb_in (fiV w h)) (by decide) (tb_in lkT_50) glV1, os_lconst (n := 1) (by decide +kernel) (by decide +kernel), os_lmax (idx := 54) (by decide +kernel) (tb_in mlT_54) (tb_in ms_lmax) (tb_in mi_math) (tb_in mc_lmax) (by decide) (by decide), os_lconst (n := 1) (by decide +kernel) (by decide +kernel), os_lsub (by decide +kernel), os_ls (by decide +kernel) (by decide), os_al_n (j := 2) (by decide +kernel) rfl, os_get (idx := 50) (f := 1) (ci := 0) (C := "FunctionRows$Value") (T := FV) (N := 5) (by decide +kernel) rfl (fun w h => tb_in (fiV w h)) (by decide) (tb_in lkT_50) glV1, os_lconst (n := 1) (by decide +kernel) (by decide +kernel), os_lsub (by decide +kernel), os_al_n (j := 3) (by decide +kernel) rfl, os_get (idx := 50) (f := 1) (ci := 0) (C := "FunctionRows$Value") (T := FV) (N := 5) (by decide +kernel) rfl (fun w h => tb_in (fiV w h)) (by decide) (tb_in lkT_50) glV1, os_ladd (by decide +kernel), os_al_n (j := 1) (by decide +kernel) rfl, os_get (idx := 18) (f := 3) (ci := 0) (C := "FunctionRows$Value") (T := FV) (N := 5) (by decide +kernel) rfl (fun w h => tb_in (fiV w h)) (by decide) (tb_in lkT_18) glV3, os_i2l (by decide +kernel), os_lmin (idx := 60) (by decide +kernel) (tb_in mlT_60) (tb_in ms_lmin) (tb_in mi_math) (tb_in mc_lmin) (by decide) (by decide), os_ls (by decide +kernel) (by decide), os_al_n (j := 0) (by decide +kernel) rfl, os_al_n (j := 1) (by decide +kernel) rfl, os_get (idx := 63) (f := 2) (ci := 0) (C := "FunctionRows$Value") (T := FV) (N := 5) (by decide +kernel) rfl (fun w h => tb_in (fiV w h)) (by decide) (tb_in lkT_63) glV2, os_callv hE (pc := 59) (idx := 66) (ci := 0) (by decide +kernel) rfl crc1 (cwT_v cV_startText inV mlT_66 imV_startText seV_startText (by decide +kernel) (by decide)), os_ll (by decide +kernel), os_ll (by decide +kernel), os_lcge (off := 14) (by decide +kernel) (by decide +kernel) (by decide), os_al_n (j := 0) (by decide +kernel) rfl, os_al_n (j := 1) (by decide +kernel) rfl, os_ll (by decide +kernel), os_l2i (by decide +kernel), os_ll (by decide +kernel), os_l2i (by decide +kernel), os_callv hE (pc := 78) (idx := 70) (ci := 0) (by decide +kernel) rfl crc1 (cwT_v cV_appendPart inV mlT_70 imV_appendPart seV_appendPart (by decide +kernel) (by decide)), os_ret0 hE (by decide +kernel) rfl⟩
def kT_join (P : MethodName × List Cond × Room → List qm_v → cG → Option qm_v → cG → Prop) : List (Nat × qm_op cG) := [(0, o_al 2), (1, o_get 1 rdV0), (4, o_ic (3)), (5, o_iceq 13), (8, o_al 0), (9, o_callv 1 1 (P mV_setError)), (12, o_ret0), (13, o_al 0), (14, o_al 1), (15, o_get 1 rdV2), (18, o_al 2), (19, o_get 1 rdV2), (22, o_icne 32), (25, o_al 1), (26, o_get 1 rdV2), (29, o_go 33), (32, o_ic (0)), (33, o_callv 1 2 (P mV_startText)), (36, o_al 0), (37, o_al 1), (38, o_ic (0)), (39, o_al 1), (40, o_get 1 rdV3), (43, o_callv 1 4 (P mV_appendPart)), (46, o_al 0), (47, o_al 2), (48, o_ic (0)), (49, o_al 2), (50, o_get 1 rdV3), (53, o_callv 1 4 (P mV_appendPart)), (56, o_ret0)]
set_option maxRecDepth 20000 in
theorem sT_join {E : cEnv} (hE : cOk E) : qm_cok (cK E (rmL 3) prog_5_method_5_code 3 "FunctionRows$Texts" (wsT yT_join prog_5_method_5_code 3 none) none) (kT_join (cSd E)) := ⟨os_al_n (j := 2) (by decide +kernel) rfl, os_get (idx := 9) (f := 0) (ci := 0) (C := "FunctionRows$Value") (T := FV) (N := 5) (by decide +kernel) rfl (fun w h => tb_in (fiV w h)) (by decide) (tb_in lkT_9) glV0, os_iconst (n := 3) (by decide +kernel) (by decide +kernel), os_iceq (off := 8) (by decide +kernel) (by decide), os_al_n (j := 0) (by decide +kernel) rfl, os_callv hE (pc := 9) (idx := 15) (ci := 0) (by decide +kernel) rfl crc1 (cwT_v cV_setError inV mlT_15 imV_setError seV_setError (by decide +kernel) (by decide)), os_ret0 hE (by decide +kernel) rfl, os_al_n (j := 0) (by decide +kernel) rfl, os_al_n (j := 1) (by decide +kernel) rfl, os_get (idx := 63) (f := 2) (ci := 0) (C := "FunctionRows$Value") (T := FV) (N := 5) (by decide +kernel) rfl (fun w h => tb_in (fiV w h)) (by decide) (tb_in lkT_63) glV2, os_al_n (j := 2) (by decide +kernel) rfl, os_get (idx := 63) (f := 2) (ci := 0) (C := "FunctionRows$Value") (T := FV) (N := 5) (by decide +kernel) rfl (fun w h => tb_in (fiV w h)) (by decide) (tb_in lkT_63) glV2, os_icne (off := 10) (by decide +kernel) (by decide), os_al_n (j := 1) (by decide +kernel) rfl, os_get (idx := 63) (f := 2) (ci := 0) (C := "FunctionRows$Value") (T := FV) (N := 5) (by decide +kernel) rfl (fun w h => tb_in (fiV w h)) (by decide) (tb_in lkT_63) glV2, os_go (off := 4) (by decide +kernel) (by decide), os_iconst (n := 0) (by decide +kernel) (by decide +kernel), os_callv hE (pc := 33) (idx := 66) (ci := 0) (by decide +kernel) rfl crc1 (cwT_v cV_startText inV mlT_66 imV_startText seV_startText (by decide +kernel) (by decide)), os_al_n (j := 0) (by decide +kernel) rfl, os_al_n (j := 1) (by decide +kernel) rfl, os_iconst (n := 0) (by decide +kernel) (by decide +kernel), os_al_n (j := 1) (by decide +kernel) rfl, os_get (idx := 18) (f := 3) (ci := 0) (C := "FunctionRows$Value") (T := FV) (N := 5) (by decide +kernel) rfl (fun w h => tb_in (fiV w h)) (by decide) (tb_in lkT_18) glV3, os_callv hE (pc := 43) (idx := 70) (ci := 0) (by decide +kernel) rfl crc1 (cwT_v cV_appendPart inV mlT_70 imV_appendPart seV_appendPart (by decide +kernel) (by decide)), os_al_n (j := 0) (by decide +kernel) rfl, os_al_n (j := 2) (by decide +kernel) rfl, os_iconst (n := 0) (by decide +kernel) (by decide +kernel), os_al_n (j := 2) (by decide +kernel) rfl, os_get (idx := 18) (f := 3) (ci := 0) (C := "FunctionRows$Value") (T := FV) (N := 5) (by decide +kernel) rfl (fun w h => tb_in (fiV w h)) (by decide) (tb_in lkT_18) glV3, os_callv hE (pc := 53) (idx := 70) (ci := 0) (by decide +kernel) rfl crc1 (cwT_v cV_appendPart inV mlT_70 imV_appendPart seV_appendPart (by decide +kernel) (by decide)), os_ret0 hE (by decide +kernel) rfl⟩
def kT_split (P : MethodName × List Cond × Room → List qm_v → cG → Option qm_v → cG → Prop) : List (Nat × qm_op cG) := [(0, o_il 3), (1, o_ifge 10), (4, o_al 1), (5, o_ic (0)), (6, o_callv 1 2 (P mV_startText)), (9, o_ret0), (10, o_al 1), (11, o_al 2), (12, o_get 1 rdV2), (15, o_callv 1 2 (P mV_startText)), (18, o_il 0), (19, o_ic (18)), (21, o_icne 34), (24, o_al 1), (25, o_al 2), (26, o_ic (0)), (27, o_il 3), (28, o_callv 1 4 (P mV_appendPart)), (31, o_go 47), (34, o_al 1), (35, o_al 2), (36, o_il 3), (37, o_il 4), (39, o_iadd), (40, o_al 2), (41, o_get 1 rdV3), (44, o_callv 1 4 (P mV_appendPart)), (47, o_ret0)]
set_option maxRecDepth 20000 in
theorem sT_split {E : cEnv} (hE : cOk E) : qm_cok (cK E (rmL 3) prog_5_method_8_code 5 "FunctionRows$Texts" (wsT yT_split prog_5_method_8_code 5 none) none) (kT_split (cSd E)) := ⟨os_il_n (j := 3) (by decide +kernel) rfl, os_ifge (off := 9) (by decide +kernel) (by decide), os_al_n (j := 1) (by decide +kernel) rfl, os_iconst (n := 0) (by decide +kernel) (by decide +kernel), os_callv hE (pc := 6) (idx := 66) (ci := 0) (by decide +kernel) rfl crc1 (cwT_v cV_startText inV mlT_66 imV_startText seV_startText (by decide +kernel) (by decide)), os_ret0 hE (by decide +kernel) rfl, os_al_n (j := 1) (by decide +kernel) rfl, os_al_n (j := 2) (by decide +kernel) rfl, os_get (idx := 63) (f := 2) (ci := 0) (C := "FunctionRows$Value") (T := FV) (N := 5) (by decide +kernel) rfl (fun w h => tb_in (fiV w h)) (by decide) (tb_in lkT_63) glV2, os_callv hE (pc := 15) (idx := 66) (ci := 0) (by decide +kernel) rfl crc1 (cwT_v cV_startText inV mlT_66 imV_startText seV_startText (by decide +kernel) (by decide)), os_il_n (j := 0) (by decide +kernel) rfl, os_bipush (n := 18) (by decide +kernel) (by decide +kernel), os_icne (off := 13) (by decide +kernel) (by decide), os_al_n (j := 1) (by decide +kernel) rfl, os_al_n (j := 2) (by decide +kernel) rfl, os_iconst (n := 0) (by decide +kernel) (by decide +kernel), os_il_n (j := 3) (by decide +kernel) rfl, os_callv hE (pc := 28) (idx := 70) (ci := 0) (by decide +kernel) rfl crc1 (cwT_v cV_appendPart inV mlT_70 imV_appendPart seV_appendPart (by decide +kernel) (by decide)), os_go (off := 16) (by decide +kernel) (by decide), os_al_n (j := 1) (by decide +kernel) rfl, os_al_n (j := 2) (by decide +kernel) rfl, os_il_n (j := 3) (by decide +kernel) rfl, os_il (by decide +kernel), os_iadd (by decide +kernel), os_al_n (j := 2) (by decide +kernel) rfl, os_get (idx := 18) (f := 3) (ci := 0) (C := "FunctionRows$Value") (T := FV) (N := 5) (by decide +kernel) rfl (fun w h => tb_in (fiV w h)) (by decide) (tb_in lkT_18) glV3, os_callv hE (pc := 44) (idx := 70) (ci := 0) (by decide +kernel) rfl crc1 (cwT_v cV_appendPart inV mlT_70 imV_appendPart seV_appendPart (by decide +kernel) (by decide)), os_ret0 hE (by decide +kernel) rfl⟩
def kT_turn (P : MethodName × List Cond × Room → List qm_v → cG → Option qm_v → cG → Prop) : List (Nat × qm_op cG) := [(0, o_al 2), (1, o_call 1 (P mT_isPlain)), (4, o_ifeq 21), (7, o_al 3), (8, o_call 1 (P mT_isPlain)), (11, o_ifeq 21), (14, o_al 2), (15, o_get 1 rdV3), (18, o_ifne 26), (21, o_al 0), (22, o_callv 1 1 (P mV_setError)), (25, o_ret0), (26, o_al 0), (27, o_al 1), (28, o_get 1 rdV2), (31, o_callv 1 2 (P mV_startText)), (34, o_ic (0)), (35, o_is 4), (37, o_ic (0)), (38, o_is 5), (40, o_il 5), (42, o_al 1), (43, o_get 1 rdV3), (46, o_icge 107), (49, o_il 5), (51, o_il 4), (53, o_icge 59), (56, o_go 101), (59, o_al 1), (60, o_il 5), (62, o_al 2), (63, o_callv 1 3 (P mV_hasAt)), (66, o_ifeq 91), (69, o_al 0), (70, o_al 3), (71, o_ic (0)), (72, o_al 3), (73, o_get 1 rdV3), (76, o_callv 1 4 (P mV_appendPart)), (79, o_il 5), (81, o_al 2), (82, o_get 1 rdV3), (85, o_iadd), (86, o_is 4), (88, o_go 101), (91, o_al 0), (92, o_al 1), (93, o_il 5), (95, o_callv 1 2 (P mV_at)), (98, o_callv 1 2 (P mV_append)), (101, o_inc 5 (1)), (104, o_go 40), (107, o_ret0)]
set_option maxRecDepth 20000 in
theorem sT_turn {E : cEnv} (hE : cOk E) : qm_cok (cK E (rmL 3) prog_5_method_9_code 6 "FunctionRows$Texts" (wsT yT_turn prog_5_method_9_code 6 none) none) (kT_turn (cSd E)) := ⟨os_al_n (j := 2) (by decide +kernel) rfl, os_call hE (pc := 1) (idx := 102) (by decide +kernel) (cwT_s cT_isPlain inT mlT_102 stT_isPlain (by decide +kernel) (by decide)), os_ifeq (off := 17) (by decide +kernel) (by decide), os_al_n (j := 3) (by decide +kernel) rfl, os_call hE (pc := 8) (idx := 102) (by decide +kernel) (cwT_s cT_isPlain inT mlT_102 stT_isPlain (by decide +kernel) (by decide)), os_ifeq (off := 10) (by decide +kernel) (by decide), os_al_n (j := 2) (by decide +kernel) rfl, os_get (idx := 18) (f := 3) (ci := 0) (C := "FunctionRows$Value") (T := FV) (N := 5) (by decide +kernel) rfl (fun w h => tb_in (fiV w h)) (by decide) (tb_in lkT_18) glV3, os_ifne (off := 8) (by decide +kernel) (by decide), os_al_n (j := 0) (by decide +kernel) rfl, os_callv hE (pc := 22) (idx := 15) (ci := 0) (by decide +kernel) rfl crc1 (cwT_v cV_setError inV mlT_15 imV_setError seV_setError (by decide +kernel) (by decide)), os_ret0 hE (by decide +kernel) rfl, os_al_n (j := 0) (by decide +kernel) rfl, os_al_n (j := 1) (by decide +kernel) rfl, os_get (idx := 63) (f := 2) (ci := 0) (C := "FunctionRows$Value") (T := FV) (N := 5) (by decide +kernel) rfl (fun w h => tb_in (fiV w h)) (by decide) (tb_in lkT_63) glV2, os_callv hE (pc := 31) (idx := 66) (ci := 0) (by decide +kernel) rfl crc1 (cwT_v cV_startText inV mlT_66 imV_startText seV_startText (by decide +kernel) (by decide)), os_iconst (n := 0) (by decide +kernel) (by decide +kernel), os_is (by decide +kernel) (by decide), os_iconst (n := 0) (by decide +kernel) (by decide +kernel), os_is (by decide +kernel) (by decide), os_il (by decide +kernel), os_al_n (j := 1) (by decide +kernel) rfl, os_get (idx := 18) (f := 3) (ci := 0) (C := "FunctionRows$Value") (T := FV) (N := 5) (by decide +kernel) rfl (fun w h => tb_in (fiV w h)) (by decide) (tb_in lkT_18) glV3, os_icge (off := 61) (by decide +kernel) (by decide), os_il (by decide +kernel), os_il (by decide +kernel), os_icge (off := 6) (by decide +kernel) (by decide), os_go (off := 45) (by decide +kernel) (by decide), os_al_n (j := 1) (by decide +kernel) rfl, os_il (by decide +kernel), os_al_n (j := 2) (by decide +kernel) rfl, os_callv hE (pc := 63) (idx := 94) (ci := 0) (by decide +kernel) rfl crc1 (cwT_v cV_hasAt inV mlT_94 imV_hasAt seV_hasAt (by decide +kernel) (by decide)), os_ifeq (off := 25) (by decide +kernel) (by decide), os_al_n (j := 0) (by decide +kernel) rfl, os_al_n (j := 3) (by decide +kernel) rfl, os_iconst (n := 0) (by decide +kernel) (by decide +kernel), os_al_n (j := 3) (by decide +kernel) rfl, os_get (idx := 18) (f := 3) (ci := 0) (C := "FunctionRows$Value") (T := FV) (N := 5) (by decide +kernel) rfl (fun w h => tb_in (fiV w h)) (by decide) (tb_in lkT_18) glV3, os_callv hE (pc := 76) (idx := 70) (ci := 0) (by decide +kernel) rfl crc1 (cwT_v cV_appendPart inV mlT_70 imV_appendPart seV_appendPart (by decide +kernel) (by decide)), os_il (by decide +kernel), os_al_n (j := 2) (by decide +kernel) rfl, os_get (idx := 18) (f := 3) (ci := 0) (C := "FunctionRows$Value") (T := FV) (N := 5) (by decide +kernel) rfl (fun w h => tb_in (fiV w h)) (by decide) (tb_in lkT_18) glV3, os_iadd (by decide +kernel), os_is (by decide +kernel) (by decide), os_go (off := 13) (by decide +kernel) (by decide), os_al_n (j := 0) (by decide +kernel) rfl, os_al_n (j := 1) (by decide +kernel) rfl, os_il (by decide +kernel), os_callv hE (pc := 95) (idx := 74) (ci := 0) (by decide +kernel) rfl crc1 (cwT_v cV_at inV mlT_74 imV_at seV_at (by decide +kernel) (by decide)), os_callv hE (pc := 98) (idx := 78) (ci := 0) (by decide +kernel) rfl crc1 (cwT_v cV_append inV mlT_78 imV_append seV_append (by decide +kernel) (by decide)), os_inc (n := 1) (by decide +kernel) (by decide +kernel) (by decide), os_go (off := -64) (by decide +kernel) (by decide), os_ret0 hE (by decide +kernel) rfl⟩
def kU_same (P : MethodName × List Cond × Room → List qm_v → cG → Option qm_v → cG → Prop) : List (Nat × qm_op cG) := [(0, o_al 0), (1, o_get 1 rdV0), (4, o_ifeq 14), (7, o_al 1), (8, o_get 1 rdV0), (11, o_ifne 16), (14, o_ic (-1)), (15, o_reti), (16, o_al 0), (17, o_get 1 rdV0), (20, o_al 1), (21, o_get 1 rdV0), (24, o_iceq 49), (27, o_al 0), (28, o_get 1 rdV0), (31, o_ic (4)), (32, o_iceq 43), (35, o_al 1), (36, o_get 1 rdV0), (39, o_ic (4)), (40, o_icne 47), (43, o_ic (0)), (44, o_go 48), (47, o_ic (-1)), (48, o_reti), (49, o_al 0), (50, o_get 1 rdV0), (53, o_ic (3)), (54, o_icne 97), (57, o_al 0), (58, o_get 1 rdV2), (61, o_al 1), (62, o_get 1 rdV2), (65, o_icne 92), (68, o_al 0), (69, o_get 1 rdV3), (72, o_al 1), (73, o_get 1 rdV3), (76, o_icne 92), (79, o_al 0), (80, o_ic (0)), (81, o_al 1), (82, o_callv 1 3 (P mV_hasAt)), (85, o_ifeq 92), (88, o_ic (1)), (89, o_go 93), (92, o_ic (0)), (93, o_call 1 (P mU_truth)), (96, o_reti), (97, o_al 0), (98, o_get 1 rdV1), (101, o_al 1), (102, o_get 1 rdV1), (105, o_lcne 113), (109, o_ic (1)), (110, o_go 114), (113, o_ic (0)), (114, o_call 1 (P mU_truth)), (117, o_reti)]
set_option maxRecDepth 20000 in
theorem sU_same {E : cEnv} (hE : cOk E) : qm_cok (cK E (rmL 3) prog_6_method_8_code 2 "FunctionRows$Truths" (wsT yU_same prog_6_method_8_code 2 (some .int)) (some .int)) (kU_same (cSd E)) := ⟨os_al_n (j := 0) (by decide +kernel) rfl, os_get (idx := 33) (f := 0) (ci := 0) (C := "FunctionRows$Value") (T := FV) (N := 5) (by decide +kernel) rfl (fun w h => tb_in (fiV w h)) (by decide) (tb_in lkU_33) glV0, os_ifeq (off := 10) (by decide +kernel) (by decide), os_al_n (j := 1) (by decide +kernel) rfl, os_get (idx := 33) (f := 0) (ci := 0) (C := "FunctionRows$Value") (T := FV) (N := 5) (by decide +kernel) rfl (fun w h => tb_in (fiV w h)) (by decide) (tb_in lkU_33) glV0, os_ifne (off := 5) (by decide +kernel) (by decide), os_iconst (n := -1) (by decide +kernel) (by decide +kernel), os_reti hE (by decide +kernel) rfl, os_al_n (j := 0) (by decide +kernel) rfl, os_get (idx := 33) (f := 0) (ci := 0) (C := "FunctionRows$Value") (T := FV) (N := 5) (by decide +kernel) rfl (fun w h => tb_in (fiV w h)) (by decide) (tb_in lkU_33) glV0, os_al_n (j := 1) (by decide +kernel) rfl, os_get (idx := 33) (f := 0) (ci := 0) (C := "FunctionRows$Value") (T := FV) (N := 5) (by decide +kernel) rfl (fun w h => tb_in (fiV w h)) (by decide) (tb_in lkU_33) glV0, os_iceq (off := 25) (by decide +kernel) (by decide), os_al_n (j := 0) (by decide +kernel) rfl, os_get (idx := 33) (f := 0) (ci := 0) (C := "FunctionRows$Value") (T := FV) (N := 5) (by decide +kernel) rfl (fun w h => tb_in (fiV w h)) (by decide) (tb_in lkU_33) glV0, os_iconst (n := 4) (by decide +kernel) (by decide +kernel), os_iceq (off := 11) (by decide +kernel) (by decide), os_al_n (j := 1) (by decide +kernel) rfl, os_get (idx := 33) (f := 0) (ci := 0) (C := "FunctionRows$Value") (T := FV) (N := 5) (by decide +kernel) rfl (fun w h => tb_in (fiV w h)) (by decide) (tb_in lkU_33) glV0, os_iconst (n := 4) (by decide +kernel) (by decide +kernel), os_icne (off := 7) (by decide +kernel) (by decide), os_iconst (n := 0) (by decide +kernel) (by decide +kernel), os_go (off := 4) (by decide +kernel) (by decide), os_iconst (n := -1) (by decide +kernel) (by decide +kernel), os_reti hE (by decide +kernel) rfl, os_al_n (j := 0) (by decide +kernel) rfl, os_get (idx := 33) (f := 0) (ci := 0) (C := "FunctionRows$Value") (T := FV) (N := 5) (by decide +kernel) rfl (fun w h => tb_in (fiV w h)) (by decide) (tb_in lkU_33) glV0, os_iconst (n := 3) (by decide +kernel) (by decide +kernel), os_icne (off := 43) (by decide +kernel) (by decide), os_al_n (j := 0) (by decide +kernel) rfl, os_get (idx := 50) (f := 2) (ci := 0) (C := "FunctionRows$Value") (T := FV) (N := 5) (by decide +kernel) rfl (fun w h => tb_in (fiV w h)) (by decide) (tb_in lkU_50) glV2, os_al_n (j := 1) (by decide +kernel) rfl, os_get (idx := 50) (f := 2) (ci := 0) (C := "FunctionRows$Value") (T := FV) (N := 5) (by decide +kernel) rfl (fun w h => tb_in (fiV w h)) (by decide) (tb_in lkU_50) glV2, os_icne (off := 27) (by decide +kernel) (by decide), os_al_n (j := 0) (by decide +kernel) rfl, os_get (idx := 47) (f := 3) (ci := 0) (C := "FunctionRows$Value") (T := FV) (N := 5) (by decide +kernel) rfl (fun w h => tb_in (fiV w h)) (by decide) (tb_in lkU_47) glV3, os_al_n (j := 1) (by decide +kernel) rfl, os_get (idx := 47) (f := 3) (ci := 0) (C := "FunctionRows$Value") (T := FV) (N := 5) (by decide +kernel) rfl (fun w h => tb_in (fiV w h)) (by decide) (tb_in lkU_47) glV3, os_icne (off := 16) (by decide +kernel) (by decide), os_al_n (j := 0) (by decide +kernel) rfl, os_iconst (n := 0) (by decide +kernel) (by decide +kernel), os_al_n (j := 1) (by decide +kernel) rfl, os_callv hE (pc := 82) (idx := 53) (ci := 0) (by decide +kernel) rfl crc1 (cwT_v cV_hasAt inV mlU_53 imV_hasAt seV_hasAt (by decide +kernel) (by decide)), os_ifeq (off := 7) (by decide +kernel) (by decide), os_iconst (n := 1) (by decide +kernel) (by decide +kernel), os_go (off := 4) (by decide +kernel) (by decide), os_iconst (n := 0) (by decide +kernel) (by decide +kernel), os_call hE (pc := 93) (idx := 43) (by decide +kernel) (cwT_s cU_truth inU mlU_43 stU_truth (by decide +kernel) (by decide)), os_reti hE (by decide +kernel) rfl, os_al_n (j := 0) (by decide +kernel) rfl, os_get (idx := 39) (f := 1) (ci := 0) (C := "FunctionRows$Value") (T := FV) (N := 5) (by decide +kernel) rfl (fun w h => tb_in (fiV w h)) (by decide) (tb_in lkU_39) glV1, os_al_n (j := 1) (by decide +kernel) rfl, os_get (idx := 39) (f := 1) (ci := 0) (C := "FunctionRows$Value") (T := FV) (N := 5) (by decide +kernel) rfl (fun w h => tb_in (fiV w h)) (by decide) (tb_in lkU_39) glV1, os_lcne (off := 7) (by decide +kernel) (by decide +kernel) (by decide), os_iconst (n := 1) (by decide +kernel) (by decide +kernel), os_go (off := 4) (by decide +kernel) (by decide), os_iconst (n := 0) (by decide +kernel) (by decide +kernel), os_call hE (pc := 114) (idx := 43) (by decide +kernel) (cwT_s cU_truth inU mlU_43 stU_truth (by decide +kernel) (by decide)), os_reti hE (by decide +kernel) rfl⟩
def kU_less (P : MethodName × List Cond × Room → List qm_v → cG → Option qm_v → cG → Prop) : List (Nat × qm_op cG) := [(0, o_al 0), (1, o_get 1 rdV0), (4, o_al 1), (5, o_get 1 rdV0), (8, o_iceq 13), (11, o_ic (-1)), (12, o_reti), (13, o_al 0), (14, o_get 1 rdV0), (17, o_ic (2)), (18, o_iceq 29), (21, o_al 0), (22, o_get 1 rdV0), (25, o_ic (1)), (26, o_icne 50), (29, o_al 0), (30, o_get 1 rdV1), (33, o_al 1), (34, o_get 1 rdV1), (37, o_lcge 45), (41, o_ic (1)), (42, o_go 46), (45, o_ic (0)), (46, o_call 1 (P mU_truth)), (49, o_reti), (50, o_al 0), (51, o_get 1 rdV0), (54, o_ic (3)), (55, o_icne 80), (58, o_al 0), (59, o_get 1 rdV2), (62, o_al 1), (63, o_get 1 rdV2), (66, o_icne 80), (69, o_al 0), (70, o_al 1), (71, o_call 2 (P mU_isBefore)), (74, o_call 1 (P mU_truth)), (77, o_go 81), (80, o_ic (-1)), (81, o_reti)]
set_option maxRecDepth 20000 in
theorem sU_less {E : cEnv} (hE : cOk E) : qm_cok (cK E (rmL 3) prog_6_method_9_code 2 "FunctionRows$Truths" (wsT yU_less prog_6_method_9_code 2 (some .int)) (some .int)) (kU_less (cSd E)) := ⟨os_al_n (j := 0) (by decide +kernel) rfl, os_get (idx := 33) (f := 0) (ci := 0) (C := "FunctionRows$Value") (T := FV) (N := 5) (by decide +kernel) rfl (fun w h => tb_in (fiV w h)) (by decide) (tb_in lkU_33) glV0, os_al_n (j := 1) (by decide +kernel) rfl, os_get (idx := 33) (f := 0) (ci := 0) (C := "FunctionRows$Value") (T := FV) (N := 5) (by decide +kernel) rfl (fun w h => tb_in (fiV w h)) (by decide) (tb_in lkU_33) glV0, os_iceq (off := 5) (by decide +kernel) (by decide), os_iconst (n := -1) (by decide +kernel) (by decide +kernel), os_reti hE (by decide +kernel) rfl, os_al_n (j := 0) (by decide +kernel) rfl, os_get (idx := 33) (f := 0) (ci := 0) (C := "FunctionRows$Value") (T := FV) (N := 5) (by decide +kernel) rfl (fun w h => tb_in (fiV w h)) (by decide) (tb_in lkU_33) glV0, os_iconst (n := 2) (by decide +kernel) (by decide +kernel), os_iceq (off := 11) (by decide +kernel) (by decide), os_al_n (j := 0) (by decide +kernel) rfl, os_get (idx := 33) (f := 0) (ci := 0) (C := "FunctionRows$Value") (T := FV) (N := 5) (by decide +kernel) rfl (fun w h => tb_in (fiV w h)) (by decide) (tb_in lkU_33) glV0, os_iconst (n := 1) (by decide +kernel) (by decide +kernel), os_icne (off := 24) (by decide +kernel) (by decide), os_al_n (j := 0) (by decide +kernel) rfl, os_get (idx := 39) (f := 1) (ci := 0) (C := "FunctionRows$Value") (T := FV) (N := 5) (by decide +kernel) rfl (fun w h => tb_in (fiV w h)) (by decide) (tb_in lkU_39) glV1, os_al_n (j := 1) (by decide +kernel) rfl, os_get (idx := 39) (f := 1) (ci := 0) (C := "FunctionRows$Value") (T := FV) (N := 5) (by decide +kernel) rfl (fun w h => tb_in (fiV w h)) (by decide) (tb_in lkU_39) glV1, os_lcge (off := 7) (by decide +kernel) (by decide +kernel) (by decide), os_iconst (n := 1) (by decide +kernel) (by decide +kernel), os_go (off := 4) (by decide +kernel) (by decide), os_iconst (n := 0) (by decide +kernel) (by decide +kernel), os_call hE (pc := 46) (idx := 43) (by decide +kernel) (cwT_s cU_truth inU mlU_43 stU_truth (by decide +kernel) (by decide)), os_reti hE (by decide +kernel) rfl, os_al_n (j := 0) (by decide +kernel) rfl, os_get (idx := 33) (f := 0) (ci := 0) (C := "FunctionRows$Value") (T := FV) (N := 5) (by decide +kernel) rfl (fun w h => tb_in (fiV w h)) (by decide) (tb_in lkU_33) glV0, os_iconst (n := 3) (by decide +kernel) (by decide +kernel), os_icne (off := 25) (by decide +kernel) (by decide), os_al_n (j := 0) (by decide +kernel) rfl, os_get (idx := 50) (f := 2) (ci := 0) (C := "FunctionRows$Value") (T := FV) (N := 5) (by decide +kernel) rfl (fun w h => tb_in (fiV w h)) (by decide) (tb_in lkU_50) glV2, os_al_n (j := 1) (by decide +kernel) rfl, os_get (idx := 50) (f := 2) (ci := 0) (C := "FunctionRows$Value") (T := FV) (N := 5) (by decide +kernel) rfl (fun w h => tb_in (fiV w h)) (by decide) (tb_in lkU_50) glV2, os_icne (off := 14) (by decide +kernel) (by decide), os_al_n (j := 0) (by decide +kernel) rfl, os_al_n (j := 1) (by decide +kernel) rfl, os_call hE (pc := 71) (idx := 57) (by decide +kernel) (cwT_s cU_isBefore inU mlU_57 stU_isBefore (by decide +kernel) (by decide)), os_call hE (pc := 74) (idx := 43) (by decide +kernel) (cwT_s cU_truth inU mlU_43 stU_truth (by decide +kernel) (by decide)), os_go (off := 4) (by decide +kernel) (by decide), os_iconst (n := -1) (by decide +kernel) (by decide +kernel), os_reti hE (by decide +kernel) rfl⟩
def kV_copy (P : MethodName × List Cond × Room → List qm_v → cG → Option qm_v → cG → Prop) : List (Nat × qm_op cG) := [(0, o_al 0), (1, o_al 1), (2, o_get 1 rdV0), (5, o_put 1 wrV0), (8, o_al 0), (9, o_al 1), (10, o_get 1 rdV1), (13, o_put 1 wrV1), (16, o_al 0), (17, o_al 1), (18, o_get 1 rdV2), (21, o_put 1 wrV2), (24, o_al 0), (25, o_ic (0)), (26, o_put 1 wrV3), (29, o_al 0), (30, o_get 1 rdV0), (33, o_ic (3)), (34, o_icne 47), (37, o_al 0), (38, o_al 1), (39, o_ic (0)), (40, o_al 1), (41, o_get 1 rdV3), (44, o_callv 1 4 (P mV_appendPart)), (47, o_ret0)]
set_option maxRecDepth 20000 in
theorem sV_copy {E : cEnv} (hE : cOk E) : qm_cok (cK E (rmL 3) prog_7_method_11_code 2 "FunctionRows$Value" (wsT yV_copy prog_7_method_11_code 2 none) none) (kV_copy (cSd E)) := ⟨os_al_n (j := 0) (by decide +kernel) rfl, os_al_n (j := 1) (by decide +kernel) rfl, os_get (idx := 15) (f := 0) (ci := 0) (C := "FunctionRows$Value") (T := FV) (N := 5) (by decide +kernel) rfl (fun w h => tb_in (fiV w h)) (by decide) (tb_in lkV_15) glV0, os_put hE (idx := 15) (f := 0) (ci := 0) (C := "FunctionRows$Value") (T := FV) (N := 5) (ty0 := ftV) (by decide +kernel) rfl (fun w h => tb_in (fiV w h)) ftV_ok fnV (by decide) (tb_in lkV_15) rfl (by decide +kernel) plV0, os_al_n (j := 0) (by decide +kernel) rfl, os_al_n (j := 1) (by decide +kernel) rfl, os_get (idx := 19) (f := 1) (ci := 0) (C := "FunctionRows$Value") (T := FV) (N := 5) (by decide +kernel) rfl (fun w h => tb_in (fiV w h)) (by decide) (tb_in lkV_19) glV1, os_put hE (idx := 19) (f := 1) (ci := 0) (C := "FunctionRows$Value") (T := FV) (N := 5) (ty0 := ftV) (by decide +kernel) rfl (fun w h => tb_in (fiV w h)) ftV_ok fnV (by decide) (tb_in lkV_19) rfl (by decide +kernel) plV1, os_al_n (j := 0) (by decide +kernel) rfl, os_al_n (j := 1) (by decide +kernel) rfl, os_get (idx := 27) (f := 2) (ci := 0) (C := "FunctionRows$Value") (T := FV) (N := 5) (by decide +kernel) rfl (fun w h => tb_in (fiV w h)) (by decide) (tb_in lkV_27) glV2, os_put hE (idx := 27) (f := 2) (ci := 0) (C := "FunctionRows$Value") (T := FV) (N := 5) (ty0 := ftV) (by decide +kernel) rfl (fun w h => tb_in (fiV w h)) ftV_ok fnV (by decide) (tb_in lkV_27) rfl (by decide +kernel) plV2, os_al_n (j := 0) (by decide +kernel) rfl, os_iconst (n := 0) (by decide +kernel) (by decide +kernel), os_put hE (idx := 30) (f := 3) (ci := 0) (C := "FunctionRows$Value") (T := FV) (N := 5) (ty0 := ftV) (by decide +kernel) rfl (fun w h => tb_in (fiV w h)) ftV_ok fnV (by decide) (tb_in lkV_30) rfl (by decide +kernel) plV3, os_al_n (j := 0) (by decide +kernel) rfl, os_get (idx := 15) (f := 0) (ci := 0) (C := "FunctionRows$Value") (T := FV) (N := 5) (by decide +kernel) rfl (fun w h => tb_in (fiV w h)) (by decide) (tb_in lkV_15) glV0, os_iconst (n := 3) (by decide +kernel) (by decide +kernel), os_icne (off := 13) (by decide +kernel) (by decide), os_al_n (j := 0) (by decide +kernel) rfl, os_al_n (j := 1) (by decide +kernel) rfl, os_iconst (n := 0) (by decide +kernel) (by decide +kernel), os_al_n (j := 1) (by decide +kernel) rfl, os_get (idx := 30) (f := 3) (ci := 0) (C := "FunctionRows$Value") (T := FV) (N := 5) (by decide +kernel) rfl (fun w h => tb_in (fiV w h)) (by decide) (tb_in lkV_30) glV3, os_callv hE (pc := 44) (idx := 52) (ci := 0) (by decide +kernel) rfl crc1 (cwT_v cV_appendPart inV mlV_52 imV_appendPart seV_appendPart (by decide +kernel) (by decide)), os_ret0 hE (by decide +kernel) rfl⟩
def kV_find (P : MethodName × List Cond × Room → List qm_v → cG → Option qm_v → cG → Prop) : List (Nat × qm_op cG) := [(0, o_ic (0)), (1, o_is 2), (2, o_il 2), (3, o_al 0), (4, o_get 1 rdV3), (7, o_al 1), (8, o_get 1 rdV3), (11, o_isub), (12, o_icgt 32), (15, o_al 0), (16, o_il 2), (17, o_al 1), (18, o_callv 1 3 (P mV_hasAt)), (21, o_ifeq 26), (24, o_il 2), (25, o_reti), (26, o_inc 2 (1)), (29, o_go 2), (32, o_ic (-1)), (33, o_reti)]
set_option maxRecDepth 20000 in
theorem sV_find {E : cEnv} (hE : cOk E) : qm_cok (cK E (rmL 3) prog_7_method_13_code 3 "FunctionRows$Value" (wsT yV_find prog_7_method_13_code 3 (some .int)) (some .int)) (kV_find (cSd E)) := ⟨os_iconst (n := 0) (by decide +kernel) (by decide +kernel), os_is_n (j := 2) (by decide +kernel) rfl (by decide), os_il_n (j := 2) (by decide +kernel) rfl, os_al_n (j := 0) (by decide +kernel) rfl, os_get (idx := 30) (f := 3) (ci := 0) (C := "FunctionRows$Value") (T := FV) (N := 5) (by decide +kernel) rfl (fun w h => tb_in (fiV w h)) (by decide) (tb_in lkV_30) glV3, os_al_n (j := 1) (by decide +kernel) rfl, os_get (idx := 30) (f := 3) (ci := 0) (C := "FunctionRows$Value") (T := FV) (N := 5) (by decide +kernel) rfl (fun w h => tb_in (fiV w h)) (by decide) (tb_in lkV_30) glV3, os_isub (by decide +kernel), os_icgt (off := 20) (by decide +kernel) (by decide), os_al_n (j := 0) (by decide +kernel) rfl, os_il_n (j := 2) (by decide +kernel) rfl, os_al_n (j := 1) (by decide +kernel) rfl, os_callv hE (pc := 18) (idx := 56) (ci := 0) (by decide +kernel) rfl crc1 (cwT_v cV_hasAt inV mlV_56 imV_hasAt seV_hasAt (by decide +kernel) (by decide)), os_ifeq (off := 5) (by decide +kernel) (by decide), os_il_n (j := 2) (by decide +kernel) rfl, os_reti hE (by decide +kernel) rfl, os_inc (n := 1) (by decide +kernel) (by decide +kernel) (by decide), os_go (off := -27) (by decide +kernel) (by decide), os_iconst (n := -1) (by decide +kernel) (by decide +kernel), os_reti hE (by decide +kernel) rfl⟩
def kH_multiply (P : MethodName × List Cond × Room → List qm_v → cG → Option qm_v → cG → Prop) : List (Nat × qm_op cG) := [(0, o_ll 1), (1, o_labs), (4, o_ls 5), (6, o_ll 5), (8, o_lc 0), (9, o_lceq 34), (13, o_ll 3), (14, o_labs), (17, o_lc (1000000000000000)), (20, o_ll 5), (22, o_ldiv), (23, o_lcle 34), (27, o_al 0), (28, o_callv 1 1 (P mV_setError)), (31, o_go 41), (34, o_al 0), (35, o_ll 1), (36, o_ll 3), (37, o_lmul), (38, o_callv 1 2 (P mV_setWhole)), (41, o_ret0)]
set_option maxRecDepth 20000 in
theorem sH_multiply {E : cEnv} (hE : cOk E) : qm_cok (cK E (rmL 3) prog_8_method_3_code 7 "FunctionRows$Wholes" (wsT yH_multiply prog_8_method_3_code 7 none) none) (kH_multiply (cSd E)) := ⟨os_ll_n (j := 1) (by decide +kernel) rfl, os_labs (idx := 36) (by decide +kernel) (tb_in mlH_36) (tb_in ms_labs) (tb_in mi_math) (tb_in mc_labs) (by decide) (by decide), os_ls (by decide +kernel) (by decide), os_ll (by decide +kernel), os_lconst (n := 0) (by decide +kernel) (by decide +kernel), os_lceq (off := 24) (by decide +kernel) (by decide +kernel) (by decide), os_ll_n (j := 3) (by decide +kernel) rfl, os_labs (idx := 36) (by decide +kernel) (tb_in mlH_36) (tb_in ms_labs) (tb_in mi_math) (tb_in mc_labs) (by decide) (by decide), os_ldc2 (idx := 42) (by decide +kernel) (tb_in klH_42), os_ll (by decide +kernel), os_ldiv (by decide +kernel), os_lcle (off := 10) (by decide +kernel) (by decide +kernel) (by decide), os_al_n (j := 0) (by decide +kernel) rfl, os_callv hE (pc := 28) (idx := 15) (ci := 0) (by decide +kernel) rfl crc1 (cwT_v cV_setError inV mlH_15 imV_setError seV_setError (by decide +kernel) (by decide)), os_go (off := 10) (by decide +kernel) (by decide), os_al_n (j := 0) (by decide +kernel) rfl, os_ll_n (j := 1) (by decide +kernel) rfl, os_ll_n (j := 3) (by decide +kernel) rfl, os_lmul (by decide +kernel), os_callv hE (pc := 38) (idx := 22) (ci := 0) (by decide +kernel) rfl crc1 (cwT_v cV_setWhole inV mlH_22 imV_setWhole seV_setWhole (by decide +kernel) (by decide)), os_ret0 hE (by decide +kernel) rfl⟩
def kH_divide (P : MethodName × List Cond × Room → List qm_v → cG → Option qm_v → cG → Prop) : List (Nat × qm_op cG) := [(0, o_ll 4), (2, o_lc 0), (3, o_lcne 14), (7, o_al 1), (8, o_callv 1 1 (P mV_setError)), (11, o_go 35), (14, o_al 1), (15, o_il 0), (16, o_ic (8)), (18, o_icne 28), (21, o_ll 2), (22, o_ll 4), (24, o_ldiv), (25, o_go 32), (28, o_ll 2), (29, o_ll 4), (31, o_lrem), (32, o_callv 1 2 (P mV_setWhole)), (35, o_ret0)]
set_option maxRecDepth 20000 in
theorem sH_divide {E : cEnv} (hE : cOk E) : qm_cok (cK E (rmL 3) prog_8_method_4_code 6 "FunctionRows$Wholes" (wsT yH_divide prog_8_method_4_code 6 none) none) (kH_divide (cSd E)) := ⟨os_ll (by decide +kernel), os_lconst (n := 0) (by decide +kernel) (by decide +kernel), os_lcne (off := 10) (by decide +kernel) (by decide +kernel) (by decide), os_al_n (j := 1) (by decide +kernel) rfl, os_callv hE (pc := 8) (idx := 15) (ci := 0) (by decide +kernel) rfl crc1 (cwT_v cV_setError inV mlH_15 imV_setError seV_setError (by decide +kernel) (by decide)), os_go (off := 24) (by decide +kernel) (by decide), os_al_n (j := 1) (by decide +kernel) rfl, os_il_n (j := 0) (by decide +kernel) rfl, os_bipush (n := 8) (by decide +kernel) (by decide +kernel), os_icne (off := 10) (by decide +kernel) (by decide), os_ll_n (j := 2) (by decide +kernel) rfl, os_ll (by decide +kernel), os_ldiv (by decide +kernel), os_go (off := 7) (by decide +kernel) (by decide), os_ll_n (j := 2) (by decide +kernel) rfl, os_ll (by decide +kernel), os_lrem (by decide +kernel), os_callv hE (pc := 32) (idx := 22) (ci := 0) (by decide +kernel) rfl crc1 (cwT_v cV_setWhole inV mlH_22 imV_setWhole seV_setWhole (by decide +kernel) (by decide)), os_ret0 hE (by decide +kernel) rfl⟩
def kR_give (P : MethodName × List Cond × Room → List qm_v → cG → Option qm_v → cG → Prop) : List (Nat × qm_op cG) := [(0, o_il 1), (1, o_call 1 (P mR_isVariable)), (4, o_ifne 9), (7, o_ic (-1)), (8, o_reti), (9, o_al 0), (10, o_get 0 rdR3), (13, o_get 1 rdV0), (16, o_ifne 22), (19, o_ic (-2)), (21, o_reti), (22, o_al 0), (23, o_get 0 rdR2), (26, o_il 1), (27, o_aald 5 cn5 cr5), (28, o_al 0), (29, o_get 0 rdR3), (32, o_callv 1 2 (P mV_copy)), (35, o_ic (1)), (36, o_reti)]
set_option maxRecDepth 20000 in
theorem sR_give {E : cEnv} (hE : cOk E) : qm_cok (cK E (rmL 4) prog_1_method_12_code 2 "FunctionRows" (wsT yR_give prog_1_method_12_code 2 (some .int)) (some .int)) (kR_give (cSd E)) := ⟨os_il_n (j := 1) (by decide +kernel) rfl, os_call hE (pc := 1) (idx := 137) (by decide +kernel) (cwT_s cR_isVariable inR mlR_137 stR_isVariable (by decide +kernel) (by decide)), os_ifne (off := 5) (by decide +kernel) (by decide), os_iconst (n := -1) (by decide +kernel) (by decide +kernel), os_reti hE (by decide +kernel) rfl, os_al_n (j := 0) (by decide +kernel) rfl, os_get (idx := 22) (f := 3) (ci := 3) (C := "FunctionRows") (T := FR) (N := 7) (by decide +kernel) rfl (fun w h => tb_in (fiR w h)) (by decide) (tb_in lkR_22) glR3, os_get (idx := 119) (f := 0) (ci := 0) (C := "FunctionRows$Value") (T := FV) (N := 5) (by decide +kernel) rfl (fun w h => tb_in (fiV w h)) (by decide) (tb_in lkR_119) glV0, os_ifne (off := 6) (by decide +kernel) (by decide), os_bipush (n := -2) (by decide +kernel) (by decide +kernel), os_reti hE (by decide +kernel) rfl, os_al_n (j := 0) (by decide +kernel) rfl, os_get (idx := 17) (f := 2) (ci := 3) (C := "FunctionRows") (T := FR) (N := 7) (by decide +kernel) rfl (fun w h => tb_in (fiR w h)) (by decide) (tb_in lkR_17) glR2, os_il_n (j := 1) (by decide +kernel) rfl, os_aald (t0 := 3) (by decide +kernel) rfl cce5, os_al_n (j := 0) (by decide +kernel) rfl, os_get (idx := 22) (f := 3) (ci := 3) (C := "FunctionRows") (T := FR) (N := 7) (by decide +kernel) rfl (fun w h => tb_in (fiR w h)) (by decide) (tb_in lkR_22) glR3, os_callv hE (pc := 32) (idx := 115) (ci := 0) (by decide +kernel) rfl crc1 (cwT_v cV_copy inV mlR_115 imV_copy seV_copy (by decide +kernel) (by decide)), os_iconst (n := 1) (by decide +kernel) (by decide +kernel), os_reti hE (by decide +kernel) rfl⟩
def kC_choose (P : MethodName × List Cond × Room → List qm_v → cG → Option qm_v → cG → Prop) : List (Nat × qm_op cG) := [(0, o_il 1), (1, o_ic (-1)), (2, o_icne 12), (5, o_al 0), (6, o_callv 1 1 (P mV_setError)), (9, o_go 26), (12, o_al 0), (13, o_il 1), (14, o_ic (1)), (15, o_icne 22), (18, o_al 2), (19, o_go 23), (22, o_al 3), (23, o_callv 1 2 (P mV_copy)), (26, o_ret0)]
set_option maxRecDepth 20000 in
theorem sC_choose {E : cEnv} (hE : cOk E) : qm_cok (cK E (rmL 4) prog_2_method_3_code 4 "FunctionRows$Casts" (wsT yC_choose prog_2_method_3_code 4 none) none) (kC_choose (cSd E)) := ⟨os_il_n (j := 1) (by decide +kernel) rfl, os_iconst (n := -1) (by decide +kernel) (by decide +kernel), os_icne (off := 10) (by decide +kernel) (by decide), os_al_n (j := 0) (by decide +kernel) rfl, os_callv hE (pc := 6) (idx := 31) (ci := 0) (by decide +kernel) rfl crc1 (cwT_v cV_setError inV mlC_31 imV_setError seV_setError (by decide +kernel) (by decide)), os_go (off := 17) (by decide +kernel) (by decide), os_al_n (j := 0) (by decide +kernel) rfl, os_il_n (j := 1) (by decide +kernel) rfl, os_iconst (n := 1) (by decide +kernel) (by decide +kernel), os_icne (off := 7) (by decide +kernel) (by decide), os_al_n (j := 2) (by decide +kernel) rfl, os_go (off := 4) (by decide +kernel) (by decide), os_al_n (j := 3) (by decide +kernel) rfl, os_callv hE (pc := 23) (idx := 15) (ci := 0) (by decide +kernel) rfl crc1 (cwT_v cV_copy inV mlC_15 imV_copy seV_copy (by decide +kernel) (by decide)), os_ret0 hE (by decide +kernel) rfl⟩
def kC_toNumber (P : MethodName × List Cond × Room → List qm_v → cG → Option qm_v → cG → Prop) : List (Nat × qm_op cG) := [(0, o_al 1), (1, o_get 1 rdV0), (4, o_ic (2)), (5, o_iceq 16), (8, o_al 1), (9, o_get 1 rdV0), (12, o_ic (1)), (13, o_icne 27), (16, o_al 0), (17, o_al 1), (18, o_get 1 rdV1), (21, o_callv 1 2 (P mV_setWhole)), (24, o_go 46), (27, o_al 1), (28, o_call 1 (P mT_isPlain)), (31, o_ifeq 42), (34, o_al 0), (35, o_al 1), (36, o_call 2 (P mC_readDigits)), (39, o_go 46), (42, o_al 0), (43, o_callv 1 1 (P mV_setError)), (46, o_ret0)]
set_option maxRecDepth 20000 in
theorem sC_toNumber {E : cEnv} (hE : cOk E) : qm_cok (cK E (rmL 4) prog_2_method_4_code 2 "FunctionRows$Casts" (wsT yC_toNumber prog_2_method_4_code 2 none) none) (kC_toNumber (cSd E)) := ⟨os_al_n (j := 1) (by decide +kernel) rfl, os_get (idx := 9) (f := 0) (ci := 0) (C := "FunctionRows$Value") (T := FV) (N := 5) (by decide +kernel) rfl (fun w h => tb_in (fiV w h)) (by decide) (tb_in lkC_9) glV0, os_iconst (n := 2) (by decide +kernel) (by decide +kernel), os_iceq (off := 11) (by decide +kernel) (by decide), os_al_n (j := 1) (by decide +kernel) rfl, os_get (idx := 9) (f := 0) (ci := 0) (C := "FunctionRows$Value") (T := FV) (N := 5) (by decide +kernel) rfl (fun w h => tb_in (fiV w h)) (by decide) (tb_in lkC_9) glV0, os_iconst (n := 1) (by decide +kernel) (by decide +kernel), os_icne (off := 14) (by decide +kernel) (by decide), os_al_n (j := 0) (by decide +kernel) rfl, os_al_n (j := 1) (by decide +kernel) rfl, os_get (idx := 45) (f := 1) (ci := 0) (C := "FunctionRows$Value") (T := FV) (N := 5) (by decide +kernel) rfl (fun w h => tb_in (fiV w h)) (by decide) (tb_in lkC_45) glV1, os_callv hE (pc := 21) (idx := 34) (ci := 0) (by decide +kernel) rfl crc1 (cwT_v cV_setWhole inV mlC_34 imV_setWhole seV_setWhole (by decide +kernel) (by decide)), os_go (off := 22) (by decide +kernel) (by decide), os_al_n (j := 1) (by decide +kernel) rfl, os_call hE (pc := 28) (idx := 49) (by decide +kernel) (cwT_s cT_isPlain inT mlC_49 stT_isPlain (by decide +kernel) (by decide)), os_ifeq (off := 11) (by decide +kernel) (by decide), os_al_n (j := 0) (by decide +kernel) rfl, os_al_n (j := 1) (by decide +kernel) rfl, os_call hE (pc := 36) (idx := 55) (by decide +kernel) (cwT_s cC_readDigits inC mlC_55 stC_readDigits (by decide +kernel) (by decide)), os_go (off := 7) (by decide +kernel) (by decide), os_al_n (j := 0) (by decide +kernel) rfl, os_callv hE (pc := 43) (idx := 31) (ci := 0) (by decide +kernel) rfl crc1 (cwT_v cV_setError inV mlC_31 imV_setError seV_setError (by decide +kernel) (by decide)), os_ret0 hE (by decide +kernel) rfl⟩
def kS_read (P : MethodName × List Cond × Room → List qm_v → cG → Option qm_v → cG → Prop) : List (Nat × qm_op cG) := [(0, o_al 2), (1, o_al 0), (2, o_get 7 rdS13), (5, o_callv 1 2 (P mV_at)), (8, o_is 3), (9, o_al 0), (10, o_stk f_dup), (11, o_get 7 rdS13), (14, o_ic (1)), (15, o_iadd), (16, o_put 7 wrS13), (19, o_il 3), (20, o_sw [(36, 169), (40, 128), (41, 133), (42, 218), (43, 218), (46, 180), (63, 218), (91, 194), (92, 206), (93, 218), (94, 163), (124, 139)] 220), (128, o_al 0), (129, o_callv 7 1 (P mS_openGroup)), (132, o_retz), (133, o_al 0), (134, o_al 2), (135, o_callv 7 2 (P mS_closeGroup)), (138, o_retz), (139, o_al 0), (140, o_al 0), (141, o_get 7 rdS12), (144, o_al 0), (145, o_get 7 rdS11), (148, o_ic (-1)), (149, o_ic (0)), (150, o_callv 7 5 (P mS_connect)), (153, o_al 0), (154, o_al 0), (155, o_get 7 rdS10), (158, o_put 7 wrS12), (161, o_ic (1)), (162, o_retz), (163, o_al 0), (164, o_ic (1)), (165, o_callv 7 2 (P mS_anchor)), (168, o_retz), (169, o_al 0), (170, o_ic (1)), (171, o_al 1), (172, o_get 1 rdV3), (175, o_ishl), (176, o_callv 7 2 (P mS_anchor)), (179, o_retz), (180, o_al 0), (181, o_al 1), (182, o_ic (32)), (184, o_ic (126)), (186, o_call 3 (P mS_placesOf)), (189, o_al 2), (190, o_callv 7 3 (P mS_atom)), (193, o_retz), (194, o_al 0), (195, o_al 0), (196, o_al 1), (197, o_al 2), (198, o_callv 7 3 (P mS_readItems)), (201, o_al 2), (202, o_callv 7 3 (P mS_atom)), (205, o_retz), (206, o_al 0), (207, o_al 0), (208, o_al 1), (209, o_al 2), (210, o_callv 7 3 (P mS_readEscaped)), (213, o_al 2), (214, o_callv 7 3 (P mS_atom)), (217, o_retz), (218, o_ic (0)), (219, o_retz), (220, o_al 0), (221, o_al 1), (222, o_il 3), (223, o_il 3), (224, o_call 3 (P mS_placesOf)), (227, o_al 2), (228, o_callv 7 3 (P mS_atom)), (231, o_retz)]
set_option maxRecDepth 20000 in
theorem sS_read {E : cEnv} (hE : cOk E) : qm_cok (cK E (rmL 4) prog_4_method_4_code 4 "FunctionRows$Search" (wsT yS_read prog_4_method_4_code 4 (some .boolean)) (some .boolean)) (kS_read (cSd E)) := ⟨os_al_n (j := 2) (by decide +kernel) rfl, os_al_n (j := 0) (by decide +kernel) rfl, os_get (idx := 51) (f := 13) (ci := 2) (C := "FunctionRows$Search") (T := FS) (N := 14) (by decide +kernel) rfl (fun w h => tb_in (fiS w h)) (by decide) (tb_in lkS_51) glS13, os_callv hE (pc := 5) (idx := 94) (ci := 0) (by decide +kernel) rfl crc1 (cwT_v cV_at inV mlS_94 imV_at seV_at (by decide +kernel) (by decide)), os_is_n (j := 3) (by decide +kernel) rfl (by decide), os_al_n (j := 0) (by decide +kernel) rfl, os_dup (by decide +kernel), os_get (idx := 51) (f := 13) (ci := 2) (C := "FunctionRows$Search") (T := FS) (N := 14) (by decide +kernel) rfl (fun w h => tb_in (fiS w h)) (by decide) (tb_in lkS_51) glS13, os_iconst (n := 1) (by decide +kernel) (by decide +kernel), os_iadd (by decide +kernel), os_put hE (idx := 51) (f := 13) (ci := 2) (C := "FunctionRows$Search") (T := FS) (N := 14) (ty0 := ftS) (by decide +kernel) rfl (fun w h => tb_in (fiS w h)) ftS_ok fnS (by decide) (tb_in lkS_51) rfl (by decide +kernel) plS13, os_il_n (j := 3) (by decide +kernel) rfl, os_look (len := 108) (dflt := 200) (ps := #[(36, 149), (40, 108), (41, 113), (42, 198), (43, 198), (46, 160), (63, 198), (91, 174), (92, 186), (93, 198), (94, 143), (124, 119)]) (by decide +kernel) (by decide +kernel) (by decide) (by decide +kernel) (by decide +kernel), os_al_n (j := 0) (by decide +kernel) rfl, os_callv hE (pc := 129) (idx := 98) (ci := 2) (by decide +kernel) rfl crc7 (cwT_v cS_openGroup inS mlS_98 imS_openGroup seS_openGroup (by decide +kernel) (by decide)), os_retz hE (by decide +kernel) rfl, os_al_n (j := 0) (by decide +kernel) rfl, os_al_n (j := 2) (by decide +kernel) rfl, os_callv hE (pc := 135) (idx := 102) (ci := 2) (by decide +kernel) rfl crc7 (cwT_v cS_closeGroup inS mlS_102 imS_closeGroup seS_closeGroup (by decide +kernel) (by decide)), os_retz hE (by decide +kernel) rfl, os_al_n (j := 0) (by decide +kernel) rfl, os_al_n (j := 0) (by decide +kernel) rfl, os_get (idx := 61) (f := 12) (ci := 2) (C := "FunctionRows$Search") (T := FS) (N := 14) (by decide +kernel) rfl (fun w h => tb_in (fiS w h)) (by decide) (tb_in lkS_61) glS12, os_al_n (j := 0) (by decide +kernel) rfl, os_get (idx := 64) (f := 11) (ci := 2) (C := "FunctionRows$Search") (T := FS) (N := 14) (by decide +kernel) rfl (fun w h => tb_in (fiS w h)) (by decide) (tb_in lkS_64) glS11, os_iconst (n := -1) (by decide +kernel) (by decide +kernel), os_iconst (n := 0) (by decide +kernel) (by decide +kernel), os_callv hE (pc := 150) (idx := 67) (ci := 2) (by decide +kernel) rfl crc7 (cwT_v cS_connect inS mlS_67 imS_connect seS_connect (by decide +kernel) (by decide)), os_al_n (j := 0) (by decide +kernel) rfl, os_al_n (j := 0) (by decide +kernel) rfl, os_get (idx := 91) (f := 10) (ci := 2) (C := "FunctionRows$Search") (T := FS) (N := 14) (by decide +kernel) rfl (fun w h => tb_in (fiS w h)) (by decide) (tb_in lkS_91) glS10, os_put hE (idx := 61) (f := 12) (ci := 2) (C := "FunctionRows$Search") (T := FS) (N := 14) (ty0 := ftS) (by decide +kernel) rfl (fun w h => tb_in (fiS w h)) ftS_ok fnS (by decide) (tb_in lkS_61) rfl (by decide +kernel) plS12, os_iconst (n := 1) (by decide +kernel) (by decide +kernel), os_retz hE (by decide +kernel) rfl, os_al_n (j := 0) (by decide +kernel) rfl, os_iconst (n := 1) (by decide +kernel) (by decide +kernel), os_callv hE (pc := 165) (idx := 105) (ci := 2) (by decide +kernel) rfl crc7 (cwT_v cS_anchor inS mlS_105 imS_anchor seS_anchor (by decide +kernel) (by decide)), os_retz hE (by decide +kernel) rfl, os_al_n (j := 0) (by decide +kernel) rfl, os_iconst (n := 1) (by decide +kernel) (by decide +kernel), os_al_n (j := 1) (by decide +kernel) rfl, os_get (idx := 48) (f := 3) (ci := 0) (C := "FunctionRows$Value") (T := FV) (N := 5) (by decide +kernel) rfl (fun w h => tb_in (fiV w h)) (by decide) (tb_in lkS_48) glV3, os_ishl (by decide +kernel), os_callv hE (pc := 176) (idx := 105) (ci := 2) (by decide +kernel) rfl crc7 (cwT_v cS_anchor inS mlS_105 imS_anchor seS_anchor (by decide +kernel) (by decide)), os_retz hE (by decide +kernel) rfl, os_al_n (j := 0) (by decide +kernel) rfl, os_al_n (j := 1) (by decide +kernel) rfl, os_bipush (n := 32) (by decide +kernel) (by decide +kernel), os_bipush (n := 126) (by decide +kernel) (by decide +kernel), os_call hE (pc := 186) (idx := 109) (by decide +kernel) (cwT_s cS_placesOf inS mlS_109 stS_placesOf (by decide +kernel) (by decide)), os_al_n (j := 2) (by decide +kernel) rfl, os_callv hE (pc := 190) (idx := 113) (ci := 2) (by decide +kernel) rfl crc7 (cwT_v cS_atom inS mlS_113 imS_atom seS_atom (by decide +kernel) (by decide)), os_retz hE (by decide +kernel) rfl, os_al_n (j := 0) (by decide +kernel) rfl, os_al_n (j := 0) (by decide +kernel) rfl, os_al_n (j := 1) (by decide +kernel) rfl, os_al_n (j := 2) (by decide +kernel) rfl, os_callv hE (pc := 198) (idx := 117) (ci := 2) (by decide +kernel) rfl crc7 (cwT_v cS_readItems inS mlS_117 imS_readItems seS_readItems (by decide +kernel) (by decide)), os_al_n (j := 2) (by decide +kernel) rfl, os_callv hE (pc := 202) (idx := 113) (ci := 2) (by decide +kernel) rfl crc7 (cwT_v cS_atom inS mlS_113 imS_atom seS_atom (by decide +kernel) (by decide)), os_retz hE (by decide +kernel) rfl, os_al_n (j := 0) (by decide +kernel) rfl, os_al_n (j := 0) (by decide +kernel) rfl, os_al_n (j := 1) (by decide +kernel) rfl, os_al_n (j := 2) (by decide +kernel) rfl, os_callv hE (pc := 210) (idx := 121) (ci := 2) (by decide +kernel) rfl crc7 (cwT_v cS_readEscaped inS mlS_121 imS_readEscaped seS_readEscaped (by decide +kernel) (by decide)), os_al_n (j := 2) (by decide +kernel) rfl, os_callv hE (pc := 214) (idx := 113) (ci := 2) (by decide +kernel) rfl crc7 (cwT_v cS_atom inS mlS_113 imS_atom seS_atom (by decide +kernel) (by decide)), os_retz hE (by decide +kernel) rfl, os_iconst (n := 0) (by decide +kernel) (by decide +kernel), os_retz hE (by decide +kernel) rfl, os_al_n (j := 0) (by decide +kernel) rfl, os_al_n (j := 1) (by decide +kernel) rfl, os_il_n (j := 3) (by decide +kernel) rfl, os_il_n (j := 3) (by decide +kernel) rfl, os_call hE (pc := 224) (idx := 109) (by decide +kernel) (cwT_s cS_placesOf inS mlS_109 stS_placesOf (by decide +kernel) (by decide)), os_al_n (j := 2) (by decide +kernel) rfl, os_callv hE (pc := 228) (idx := 113) (ci := 2) (by decide +kernel) rfl crc7 (cwT_v cS_atom inS mlS_113 imS_atom seS_atom (by decide +kernel) (by decide)), os_retz hE (by decide +kernel) rfl⟩
def kT_seek (P : MethodName × List Cond × Room → List qm_v → cG → Option qm_v → cG → Prop) : List (Nat × qm_op cG) := [(0, o_al 3), (1, o_get 1 rdV0), (4, o_ic (3)), (5, o_icne 26), (8, o_al 3), (9, o_get 1 rdV2), (12, o_ifeq 31), (15, o_al 3), (16, o_get 1 rdV2), (19, o_al 2), (20, o_get 1 rdV2), (23, o_iceq 31), (26, o_al 1), (27, o_callv 1 1 (P mV_setError)), (30, o_ret0), (31, o_al 2), (32, o_al 3), (33, o_callv 1 2 (P mV_find)), (36, o_is 4), (38, o_il 0), (39, o_sw [(15, 64), (16, 84), (17, 104)] 128), (64, o_al 1), (65, o_il 4), (67, o_iflt 74), (70, o_ic (1)), (71, o_go 75), (74, o_ic (0)), (75, o_call 1 (P mU_truth)), (78, o_callv 1 2 (P mV_setTruth)), (81, o_go 140), (84, o_al 1), (85, o_il 4), (87, o_ifne 94), (90, o_ic (1)), (91, o_go 95), (94, o_ic (0)), (95, o_call 1 (P mU_truth)), (98, o_callv 1 2 (P mV_setTruth)), (101, o_go 140), (104, o_al 1), (105, o_al 2), (106, o_al 2), (107, o_get 1 rdV3), (110, o_al 3), (111, o_get 1 rdV3), (114, o_isub), (115, o_al 3), (116, o_callv 1 3 (P mV_hasAt)), (119, o_call 1 (P mU_truth)), (122, o_callv 1 2 (P mV_setTruth)), (125, o_go 140), (128, o_il 0), (129, o_al 1), (130, o_al 2), (131, o_il 4), (133, o_al 3), (134, o_get 1 rdV3), (137, o_call 5 (P mT_split)), (140, o_ret0)]
set_option maxRecDepth 20000 in
theorem sT_seek {E : cEnv} (hE : cOk E) : qm_cok (cK E (rmL 4) prog_5_method_7_code 5 "FunctionRows$Texts" (wsT yT_seek prog_5_method_7_code 5 none) none) (kT_seek (cSd E)) := ⟨os_al_n (j := 3) (by decide +kernel) rfl, os_get (idx := 9) (f := 0) (ci := 0) (C := "FunctionRows$Value") (T := FV) (N := 5) (by decide +kernel) rfl (fun w h => tb_in (fiV w h)) (by decide) (tb_in lkT_9) glV0, os_iconst (n := 3) (by decide +kernel) (by decide +kernel), os_icne (off := 21) (by decide +kernel) (by decide), os_al_n (j := 3) (by decide +kernel) rfl, os_get (idx := 63) (f := 2) (ci := 0) (C := "FunctionRows$Value") (T := FV) (N := 5) (by decide +kernel) rfl (fun w h => tb_in (fiV w h)) (by decide) (tb_in lkT_63) glV2, os_ifeq (off := 19) (by decide +kernel) (by decide), os_al_n (j := 3) (by decide +kernel) rfl, os_get (idx := 63) (f := 2) (ci := 0) (C := "FunctionRows$Value") (T := FV) (N := 5) (by decide +kernel) rfl (fun w h => tb_in (fiV w h)) (by decide) (tb_in lkT_63) glV2, os_al_n (j := 2) (by decide +kernel) rfl, os_get (idx := 63) (f := 2) (ci := 0) (C := "FunctionRows$Value") (T := FV) (N := 5) (by decide +kernel) rfl (fun w h => tb_in (fiV w h)) (by decide) (tb_in lkT_63) glV2, os_iceq (off := 8) (by decide +kernel) (by decide), os_al_n (j := 1) (by decide +kernel) rfl, os_callv hE (pc := 27) (idx := 15) (ci := 0) (by decide +kernel) rfl crc1 (cwT_v cV_setError inV mlT_15 imV_setError seV_setError (by decide +kernel) (by decide)), os_ret0 hE (by decide +kernel) rfl, os_al_n (j := 2) (by decide +kernel) rfl, os_al_n (j := 3) (by decide +kernel) rfl, os_callv hE (pc := 33) (idx := 81) (ci := 0) (by decide +kernel) rfl crc1 (cwT_v cV_find inV mlT_81 imV_find seV_find (by decide +kernel) (by decide)), os_is (by decide +kernel) (by decide), os_il_n (j := 0) (by decide +kernel) rfl, os_table (len := 25) (dflt := 89) (lo := 15) (hi := 17) (offs := #[25, 45, 65]) (by decide +kernel) (by decide) (by decide) (by decide +kernel) (by decide +kernel), os_al_n (j := 1) (by decide +kernel) rfl, os_il (by decide +kernel), os_iflt (off := 7) (by decide +kernel) (by decide), os_iconst (n := 1) (by decide +kernel) (by decide +kernel), os_go (off := 4) (by decide +kernel) (by decide), os_iconst (n := 0) (by decide +kernel) (by decide +kernel), os_call hE (pc := 75) (idx := 85) (by decide +kernel) (cwT_s cU_truth inU mlT_85 stU_truth (by decide +kernel) (by decide)), os_callv hE (pc := 78) (idx := 91) (ci := 0) (by decide +kernel) rfl crc1 (cwT_v cV_setTruth inV mlT_91 imV_setTruth seV_setTruth (by decide +kernel) (by decide)), os_go (off := 59) (by decide +kernel) (by decide), os_al_n (j := 1) (by decide +kernel) rfl, os_il (by decide +kernel), os_ifne (off := 7) (by decide +kernel) (by decide), os_iconst (n := 1) (by decide +kernel) (by decide +kernel), os_go (off := 4) (by decide +kernel) (by decide), os_iconst (n := 0) (by decide +kernel) (by decide +kernel), os_call hE (pc := 95) (idx := 85) (by decide +kernel) (cwT_s cU_truth inU mlT_85 stU_truth (by decide +kernel) (by decide)), os_callv hE (pc := 98) (idx := 91) (ci := 0) (by decide +kernel) rfl crc1 (cwT_v cV_setTruth inV mlT_91 imV_setTruth seV_setTruth (by decide +kernel) (by decide)), os_go (off := 39) (by decide +kernel) (by decide), os_al_n (j := 1) (by decide +kernel) rfl, os_al_n (j := 2) (by decide +kernel) rfl, os_al_n (j := 2) (by decide +kernel) rfl, os_get (idx := 18) (f := 3) (ci := 0) (C := "FunctionRows$Value") (T := FV) (N := 5) (by decide +kernel) rfl (fun w h => tb_in (fiV w h)) (by decide) (tb_in lkT_18) glV3, os_al_n (j := 3) (by decide +kernel) rfl, os_get (idx := 18) (f := 3) (ci := 0) (C := "FunctionRows$Value") (T := FV) (N := 5) (by decide +kernel) rfl (fun w h => tb_in (fiV w h)) (by decide) (tb_in lkT_18) glV3, os_isub (by decide +kernel), os_al_n (j := 3) (by decide +kernel) rfl, os_callv hE (pc := 116) (idx := 94) (ci := 0) (by decide +kernel) rfl crc1 (cwT_v cV_hasAt inV mlT_94 imV_hasAt seV_hasAt (by decide +kernel) (by decide)), os_call hE (pc := 119) (idx := 85) (by decide +kernel) (cwT_s cU_truth inU mlT_85 stU_truth (by decide +kernel) (by decide)), os_callv hE (pc := 122) (idx := 91) (ci := 0) (by decide +kernel) rfl crc1 (cwT_v cV_setTruth inV mlT_91 imV_setTruth seV_setTruth (by decide +kernel) (by decide)), os_go (off := 15) (by decide +kernel) (by decide), os_il_n (j := 0) (by decide +kernel) rfl, os_al_n (j := 1) (by decide +kernel) rfl, os_al_n (j := 2) (by decide +kernel) rfl, os_il (by decide +kernel), os_al_n (j := 3) (by decide +kernel) rfl, os_get (idx := 18) (f := 3) (ci := 0) (C := "FunctionRows$Value") (T := FV) (N := 5) (by decide +kernel) rfl (fun w h => tb_in (fiV w h)) (by decide) (tb_in lkT_18) glV3, os_call hE (pc := 137) (idx := 98) (by decide +kernel) (cwT_s cT_split inT mlT_98 stT_split (by decide +kernel) (by decide)), os_ret0 hE (by decide +kernel) rfl⟩
def kU_reckon (P : MethodName × List Cond × Room → List qm_v → cG → Option qm_v → cG → Prop) : List (Nat × qm_op cG) := [(0, o_il 0), (1, o_sw [(0, 60), (1, 68), (2, 80), (3, 92), (4, 98), (29, 104)] 118), (60, o_al 1), (61, o_call 1 (P mU_of)), (64, o_call 1 (P mU_other)), (67, o_reti), (68, o_al 1), (69, o_call 1 (P mU_of)), (72, o_al 2), (73, o_call 1 (P mU_of)), (76, o_call 2 (P mU_both)), (79, o_reti), (80, o_al 1), (81, o_call 1 (P mU_of)), (84, o_al 2), (85, o_call 1 (P mU_of)), (88, o_call 2 (P mU_either)), (91, o_reti), (92, o_al 1), (93, o_al 2), (94, o_call 2 (P mU_same)), (97, o_reti), (98, o_al 1), (99, o_al 2), (100, o_call 2 (P mU_less)), (103, o_reti), (104, o_al 1), (105, o_al 2), (106, o_call 2 (P mU_same)), (109, o_al 1), (110, o_al 3), (111, o_call 2 (P mU_same)), (114, o_call 2 (P mU_either)), (117, o_reti), (118, o_ic (-1)), (119, o_reti)]
set_option maxRecDepth 20000 in
theorem sU_reckon {E : cEnv} (hE : cOk E) : qm_cok (cK E (rmL 4) prog_6_method_2_code 4 "FunctionRows$Truths" (wsT yU_reckon prog_6_method_2_code 4 (some .int)) (some .int)) (kU_reckon (cSd E)) := ⟨os_il_n (j := 0) (by decide +kernel) rfl, os_look (len := 59) (dflt := 117) (ps := #[(0, 59), (1, 67), (2, 79), (3, 91), (4, 97), (29, 103)]) (by decide +kernel) (by decide +kernel) (by decide) (by decide +kernel) (by decide +kernel), os_al_n (j := 1) (by decide +kernel) rfl, os_call hE (pc := 61) (idx := 9) (by decide +kernel) (cwT_s cU_of inU mlU_9 stU_of (by decide +kernel) (by decide)), os_call hE (pc := 64) (idx := 15) (by decide +kernel) (cwT_s cU_other inU mlU_15 stU_other (by decide +kernel) (by decide)), os_reti hE (by decide +kernel) rfl, os_al_n (j := 1) (by decide +kernel) rfl, os_call hE (pc := 69) (idx := 9) (by decide +kernel) (cwT_s cU_of inU mlU_9 stU_of (by decide +kernel) (by decide)), os_al_n (j := 2) (by decide +kernel) rfl, os_call hE (pc := 73) (idx := 9) (by decide +kernel) (cwT_s cU_of inU mlU_9 stU_of (by decide +kernel) (by decide)), os_call hE (pc := 76) (idx := 19) (by decide +kernel) (cwT_s cU_both inU mlU_19 stU_both (by decide +kernel) (by decide)), os_reti hE (by decide +kernel) rfl, os_al_n (j := 1) (by decide +kernel) rfl, os_call hE (pc := 81) (idx := 9) (by decide +kernel) (cwT_s cU_of inU mlU_9 stU_of (by decide +kernel) (by decide)), os_al_n (j := 2) (by decide +kernel) rfl, os_call hE (pc := 85) (idx := 9) (by decide +kernel) (cwT_s cU_of inU mlU_9 stU_of (by decide +kernel) (by decide)), os_call hE (pc := 88) (idx := 23) (by decide +kernel) (cwT_s cU_either inU mlU_23 stU_either (by decide +kernel) (by decide)), os_reti hE (by decide +kernel) rfl, os_al_n (j := 1) (by decide +kernel) rfl, os_al_n (j := 2) (by decide +kernel) rfl, os_call hE (pc := 94) (idx := 26) (by decide +kernel) (cwT_s cU_same inU mlU_26 stU_same (by decide +kernel) (by decide)), os_reti hE (by decide +kernel) rfl, os_al_n (j := 1) (by decide +kernel) rfl, os_al_n (j := 2) (by decide +kernel) rfl, os_call hE (pc := 100) (idx := 30) (by decide +kernel) (cwT_s cU_less inU mlU_30 stU_less (by decide +kernel) (by decide)), os_reti hE (by decide +kernel) rfl, os_al_n (j := 1) (by decide +kernel) rfl, os_al_n (j := 2) (by decide +kernel) rfl, os_call hE (pc := 106) (idx := 26) (by decide +kernel) (cwT_s cU_same inU mlU_26 stU_same (by decide +kernel) (by decide)), os_al_n (j := 1) (by decide +kernel) rfl, os_al_n (j := 3) (by decide +kernel) rfl, os_call hE (pc := 111) (idx := 26) (by decide +kernel) (cwT_s cU_same inU mlU_26 stU_same (by decide +kernel) (by decide)), os_call hE (pc := 114) (idx := 23) (by decide +kernel) (cwT_s cU_either inU mlU_23 stU_either (by decide +kernel) (by decide)), os_reti hE (by decide +kernel) rfl, os_iconst (n := -1) (by decide +kernel) (by decide +kernel), os_reti hE (by decide +kernel) rfl⟩
def kH_reckon (P : MethodName × List Cond × Room → List qm_v → cG → Option qm_v → cG → Prop) : List (Nat × qm_op cG) := [(0, o_al 2), (1, o_get 1 rdV0), (4, o_ic (2)), (5, o_icne 16), (8, o_al 3), (9, o_get 1 rdV0), (12, o_ic (2)), (13, o_iceq 21), (16, o_al 1), (17, o_callv 1 1 (P mV_setError)), (20, o_ret0), (21, o_il 0), (22, o_sw [(5, 48), (6, 64), (7, 80)] 95), (48, o_al 1), (49, o_al 2), (50, o_get 1 rdV1), (53, o_al 3), (54, o_get 1 rdV1), (57, o_ladd), (58, o_callv 1 2 (P mV_setWhole)), (61, o_go 108), (64, o_al 1), (65, o_al 2), (66, o_get 1 rdV1), (69, o_al 3), (70, o_get 1 rdV1), (73, o_lsub), (74, o_callv 1 2 (P mV_setWhole)), (77, o_go 108), (80, o_al 1), (81, o_al 2), (82, o_get 1 rdV1), (85, o_al 3), (86, o_get 1 rdV1), (89, o_call 3 (P mH_multiply)), (92, o_go 108), (95, o_il 0), (96, o_al 1), (97, o_al 2), (98, o_get 1 rdV1), (101, o_al 3), (102, o_get 1 rdV1), (105, o_call 4 (P mH_divide)), (108, o_ret0)]
set_option maxRecDepth 20000 in
theorem sH_reckon {E : cEnv} (hE : cOk E) : qm_cok (cK E (rmL 4) prog_8_method_2_code 4 "FunctionRows$Wholes" (wsT yH_reckon prog_8_method_2_code 4 none) none) (kH_reckon (cSd E)) := ⟨os_al_n (j := 2) (by decide +kernel) rfl, os_get (idx := 9) (f := 0) (ci := 0) (C := "FunctionRows$Value") (T := FV) (N := 5) (by decide +kernel) rfl (fun w h => tb_in (fiV w h)) (by decide) (tb_in lkH_9) glV0, os_iconst (n := 2) (by decide +kernel) (by decide +kernel), os_icne (off := 11) (by decide +kernel) (by decide), os_al_n (j := 3) (by decide +kernel) rfl, os_get (idx := 9) (f := 0) (ci := 0) (C := "FunctionRows$Value") (T := FV) (N := 5) (by decide +kernel) rfl (fun w h => tb_in (fiV w h)) (by decide) (tb_in lkH_9) glV0, os_iconst (n := 2) (by decide +kernel) (by decide +kernel), os_iceq (off := 8) (by decide +kernel) (by decide), os_al_n (j := 1) (by decide +kernel) rfl, os_callv hE (pc := 17) (idx := 15) (ci := 0) (by decide +kernel) rfl crc1 (cwT_v cV_setError inV mlH_15 imV_setError seV_setError (by decide +kernel) (by decide)), os_ret0 hE (by decide +kernel) rfl, os_il_n (j := 0) (by decide +kernel) rfl, os_table (len := 26) (dflt := 73) (lo := 5) (hi := 7) (offs := #[26, 42, 58]) (by decide +kernel) (by decide) (by decide) (by decide +kernel) (by decide +kernel), os_al_n (j := 1) (by decide +kernel) rfl, os_al_n (j := 2) (by decide +kernel) rfl, os_get (idx := 18) (f := 1) (ci := 0) (C := "FunctionRows$Value") (T := FV) (N := 5) (by decide +kernel) rfl (fun w h => tb_in (fiV w h)) (by decide) (tb_in lkH_18) glV1, os_al_n (j := 3) (by decide +kernel) rfl, os_get (idx := 18) (f := 1) (ci := 0) (C := "FunctionRows$Value") (T := FV) (N := 5) (by decide +kernel) rfl (fun w h => tb_in (fiV w h)) (by decide) (tb_in lkH_18) glV1, os_ladd (by decide +kernel), os_callv hE (pc := 58) (idx := 22) (ci := 0) (by decide +kernel) rfl crc1 (cwT_v cV_setWhole inV mlH_22 imV_setWhole seV_setWhole (by decide +kernel) (by decide)), os_go (off := 47) (by decide +kernel) (by decide), os_al_n (j := 1) (by decide +kernel) rfl, os_al_n (j := 2) (by decide +kernel) rfl, os_get (idx := 18) (f := 1) (ci := 0) (C := "FunctionRows$Value") (T := FV) (N := 5) (by decide +kernel) rfl (fun w h => tb_in (fiV w h)) (by decide) (tb_in lkH_18) glV1, os_al_n (j := 3) (by decide +kernel) rfl, os_get (idx := 18) (f := 1) (ci := 0) (C := "FunctionRows$Value") (T := FV) (N := 5) (by decide +kernel) rfl (fun w h => tb_in (fiV w h)) (by decide) (tb_in lkH_18) glV1, os_lsub (by decide +kernel), os_callv hE (pc := 74) (idx := 22) (ci := 0) (by decide +kernel) rfl crc1 (cwT_v cV_setWhole inV mlH_22 imV_setWhole seV_setWhole (by decide +kernel) (by decide)), os_go (off := 31) (by decide +kernel) (by decide), os_al_n (j := 1) (by decide +kernel) rfl, os_al_n (j := 2) (by decide +kernel) rfl, os_get (idx := 18) (f := 1) (ci := 0) (C := "FunctionRows$Value") (T := FV) (N := 5) (by decide +kernel) rfl (fun w h => tb_in (fiV w h)) (by decide) (tb_in lkH_18) glV1, os_al_n (j := 3) (by decide +kernel) rfl, os_get (idx := 18) (f := 1) (ci := 0) (C := "FunctionRows$Value") (T := FV) (N := 5) (by decide +kernel) rfl (fun w h => tb_in (fiV w h)) (by decide) (tb_in lkH_18) glV1, os_call hE (pc := 89) (idx := 26) (by decide +kernel) (cwT_s cH_multiply inH mlH_26 stH_multiply (by decide +kernel) (by decide)), os_go (off := 16) (by decide +kernel) (by decide), os_il_n (j := 0) (by decide +kernel) rfl, os_al_n (j := 1) (by decide +kernel) rfl, os_al_n (j := 2) (by decide +kernel) rfl, os_get (idx := 18) (f := 1) (ci := 0) (C := "FunctionRows$Value") (T := FV) (N := 5) (by decide +kernel) rfl (fun w h => tb_in (fiV w h)) (by decide) (tb_in lkH_18) glV1, os_al_n (j := 3) (by decide +kernel) rfl, os_get (idx := 18) (f := 1) (ci := 0) (C := "FunctionRows$Value") (T := FV) (N := 5) (by decide +kernel) rfl (fun w h => tb_in (fiV w h)) (by decide) (tb_in lkH_18) glV1, os_call hE (pc := 105) (idx := 32) (by decide +kernel) (cwT_s cH_divide inH mlH_32 stH_divide (by decide +kernel) (by decide)), os_ret0 hE (by decide +kernel) rfl⟩
def kC_reckon (P : MethodName × List Cond × Room → List qm_v → cG → Option qm_v → cG → Prop) : List (Nat × qm_op cG) := [(0, o_il 0), (1, o_ic (23)), (3, o_icne 25), (6, o_al 1), (7, o_al 2), (8, o_get 1 rdV0), (11, o_ifeq 18), (14, o_al 2), (15, o_go 19), (18, o_al 3), (19, o_callv 1 2 (P mV_copy)), (22, o_go 96), (25, o_il 0), (26, o_ic (22)), (28, o_icne 45), (31, o_al 1), (32, o_al 2), (33, o_call 1 (P mU_of)), (36, o_al 3), (37, o_al 4), (39, o_call 4 (P mC_choose)), (42, o_go 96), (45, o_al 2), (46, o_get 1 rdV0), (49, o_ifne 59), (52, o_al 1), (53, o_callv 1 1 (P mV_setError)), (56, o_go 96), (59, o_il 0), (60, o_ic (21)), (62, o_icne 77), (65, o_al 1), (66, o_al 2), (67, o_get 1 rdV0), (70, o_i2l), (71, o_callv 1 2 (P mV_setWhole)), (74, o_go 96), (77, o_il 0), (78, o_ic (25)), (80, o_icne 91), (83, o_al 1), (84, o_al 2), (85, o_call 2 (P mC_toNumber)), (88, o_go 96), (91, o_al 1), (92, o_al 2), (93, o_call 2 (P mC_toWords)), (96, o_ret0)]
set_option maxRecDepth 20000 in
theorem sC_reckon {E : cEnv} (hE : cOk E) : qm_cok (cK E (rmL 5) prog_2_method_2_code 5 "FunctionRows$Casts" (wsT yC_reckon prog_2_method_2_code 5 none) none) (kC_reckon (cSd E)) := ⟨os_il_n (j := 0) (by decide +kernel) rfl, os_bipush (n := 23) (by decide +kernel) (by decide +kernel), os_icne (off := 22) (by decide +kernel) (by decide), os_al_n (j := 1) (by decide +kernel) rfl, os_al_n (j := 2) (by decide +kernel) rfl, os_get (idx := 9) (f := 0) (ci := 0) (C := "FunctionRows$Value") (T := FV) (N := 5) (by decide +kernel) rfl (fun w h => tb_in (fiV w h)) (by decide) (tb_in lkC_9) glV0, os_ifeq (off := 7) (by decide +kernel) (by decide), os_al_n (j := 2) (by decide +kernel) rfl, os_go (off := 4) (by decide +kernel) (by decide), os_al_n (j := 3) (by decide +kernel) rfl, os_callv hE (pc := 19) (idx := 15) (ci := 0) (by decide +kernel) rfl crc1 (cwT_v cV_copy inV mlC_15 imV_copy seV_copy (by decide +kernel) (by decide)), os_go (off := 74) (by decide +kernel) (by decide), os_il_n (j := 0) (by decide +kernel) rfl, os_bipush (n := 22) (by decide +kernel) (by decide +kernel), os_icne (off := 17) (by decide +kernel) (by decide), os_al_n (j := 1) (by decide +kernel) rfl, os_al_n (j := 2) (by decide +kernel) rfl, os_call hE (pc := 33) (idx := 19) (by decide +kernel) (cwT_s cU_of inU mlC_19 stU_of (by decide +kernel) (by decide)), os_al_n (j := 3) (by decide +kernel) rfl, os_al (by decide +kernel), os_call hE (pc := 39) (idx := 25) (by decide +kernel) (cwT_s cC_choose inC mlC_25 stC_choose (by decide +kernel) (by decide)), os_go (off := 54) (by decide +kernel) (by decide), os_al_n (j := 2) (by decide +kernel) rfl, os_get (idx := 9) (f := 0) (ci := 0) (C := "FunctionRows$Value") (T := FV) (N := 5) (by decide +kernel) rfl (fun w h => tb_in (fiV w h)) (by decide) (tb_in lkC_9) glV0, os_ifne (off := 10) (by decide +kernel) (by decide), os_al_n (j := 1) (by decide +kernel) rfl, os_callv hE (pc := 53) (idx := 31) (ci := 0) (by decide +kernel) rfl crc1 (cwT_v cV_setError inV mlC_31 imV_setError seV_setError (by decide +kernel) (by decide)), os_go (off := 40) (by decide +kernel) (by decide), os_il_n (j := 0) (by decide +kernel) rfl, os_bipush (n := 21) (by decide +kernel) (by decide +kernel), os_icne (off := 15) (by decide +kernel) (by decide), os_al_n (j := 1) (by decide +kernel) rfl, os_al_n (j := 2) (by decide +kernel) rfl, os_get (idx := 9) (f := 0) (ci := 0) (C := "FunctionRows$Value") (T := FV) (N := 5) (by decide +kernel) rfl (fun w h => tb_in (fiV w h)) (by decide) (tb_in lkC_9) glV0, os_i2l (by decide +kernel), os_callv hE (pc := 71) (idx := 34) (ci := 0) (by decide +kernel) rfl crc1 (cwT_v cV_setWhole inV mlC_34 imV_setWhole seV_setWhole (by decide +kernel) (by decide)), os_go (off := 22) (by decide +kernel) (by decide), os_il_n (j := 0) (by decide +kernel) rfl, os_bipush (n := 25) (by decide +kernel) (by decide +kernel), os_icne (off := 11) (by decide +kernel) (by decide), os_al_n (j := 1) (by decide +kernel) rfl, os_al_n (j := 2) (by decide +kernel) rfl, os_call hE (pc := 85) (idx := 38) (by decide +kernel) (cwT_s cC_toNumber inC mlC_38 stC_toNumber (by decide +kernel) (by decide)), os_go (off := 8) (by decide +kernel) (by decide), os_al_n (j := 1) (by decide +kernel) rfl, os_al_n (j := 2) (by decide +kernel) rfl, os_call hE (pc := 93) (idx := 42) (by decide +kernel) (cwT_s cC_toWords inC mlC_42 stC_toWords (by decide +kernel) (by decide)), os_ret0 hE (by decide +kernel) rfl⟩
def kS_goes (P : MethodName × List Cond × Room → List qm_v → cG → Option qm_v → cG → Prop) : List (Nat × qm_op cG) := [(0, o_al 1), (1, o_get 1 rdV0), (4, o_ic (3)), (5, o_icne 15), (8, o_al 2), (9, o_call 1 (P mT_isPlain)), (12, o_ifne 17), (15, o_ic (-1)), (16, o_reti), (17, o_al 0), (18, o_callv 7 1 (P mS_begin)), (21, o_ic (1)), (22, o_is 3), (23, o_ic (0)), (24, o_is 4), (26, o_il 4), (28, o_al 2), (29, o_get 1 rdV3), (32, o_icge 63), (35, o_il 3), (36, o_ifeq 63), (39, o_al 0), (40, o_get 7 rdS13), (43, o_al 2), (44, o_get 1 rdV3), (47, o_icge 63), (50, o_al 0), (51, o_al 1), (52, o_al 2), (53, o_callv 7 3 (P mS_read)), (56, o_is 3), (57, o_inc 4 (1)), (60, o_go 26), (63, o_il 3), (64, o_ifeq 74), (67, o_al 0), (68, o_get 7 rdS9), (71, o_ifle 76), (74, o_ic (-1)), (75, o_reti), (76, o_al 0), (77, o_al 0), (78, o_get 7 rdS12), (81, o_al 0), (82, o_get 7 rdS11), (85, o_ic (-1)), (86, o_ic (0)), (87, o_callv 7 5 (P mS_connect)), (90, o_al 0), (91, o_al 1), (92, o_callv 7 2 (P mS_spread)), (95, o_al 0), (96, o_get 7 rdS0), (99, o_ic (1)), (100, o_ald 8 cn8 cr8), (101, o_ifeq 108), (104, o_ic (1)), (105, o_go 109), (108, o_ic (0)), (109, o_call 1 (P mU_truth)), (112, o_reti)]
set_option maxRecDepth 20000 in
theorem sS_goes {E : cEnv} (hE : cOk E) : qm_cok (cK E (rmL 5) prog_4_method_2_code 5 "FunctionRows$Search" (wsT yS_goes prog_4_method_2_code 5 (some .int)) (some .int)) (kS_goes (cSd E)) := ⟨os_al_n (j := 1) (by decide +kernel) rfl, os_get (idx := 33) (f := 0) (ci := 0) (C := "FunctionRows$Value") (T := FV) (N := 5) (by decide +kernel) rfl (fun w h => tb_in (fiV w h)) (by decide) (tb_in lkS_33) glV0, os_iconst (n := 3) (by decide +kernel) (by decide +kernel), os_icne (off := 10) (by decide +kernel) (by decide), os_al_n (j := 2) (by decide +kernel) rfl, os_call hE (pc := 9) (idx := 39) (by decide +kernel) (cwT_s cT_isPlain inT mlS_39 stT_isPlain (by decide +kernel) (by decide)), os_ifne (off := 5) (by decide +kernel) (by decide), os_iconst (n := -1) (by decide +kernel) (by decide +kernel), os_reti hE (by decide +kernel) rfl, os_al_n (j := 0) (by decide +kernel) rfl, os_callv hE (pc := 18) (idx := 45) (ci := 2) (by decide +kernel) rfl crc7 (cwT_v cS_begin inS mlS_45 imS_begin seS_begin (by decide +kernel) (by decide)), os_iconst (n := 1) (by decide +kernel) (by decide +kernel), os_is_n (j := 3) (by decide +kernel) rfl (by decide), os_iconst (n := 0) (by decide +kernel) (by decide +kernel), os_is (by decide +kernel) (by decide), os_il (by decide +kernel), os_al_n (j := 2) (by decide +kernel) rfl, os_get (idx := 48) (f := 3) (ci := 0) (C := "FunctionRows$Value") (T := FV) (N := 5) (by decide +kernel) rfl (fun w h => tb_in (fiV w h)) (by decide) (tb_in lkS_48) glV3, os_icge (off := 31) (by decide +kernel) (by decide), os_il_n (j := 3) (by decide +kernel) rfl, os_ifeq (off := 27) (by decide +kernel) (by decide), os_al_n (j := 0) (by decide +kernel) rfl, os_get (idx := 51) (f := 13) (ci := 2) (C := "FunctionRows$Search") (T := FS) (N := 14) (by decide +kernel) rfl (fun w h => tb_in (fiS w h)) (by decide) (tb_in lkS_51) glS13, os_al_n (j := 2) (by decide +kernel) rfl, os_get (idx := 48) (f := 3) (ci := 0) (C := "FunctionRows$Value") (T := FV) (N := 5) (by decide +kernel) rfl (fun w h => tb_in (fiV w h)) (by decide) (tb_in lkS_48) glV3, os_icge (off := 16) (by decide +kernel) (by decide), os_al_n (j := 0) (by decide +kernel) rfl, os_al_n (j := 1) (by decide +kernel) rfl, os_al_n (j := 2) (by decide +kernel) rfl, os_callv hE (pc := 53) (idx := 54) (ci := 2) (by decide +kernel) rfl crc7 (cwT_v cS_read inS mlS_54 imS_read seS_read (by decide +kernel) (by decide)), os_is_n (j := 3) (by decide +kernel) rfl (by decide), os_inc (n := 1) (by decide +kernel) (by decide +kernel) (by decide), os_go (off := -34) (by decide +kernel) (by decide), os_il_n (j := 3) (by decide +kernel) rfl, os_ifeq (off := 10) (by decide +kernel) (by decide), os_al_n (j := 0) (by decide +kernel) rfl, os_get (idx := 58) (f := 9) (ci := 2) (C := "FunctionRows$Search") (T := FS) (N := 14) (by decide +kernel) rfl (fun w h => tb_in (fiS w h)) (by decide) (tb_in lkS_58) glS9, os_ifle (off := 5) (by decide +kernel) (by decide), os_iconst (n := -1) (by decide +kernel) (by decide +kernel), os_reti hE (by decide +kernel) rfl, os_al_n (j := 0) (by decide +kernel) rfl, os_al_n (j := 0) (by decide +kernel) rfl, os_get (idx := 61) (f := 12) (ci := 2) (C := "FunctionRows$Search") (T := FS) (N := 14) (by decide +kernel) rfl (fun w h => tb_in (fiS w h)) (by decide) (tb_in lkS_61) glS12, os_al_n (j := 0) (by decide +kernel) rfl, os_get (idx := 64) (f := 11) (ci := 2) (C := "FunctionRows$Search") (T := FS) (N := 14) (by decide +kernel) rfl (fun w h => tb_in (fiS w h)) (by decide) (tb_in lkS_64) glS11, os_iconst (n := -1) (by decide +kernel) (by decide +kernel), os_iconst (n := 0) (by decide +kernel) (by decide +kernel), os_callv hE (pc := 87) (idx := 67) (ci := 2) (by decide +kernel) rfl crc7 (cwT_v cS_connect inS mlS_67 imS_connect seS_connect (by decide +kernel) (by decide)), os_al_n (j := 0) (by decide +kernel) rfl, os_al_n (j := 1) (by decide +kernel) rfl, os_callv hE (pc := 92) (idx := 71) (ci := 2) (by decide +kernel) rfl crc7 (cwT_v cS_spread inS mlS_71 imS_spread seS_spread (by decide +kernel) (by decide)), os_al_n (j := 0) (by decide +kernel) rfl, os_get (idx := 11) (f := 0) (ci := 2) (C := "FunctionRows$Search") (T := FS) (N := 14) (by decide +kernel) rfl (fun w h => tb_in (fiS w h)) (by decide) (tb_in lkS_11) glS0, os_iconst (n := 1) (by decide +kernel) (by decide +kernel), os_iald (t0 := 1) (by decide +kernel) rfl cce8, os_ifeq (off := 7) (by decide +kernel) (by decide), os_iconst (n := 1) (by decide +kernel) (by decide +kernel), os_go (off := 4) (by decide +kernel) (by decide), os_iconst (n := 0) (by decide +kernel) (by decide +kernel), os_call hE (pc := 109) (idx := 75) (by decide +kernel) (cwT_s cU_truth inU mlS_75 stU_truth (by decide +kernel) (by decide)), os_reti hE (by decide +kernel) rfl⟩
def kT_reckon (P : MethodName × List Cond × Room → List qm_v → cG → Option qm_v → cG → Prop) : List (Nat × qm_op cG) := [(0, o_al 2), (1, o_get 1 rdV0), (4, o_ic (3)), (5, o_iceq 13), (8, o_al 1), (9, o_callv 1 1 (P mV_setError)), (12, o_ret0), (13, o_il 0), (14, o_sw [(10, 104), (11, 116), (12, 127), (13, 139), (14, 151), (20, 160), (28, 168)] 179), (104, o_al 1), (105, o_al 2), (106, o_get 1 rdV3), (109, o_i2l), (110, o_callv 1 2 (P mV_setWhole)), (113, o_go 186), (116, o_al 1), (117, o_al 2), (118, o_al 3), (119, o_al 4), (121, o_call 4 (P mT_part)), (124, o_go 186), (127, o_al 1), (128, o_al 2), (129, o_ic (97)), (131, o_ic (-32)), (133, o_call 4 (P mT_resize)), (136, o_go 186), (139, o_al 1), (140, o_al 2), (141, o_ic (65)), (143, o_ic (32)), (145, o_call 4 (P mT_resize)), (148, o_go 186), (151, o_al 1), (152, o_al 2), (153, o_al 3), (154, o_call 3 (P mT_join)), (157, o_go 186), (160, o_al 1), (161, o_al 2), (162, o_call 2 (P mT_tagLetter)), (165, o_go 186), (168, o_al 1), (169, o_al 2), (170, o_al 3), (171, o_al 4), (173, o_call 4 (P mT_turn)), (176, o_go 186), (179, o_il 0), (180, o_al 1), (181, o_al 2), (182, o_al 3), (183, o_call 4 (P mT_seek)), (186, o_ret0)]
set_option maxRecDepth 20000 in
theorem sT_reckon {E : cEnv} (hE : cOk E) : qm_cok (cK E (rmL 5) prog_5_method_2_code 5 "FunctionRows$Texts" (wsT yT_reckon prog_5_method_2_code 5 none) none) (kT_reckon (cSd E)) := ⟨os_al_n (j := 2) (by decide +kernel) rfl, os_get (idx := 9) (f := 0) (ci := 0) (C := "FunctionRows$Value") (T := FV) (N := 5) (by decide +kernel) rfl (fun w h => tb_in (fiV w h)) (by decide) (tb_in lkT_9) glV0, os_iconst (n := 3) (by decide +kernel) (by decide +kernel), os_iceq (off := 8) (by decide +kernel) (by decide), os_al_n (j := 1) (by decide +kernel) rfl, os_callv hE (pc := 9) (idx := 15) (ci := 0) (by decide +kernel) rfl crc1 (cwT_v cV_setError inV mlT_15 imV_setError seV_setError (by decide +kernel) (by decide)), os_ret0 hE (by decide +kernel) rfl, os_il_n (j := 0) (by decide +kernel) rfl, os_table (len := 90) (dflt := 165) (lo := 10) (hi := 28) (offs := #[90, 102, 113, 125, 137, 165, 165, 165, 165, 165, 146, 165, 165, 165, 165, 165, 165, 165, 154]) (by decide +kernel) (by decide) (by decide) (by decide +kernel) (by decide +kernel), os_al_n (j := 1) (by decide +kernel) rfl, os_al_n (j := 2) (by decide +kernel) rfl, os_get (idx := 18) (f := 3) (ci := 0) (C := "FunctionRows$Value") (T := FV) (N := 5) (by decide +kernel) rfl (fun w h => tb_in (fiV w h)) (by decide) (tb_in lkT_18) glV3, os_i2l (by decide +kernel), os_callv hE (pc := 110) (idx := 21) (ci := 0) (by decide +kernel) rfl crc1 (cwT_v cV_setWhole inV mlT_21 imV_setWhole seV_setWhole (by decide +kernel) (by decide)), os_go (off := 73) (by decide +kernel) (by decide), os_al_n (j := 1) (by decide +kernel) rfl, os_al_n (j := 2) (by decide +kernel) rfl, os_al_n (j := 3) (by decide +kernel) rfl, os_al (by decide +kernel), os_call hE (pc := 121) (idx := 25) (by decide +kernel) (cwT_s cT_part inT mlT_25 stT_part (by decide +kernel) (by decide)), os_go (off := 62) (by decide +kernel) (by decide), os_al_n (j := 1) (by decide +kernel) rfl, os_al_n (j := 2) (by decide +kernel) rfl, os_bipush (n := 97) (by decide +kernel) (by decide +kernel), os_bipush (n := -32) (by decide +kernel) (by decide +kernel), os_call hE (pc := 133) (idx := 31) (by decide +kernel) (cwT_s cT_resize inT mlT_31 stT_resize (by decide +kernel) (by decide)), os_go (off := 50) (by decide +kernel) (by decide), os_al_n (j := 1) (by decide +kernel) rfl, os_al_n (j := 2) (by decide +kernel) rfl, os_bipush (n := 65) (by decide +kernel) (by decide +kernel), os_bipush (n := 32) (by decide +kernel) (by decide +kernel), os_call hE (pc := 145) (idx := 31) (by decide +kernel) (cwT_s cT_resize inT mlT_31 stT_resize (by decide +kernel) (by decide)), os_go (off := 38) (by decide +kernel) (by decide), os_al_n (j := 1) (by decide +kernel) rfl, os_al_n (j := 2) (by decide +kernel) rfl, os_al_n (j := 3) (by decide +kernel) rfl, os_call hE (pc := 154) (idx := 35) (by decide +kernel) (cwT_s cT_join inT mlT_35 stT_join (by decide +kernel) (by decide)), os_go (off := 29) (by decide +kernel) (by decide), os_al_n (j := 1) (by decide +kernel) rfl, os_al_n (j := 2) (by decide +kernel) rfl, os_call hE (pc := 162) (idx := 39) (by decide +kernel) (cwT_s cT_tagLetter inT mlT_39 stT_tagLetter (by decide +kernel) (by decide)), os_go (off := 21) (by decide +kernel) (by decide), os_al_n (j := 1) (by decide +kernel) rfl, os_al_n (j := 2) (by decide +kernel) rfl, os_al_n (j := 3) (by decide +kernel) rfl, os_al (by decide +kernel), os_call hE (pc := 173) (idx := 43) (by decide +kernel) (cwT_s cT_turn inT mlT_43 stT_turn (by decide +kernel) (by decide)), os_go (off := 10) (by decide +kernel) (by decide), os_il_n (j := 0) (by decide +kernel) rfl, os_al_n (j := 1) (by decide +kernel) rfl, os_al_n (j := 2) (by decide +kernel) rfl, os_al_n (j := 3) (by decide +kernel) rfl, os_call hE (pc := 183) (idx := 46) (by decide +kernel) (cwT_s cT_seek inT mlT_46 stT_seek (by decide +kernel) (by decide)), os_ret0 hE (by decide +kernel) rfl⟩
def kR_reckon (P : MethodName × List Cond × Room → List qm_v → cG → Option qm_v → cG → Prop) : List (Nat × qm_op cG) := [(0, o_al 1), (1, o_getq 3 rdE4), (4, o_get 3 rdE2), (7, o_as 2), (8, o_al 1), (9, o_getq 3 rdE5), (12, o_get 3 rdE2), (15, o_as 3), (16, o_al 1), (17, o_getq 3 rdE6), (20, o_get 3 rdE2), (23, o_as 4), (25, o_al 1), (26, o_get 3 rdE3), (29, o_ic (24)), (31, o_icne 51), (34, o_al 1), (35, o_get 3 rdE2), (38, o_al 1), (39, o_getq 3 rdE4), (42, o_callv 3 1 (P mE_given)), (45, o_callv 1 2 (P mV_setTruth)), (48, o_go 211), (51, o_al 1), (52, o_get 3 rdE3), (55, o_ic (27)), (57, o_icne 79), (60, o_al 1), (61, o_get 3 rdE2), (64, o_al 0), (65, o_get 0 rdR6), (68, o_al 2), (69, o_al 3), (70, o_callv 7 3 (P mS_goes)), (73, o_callv 1 2 (P mV_setTruth)), (76, o_go 211), (79, o_al 1), (80, o_get 3 rdE3), (83, o_ic (5)), (84, o_iclt 112), (87, o_al 1), (88, o_get 3 rdE3), (91, o_ic (9)), (93, o_icgt 112), (96, o_al 1), (97, o_get 3 rdE3), (100, o_al 1), (101, o_get 3 rdE2), (104, o_al 2), (105, o_al 3), (106, o_call 4 (P mH_reckon)), (109, o_go 211), (112, o_al 1), (113, o_get 3 rdE3), (116, o_ic (10)), (118, o_iclt 130), (121, o_al 1), (122, o_get 3 rdE3), (125, o_ic (20)), (127, o_icle 139), (130, o_al 1), (131, o_get 3 rdE3), (134, o_ic (28)), (136, o_icne 157), (139, o_al 1), (140, o_get 3 rdE3), (143, o_al 1), (144, o_get 3 rdE2), (147, o_al 2), (148, o_al 3), (149, o_al 4), (151, o_call 5 (P mT_reckon)), (154, o_go 211), (157, o_al 1), (158, o_get 3 rdE3), (161, o_ic (21)), (163, o_iclt 193), (166, o_al 1), (167, o_get 3 rdE3), (170, o_ic (26)), (172, o_icgt 193), (175, o_al 1), (176, o_get 3 rdE3), (179, o_al 1), (180, o_get 3 rdE2), (183, o_al 2), (184, o_al 3), (185, o_al 4), (187, o_call 5 (P mC_reckon)), (190, o_go 211), (193, o_al 1), (194, o_get 3 rdE2), (197, o_al 1), (198, o_get 3 rdE3), (201, o_al 2), (202, o_al 3), (203, o_al 4), (205, o_call 4 (P mU_reckon)), (208, o_callv 1 2 (P mV_setTruth)), (211, o_ret0)]
set_option maxRecDepth 20000 in
theorem sR_reckon {E : cEnv} (hE : cOk E) : qm_cok (cK E (rmL 6) prog_1_method_23_code 5 "FunctionRows" (wsT yR_reckon prog_1_method_23_code 5 none) none) (kR_reckon (cSd E)) := ⟨os_al_n (j := 1) (by decide +kernel) rfl, os_getq (idx := 153) (f := 4) (ci := 1) (C := "FunctionRows$Expression") (T := FE) (N := 10) (by decide +kernel) rfl (fun w h => tb_in (fiE w h)) (by decide) (tb_in lkR_153) glE4, os_get (idx := 112) (f := 2) (ci := 1) (C := "FunctionRows$Expression") (T := FE) (N := 10) (by decide +kernel) rfl (fun w h => tb_in (fiE w h)) (by decide) (tb_in lkR_112) glE2, os_as_n (j := 2) (by decide +kernel) rfl (by decide), os_al_n (j := 1) (by decide +kernel) rfl, os_getq (idx := 157) (f := 5) (ci := 1) (C := "FunctionRows$Expression") (T := FE) (N := 10) (by decide +kernel) rfl (fun w h => tb_in (fiE w h)) (by decide) (tb_in lkR_157) glE5, os_get (idx := 112) (f := 2) (ci := 1) (C := "FunctionRows$Expression") (T := FE) (N := 10) (by decide +kernel) rfl (fun w h => tb_in (fiE w h)) (by decide) (tb_in lkR_112) glE2, os_as_n (j := 3) (by decide +kernel) rfl (by decide), os_al_n (j := 1) (by decide +kernel) rfl, os_getq (idx := 160) (f := 6) (ci := 1) (C := "FunctionRows$Expression") (T := FE) (N := 10) (by decide +kernel) rfl (fun w h => tb_in (fiE w h)) (by decide) (tb_in lkR_160) glE6, os_get (idx := 112) (f := 2) (ci := 1) (C := "FunctionRows$Expression") (T := FE) (N := 10) (by decide +kernel) rfl (fun w h => tb_in (fiE w h)) (by decide) (tb_in lkR_112) glE2, os_as (by decide +kernel) (by decide), os_al_n (j := 1) (by decide +kernel) rfl, os_get (idx := 163) (f := 3) (ci := 1) (C := "FunctionRows$Expression") (T := FE) (N := 10) (by decide +kernel) rfl (fun w h => tb_in (fiE w h)) (by decide) (tb_in lkR_163) glE3, os_bipush (n := 24) (by decide +kernel) (by decide +kernel), os_icne (off := 20) (by decide +kernel) (by decide), os_al_n (j := 1) (by decide +kernel) rfl, os_get (idx := 112) (f := 2) (ci := 1) (C := "FunctionRows$Expression") (T := FE) (N := 10) (by decide +kernel) rfl (fun w h => tb_in (fiE w h)) (by decide) (tb_in lkR_112) glE2, os_al_n (j := 1) (by decide +kernel) rfl, os_getq (idx := 153) (f := 4) (ci := 1) (C := "FunctionRows$Expression") (T := FE) (N := 10) (by decide +kernel) rfl (fun w h => tb_in (fiE w h)) (by decide) (tb_in lkR_153) glE4, os_callv hE (pc := 42) (idx := 166) (ci := 1) (by decide +kernel) rfl crc3 (cwT_v cE_given inE mlR_166 imE_given seE_given (by decide +kernel) (by decide)), os_callv hE (pc := 45) (idx := 76) (ci := 0) (by decide +kernel) rfl crc1 (cwT_v cV_setTruth inV mlR_76 imV_setTruth seV_setTruth (by decide +kernel) (by decide)), os_go (off := 163) (by decide +kernel) (by decide), os_al_n (j := 1) (by decide +kernel) rfl, os_get (idx := 163) (f := 3) (ci := 1) (C := "FunctionRows$Expression") (T := FE) (N := 10) (by decide +kernel) rfl (fun w h => tb_in (fiE w h)) (by decide) (tb_in lkR_163) glE3, os_bipush (n := 27) (by decide +kernel) (by decide +kernel), os_icne (off := 22) (by decide +kernel) (by decide), os_al_n (j := 1) (by decide +kernel) rfl, os_get (idx := 112) (f := 2) (ci := 1) (C := "FunctionRows$Expression") (T := FE) (N := 10) (by decide +kernel) rfl (fun w h => tb_in (fiE w h)) (by decide) (tb_in lkR_112) glE2, os_al_n (j := 0) (by decide +kernel) rfl, os_get (idx := 33) (f := 6) (ci := 3) (C := "FunctionRows") (T := FR) (N := 7) (by decide +kernel) rfl (fun w h => tb_in (fiR w h)) (by decide) (tb_in lkR_33) glR6, os_al_n (j := 2) (by decide +kernel) rfl, os_al_n (j := 3) (by decide +kernel) rfl, os_callv hE (pc := 70) (idx := 170) (ci := 2) (by decide +kernel) rfl crc7 (cwT_v cS_goes inS mlR_170 imS_goes seS_goes (by decide +kernel) (by decide)), os_callv hE (pc := 73) (idx := 76) (ci := 0) (by decide +kernel) rfl crc1 (cwT_v cV_setTruth inV mlR_76 imV_setTruth seV_setTruth (by decide +kernel) (by decide)), os_go (off := 135) (by decide +kernel) (by decide), os_al_n (j := 1) (by decide +kernel) rfl, os_get (idx := 163) (f := 3) (ci := 1) (C := "FunctionRows$Expression") (T := FE) (N := 10) (by decide +kernel) rfl (fun w h => tb_in (fiE w h)) (by decide) (tb_in lkR_163) glE3, os_iconst (n := 5) (by decide +kernel) (by decide +kernel), os_iclt (off := 28) (by decide +kernel) (by decide), os_al_n (j := 1) (by decide +kernel) rfl, os_get (idx := 163) (f := 3) (ci := 1) (C := "FunctionRows$Expression") (T := FE) (N := 10) (by decide +kernel) rfl (fun w h => tb_in (fiE w h)) (by decide) (tb_in lkR_163) glE3, os_bipush (n := 9) (by decide +kernel) (by decide +kernel), os_icgt (off := 19) (by decide +kernel) (by decide), os_al_n (j := 1) (by decide +kernel) rfl, os_get (idx := 163) (f := 3) (ci := 1) (C := "FunctionRows$Expression") (T := FE) (N := 10) (by decide +kernel) rfl (fun w h => tb_in (fiE w h)) (by decide) (tb_in lkR_163) glE3, os_al_n (j := 1) (by decide +kernel) rfl, os_get (idx := 112) (f := 2) (ci := 1) (C := "FunctionRows$Expression") (T := FE) (N := 10) (by decide +kernel) rfl (fun w h => tb_in (fiE w h)) (by decide) (tb_in lkR_112) glE2, os_al_n (j := 2) (by decide +kernel) rfl, os_al_n (j := 3) (by decide +kernel) rfl, os_call hE (pc := 106) (idx := 174) (by decide +kernel) (cwT_s cH_reckon inH mlR_174 stH_reckon (by decide +kernel) (by decide)), os_go (off := 102) (by decide +kernel) (by decide), os_al_n (j := 1) (by decide +kernel) rfl, os_get (idx := 163) (f := 3) (ci := 1) (C := "FunctionRows$Expression") (T := FE) (N := 10) (by decide +kernel) rfl (fun w h => tb_in (fiE w h)) (by decide) (tb_in lkR_163) glE3, os_bipush (n := 10) (by decide +kernel) (by decide +kernel), os_iclt (off := 12) (by decide +kernel) (by decide), os_al_n (j := 1) (by decide +kernel) rfl, os_get (idx := 163) (f := 3) (ci := 1) (C := "FunctionRows$Expression") (T := FE) (N := 10) (by decide +kernel) rfl (fun w h => tb_in (fiE w h)) (by decide) (tb_in lkR_163) glE3, os_bipush (n := 20) (by decide +kernel) (by decide +kernel), os_icle (off := 12) (by decide +kernel) (by decide), os_al_n (j := 1) (by decide +kernel) rfl, os_get (idx := 163) (f := 3) (ci := 1) (C := "FunctionRows$Expression") (T := FE) (N := 10) (by decide +kernel) rfl (fun w h => tb_in (fiE w h)) (by decide) (tb_in lkR_163) glE3, os_bipush (n := 28) (by decide +kernel) (by decide +kernel), os_icne (off := 21) (by decide +kernel) (by decide), os_al_n (j := 1) (by decide +kernel) rfl, os_get (idx := 163) (f := 3) (ci := 1) (C := "FunctionRows$Expression") (T := FE) (N := 10) (by decide +kernel) rfl (fun w h => tb_in (fiE w h)) (by decide) (tb_in lkR_163) glE3, os_al_n (j := 1) (by decide +kernel) rfl, os_get (idx := 112) (f := 2) (ci := 1) (C := "FunctionRows$Expression") (T := FE) (N := 10) (by decide +kernel) rfl (fun w h => tb_in (fiE w h)) (by decide) (tb_in lkR_112) glE2, os_al_n (j := 2) (by decide +kernel) rfl, os_al_n (j := 3) (by decide +kernel) rfl, os_al (by decide +kernel), os_call hE (pc := 151) (idx := 179) (by decide +kernel) (cwT_s cT_reckon inT mlR_179 stT_reckon (by decide +kernel) (by decide)), os_go (off := 57) (by decide +kernel) (by decide), os_al_n (j := 1) (by decide +kernel) rfl, os_get (idx := 163) (f := 3) (ci := 1) (C := "FunctionRows$Expression") (T := FE) (N := 10) (by decide +kernel) rfl (fun w h => tb_in (fiE w h)) (by decide) (tb_in lkR_163) glE3, os_bipush (n := 21) (by decide +kernel) (by decide +kernel), os_iclt (off := 30) (by decide +kernel) (by decide), os_al_n (j := 1) (by decide +kernel) rfl, os_get (idx := 163) (f := 3) (ci := 1) (C := "FunctionRows$Expression") (T := FE) (N := 10) (by decide +kernel) rfl (fun w h => tb_in (fiE w h)) (by decide) (tb_in lkR_163) glE3, os_bipush (n := 26) (by decide +kernel) (by decide +kernel), os_icgt (off := 21) (by decide +kernel) (by decide), os_al_n (j := 1) (by decide +kernel) rfl, os_get (idx := 163) (f := 3) (ci := 1) (C := "FunctionRows$Expression") (T := FE) (N := 10) (by decide +kernel) rfl (fun w h => tb_in (fiE w h)) (by decide) (tb_in lkR_163) glE3, os_al_n (j := 1) (by decide +kernel) rfl, os_get (idx := 112) (f := 2) (ci := 1) (C := "FunctionRows$Expression") (T := FE) (N := 10) (by decide +kernel) rfl (fun w h => tb_in (fiE w h)) (by decide) (tb_in lkR_112) glE2, os_al_n (j := 2) (by decide +kernel) rfl, os_al_n (j := 3) (by decide +kernel) rfl, os_al (by decide +kernel), os_call hE (pc := 187) (idx := 184) (by decide +kernel) (cwT_s cC_reckon inC mlR_184 stC_reckon (by decide +kernel) (by decide)), os_go (off := 21) (by decide +kernel) (by decide), os_al_n (j := 1) (by decide +kernel) rfl, os_get (idx := 112) (f := 2) (ci := 1) (C := "FunctionRows$Expression") (T := FE) (N := 10) (by decide +kernel) rfl (fun w h => tb_in (fiE w h)) (by decide) (tb_in lkR_112) glE2, os_al_n (j := 1) (by decide +kernel) rfl, os_get (idx := 163) (f := 3) (ci := 1) (C := "FunctionRows$Expression") (T := FE) (N := 10) (by decide +kernel) rfl (fun w h => tb_in (fiE w h)) (by decide) (tb_in lkR_163) glE3, os_al_n (j := 2) (by decide +kernel) rfl, os_al_n (j := 3) (by decide +kernel) rfl, os_al (by decide +kernel), os_call hE (pc := 205) (idx := 187) (by decide +kernel) (cwT_s cU_reckon inU mlR_187 stU_reckon (by decide +kernel) (by decide)), os_callv hE (pc := 208) (idx := 76) (ci := 0) (by decide +kernel) rfl crc1 (cwT_v cV_setTruth inV mlR_76 imV_setTruth seV_setTruth (by decide +kernel) (by decide)), os_ret0 hE (by decide +kernel) rfl⟩
def kR_run (P : MethodName × List Cond × Room → List qm_v → cG → Option qm_v → cG → Prop) : List (Nat × qm_op cG) := [(0, o_al 0), (1, o_il 1), (2, o_callv 0 2 (P mR_isExpression)), (5, o_ifne 10), (8, o_ic (-1)), (9, o_reti), (10, o_ic (0)), (11, o_is 2), (12, o_il 2), (13, o_il 1), (14, o_icge 33), (17, o_al 0), (18, o_get 0 rdR0), (21, o_il 2), (22, o_aald 4 cn4 cr4), (23, o_ic (0)), (24, o_put 3 wrE9), (27, o_inc 2 (1)), (30, o_go 12), (33, o_al 0), (34, o_get 0 rdR0), (37, o_il 1), (38, o_aald 4 cn4 cr4), (39, o_ic (1)), (40, o_put 3 wrE9), (43, o_il 1), (44, o_is 2), (45, o_il 2), (46, o_iflt 76), (49, o_al 0), (50, o_get 0 rdR0), (53, o_il 2), (54, o_aald 4 cn4 cr4), (55, o_get 3 rdE9), (58, o_ifeq 70), (61, o_al 0), (62, o_get 0 rdR0), (65, o_il 2), (66, o_aald 4 cn4 cr4), (67, o_callv 3 1 (P mE_wantOperands)), (70, o_inc 2 (-1)), (73, o_go 45), (76, o_ic (0)), (77, o_is 2), (78, o_il 2), (79, o_il 1), (80, o_icgt 123), (83, o_al 0), (84, o_get 0 rdR0), (87, o_il 2), (88, o_aald 4 cn4 cr4), (89, o_get 3 rdE9), (92, o_ifeq 117), (95, o_al 0), (96, o_get 0 rdR0), (99, o_il 2), (100, o_aald 4 cn4 cr4), (101, o_callv 3 1 (P mE_isCall)), (104, o_ifeq 117), (107, o_al 0), (108, o_al 0), (109, o_get 0 rdR0), (112, o_il 2), (113, o_aald 4 cn4 cr4), (114, o_callv 0 2 (P mR_reckon)), (117, o_inc 2 (1)), (120, o_go 78), (123, o_al 0), (124, o_get 0 rdR3), (127, o_al 0), (128, o_get 0 rdR0), (131, o_il 1), (132, o_aald 4 cn4 cr4), (133, o_get 3 rdE2), (136, o_callv 1 2 (P mV_copy)), (139, o_al 0), (140, o_get 0 rdR3), (143, o_get 1 rdV0), (146, o_reti)]
set_option maxRecDepth 20000 in
theorem sR_run {E : cEnv} (hE : cOk E) : qm_cok (cK E (rmL 7) prog_1_method_8_code 3 "FunctionRows" (wsT yR_run prog_1_method_8_code 3 (some .int)) (some .int)) (kR_run (cSd E)) := ⟨os_al_n (j := 0) (by decide +kernel) rfl, os_il_n (j := 1) (by decide +kernel) rfl, os_callv hE (pc := 2) (idx := 85) (ci := 3) (by decide +kernel) rfl crc0 (cwT_v cR_isExpression inR mlR_85 imR_isExpression seR_isExpression (by decide +kernel) (by decide)), os_ifne (off := 5) (by decide +kernel) (by decide), os_iconst (n := -1) (by decide +kernel) (by decide +kernel), os_reti hE (by decide +kernel) rfl, os_iconst (n := 0) (by decide +kernel) (by decide +kernel), os_is_n (j := 2) (by decide +kernel) rfl (by decide), os_il_n (j := 2) (by decide +kernel) rfl, os_il_n (j := 1) (by decide +kernel) rfl, os_icge (off := 19) (by decide +kernel) (by decide), os_al_n (j := 0) (by decide +kernel) rfl, os_get (idx := 11) (f := 0) (ci := 3) (C := "FunctionRows") (T := FR) (N := 7) (by decide +kernel) rfl (fun w h => tb_in (fiR w h)) (by decide) (tb_in lkR_11) glR0, os_il_n (j := 2) (by decide +kernel) rfl, os_aald (t0 := 2) (by decide +kernel) rfl cce4, os_iconst (n := 0) (by decide +kernel) (by decide +kernel), os_put hE (idx := 97) (f := 9) (ci := 1) (C := "FunctionRows$Expression") (T := FE) (N := 10) (ty0 := ftE) (by decide +kernel) rfl (fun w h => tb_in (fiE w h)) ftE_ok fnE (by decide) (tb_in lkR_97) rfl (by decide +kernel) plE9, os_inc (n := 1) (by decide +kernel) (by decide +kernel) (by decide), os_go (off := -18) (by decide +kernel) (by decide), os_al_n (j := 0) (by decide +kernel) rfl, os_get (idx := 11) (f := 0) (ci := 3) (C := "FunctionRows") (T := FR) (N := 7) (by decide +kernel) rfl (fun w h => tb_in (fiR w h)) (by decide) (tb_in lkR_11) glR0, os_il_n (j := 1) (by decide +kernel) rfl, os_aald (t0 := 2) (by decide +kernel) rfl cce4, os_iconst (n := 1) (by decide +kernel) (by decide +kernel), os_put hE (idx := 97) (f := 9) (ci := 1) (C := "FunctionRows$Expression") (T := FE) (N := 10) (ty0 := ftE) (by decide +kernel) rfl (fun w h => tb_in (fiE w h)) ftE_ok fnE (by decide) (tb_in lkR_97) rfl (by decide +kernel) plE9, os_il_n (j := 1) (by decide +kernel) rfl, os_is_n (j := 2) (by decide +kernel) rfl (by decide), os_il_n (j := 2) (by decide +kernel) rfl, os_iflt (off := 30) (by decide +kernel) (by decide), os_al_n (j := 0) (by decide +kernel) rfl, os_get (idx := 11) (f := 0) (ci := 3) (C := "FunctionRows") (T := FR) (N := 7) (by decide +kernel) rfl (fun w h => tb_in (fiR w h)) (by decide) (tb_in lkR_11) glR0, os_il_n (j := 2) (by decide +kernel) rfl, os_aald (t0 := 2) (by decide +kernel) rfl cce4, os_get (idx := 97) (f := 9) (ci := 1) (C := "FunctionRows$Expression") (T := FE) (N := 10) (by decide +kernel) rfl (fun w h => tb_in (fiE w h)) (by decide) (tb_in lkR_97) glE9, os_ifeq (off := 12) (by decide +kernel) (by decide), os_al_n (j := 0) (by decide +kernel) rfl, os_get (idx := 11) (f := 0) (ci := 3) (C := "FunctionRows") (T := FR) (N := 7) (by decide +kernel) rfl (fun w h => tb_in (fiR w h)) (by decide) (tb_in lkR_11) glR0, os_il_n (j := 2) (by decide +kernel) rfl, os_aald (t0 := 2) (by decide +kernel) rfl cce4, os_callv hE (pc := 67) (idx := 101) (ci := 1) (by decide +kernel) rfl crc3 (cwT_v cE_wantOperands inE mlR_101 imE_wantOperands seE_wantOperands (by decide +kernel) (by decide)), os_inc (n := -1) (by decide +kernel) (by decide +kernel) (by decide), os_go (off := -28) (by decide +kernel) (by decide), os_iconst (n := 0) (by decide +kernel) (by decide +kernel), os_is_n (j := 2) (by decide +kernel) rfl (by decide), os_il_n (j := 2) (by decide +kernel) rfl, os_il_n (j := 1) (by decide +kernel) rfl, os_icgt (off := 43) (by decide +kernel) (by decide), os_al_n (j := 0) (by decide +kernel) rfl, os_get (idx := 11) (f := 0) (ci := 3) (C := "FunctionRows") (T := FR) (N := 7) (by decide +kernel) rfl (fun w h => tb_in (fiR w h)) (by decide) (tb_in lkR_11) glR0, os_il_n (j := 2) (by decide +kernel) rfl, os_aald (t0 := 2) (by decide +kernel) rfl cce4, os_get (idx := 97) (f := 9) (ci := 1) (C := "FunctionRows$Expression") (T := FE) (N := 10) (by decide +kernel) rfl (fun w h => tb_in (fiE w h)) (by decide) (tb_in lkR_97) glE9, os_ifeq (off := 25) (by decide +kernel) (by decide), os_al_n (j := 0) (by decide +kernel) rfl, os_get (idx := 11) (f := 0) (ci := 3) (C := "FunctionRows") (T := FR) (N := 7) (by decide +kernel) rfl (fun w h => tb_in (fiR w h)) (by decide) (tb_in lkR_11) glR0, os_il_n (j := 2) (by decide +kernel) rfl, os_aald (t0 := 2) (by decide +kernel) rfl cce4, os_callv hE (pc := 101) (idx := 104) (ci := 1) (by decide +kernel) rfl crc3 (cwT_v cE_isCall inE mlR_104 imE_isCall seE_isCall (by decide +kernel) (by decide)), os_ifeq (off := 13) (by decide +kernel) (by decide), os_al_n (j := 0) (by decide +kernel) rfl, os_al_n (j := 0) (by decide +kernel) rfl, os_get (idx := 11) (f := 0) (ci := 3) (C := "FunctionRows") (T := FR) (N := 7) (by decide +kernel) rfl (fun w h => tb_in (fiR w h)) (by decide) (tb_in lkR_11) glR0, os_il_n (j := 2) (by decide +kernel) rfl, os_aald (t0 := 2) (by decide +kernel) rfl cce4, os_callv hE (pc := 114) (idx := 108) (ci := 3) (by decide +kernel) rfl crc0 (cwT_v cR_reckon inR mlR_108 imR_reckon seR_reckon (by decide +kernel) (by decide)), os_inc (n := 1) (by decide +kernel) (by decide +kernel) (by decide), os_go (off := -42) (by decide +kernel) (by decide), os_al_n (j := 0) (by decide +kernel) rfl, os_get (idx := 22) (f := 3) (ci := 3) (C := "FunctionRows") (T := FR) (N := 7) (by decide +kernel) rfl (fun w h => tb_in (fiR w h)) (by decide) (tb_in lkR_22) glR3, os_al_n (j := 0) (by decide +kernel) rfl, os_get (idx := 11) (f := 0) (ci := 3) (C := "FunctionRows") (T := FR) (N := 7) (by decide +kernel) rfl (fun w h => tb_in (fiR w h)) (by decide) (tb_in lkR_11) glR0, os_il_n (j := 1) (by decide +kernel) rfl, os_aald (t0 := 2) (by decide +kernel) rfl cce4, os_get (idx := 112) (f := 2) (ci := 1) (C := "FunctionRows$Expression") (T := FE) (N := 10) (by decide +kernel) rfl (fun w h => tb_in (fiE w h)) (by decide) (tb_in lkR_112) glE2, os_callv hE (pc := 136) (idx := 115) (ci := 0) (by decide +kernel) rfl crc1 (cwT_v cV_copy inV mlR_115 imV_copy seV_copy (by decide +kernel) (by decide)), os_al_n (j := 0) (by decide +kernel) rfl, os_get (idx := 22) (f := 3) (ci := 3) (C := "FunctionRows") (T := FR) (N := 7) (by decide +kernel) rfl (fun w h => tb_in (fiR w h)) (by decide) (tb_in lkR_22) glR3, os_get (idx := 119) (f := 0) (ci := 0) (C := "FunctionRows$Value") (T := FV) (N := 5) (by decide +kernel) rfl (fun w h => tb_in (fiV w h)) (by decide) (tb_in lkR_119) glV0, os_reti hE (by decide +kernel) rfl⟩
end
section
/-! THE REFERENCE'S STATE: its numbers (tapeSize, many, pattern, at, bad, over), its arrays of ints (tape, what, operands, saidTags, kinds, tags, used), of bytes (saidBytes, bytes), of longs (said, numbers). -/
abbrev mG : Type := (Nat → Int32) × (Nat → Nat → Int32) × (Nat → Nat → Int32) × (Nat → Nat → Int64)
def mV : Nat → Nat → Prop
  | 0, i => i = 0
  | 1, i => i < 7
  | 2, i => i < 2
  | 3, i => i < 2
  | _, _ => False
def mOf : Nat → Nat → Nat
  | 0, _ => 0
  | 1, 0 => 1
  | 1, 1 => 2
  | 1, 2 => 4
  | 1, 3 => 5
  | 1, 4 => 7
  | 1, 5 => 9
  | 1, 6 => 11
  | 2, 0 => 6
  | 2, 1 => 10
  | 3, 0 => 3
  | 3, 1 => 8
  | _, _ => 0
def mLa (a k i : Nat) : Nat := a + mOf k i
def mA (a : Nat) : Nat → Prop := fun q => a ≤ q ∧ q < a + 12
def mWh : Nat → Nat × Nat
  | 0 => (0, 0)
  | 1 => (1, 0)
  | 2 => (1, 1)
  | 3 => (3, 0)
  | 4 => (1, 2)
  | 5 => (1, 3)
  | 6 => (2, 0)
  | 7 => (1, 4)
  | 8 => (3, 1)
  | 9 => (1, 5)
  | 10 => (2, 1)
  | _ => (1, 6)
theorem mWh_of : ∀ k i, mV k i → mWh (mOf k i) = (k, i) ∧ mOf k i < 12
  | 0, 0, _ => ⟨rfl, by decide⟩
  | 0, n + 1, h => absurd (show n + 1 = 0 from h) (by omega)
  | 1, 0, _ => ⟨rfl, by decide⟩
  | 1, 1, _ => ⟨rfl, by decide⟩
  | 1, 2, _ => ⟨rfl, by decide⟩
  | 1, 3, _ => ⟨rfl, by decide⟩
  | 1, 4, _ => ⟨rfl, by decide⟩
  | 1, 5, _ => ⟨rfl, by decide⟩
  | 1, 6, _ => ⟨rfl, by decide⟩
  | 1, n + 7, h => absurd (show n + 7 < 7 from h) (by omega)
  | 2, 0, _ => ⟨rfl, by decide⟩
  | 2, 1, _ => ⟨rfl, by decide⟩
  | 2, n + 2, h => absurd (show n + 2 < 2 from h) (by omega)
  | 3, 0, _ => ⟨rfl, by decide⟩
  | 3, 1, _ => ⟨rfl, by decide⟩
  | 3, n + 2, h => absurd (show n + 2 < 2 from h) (by omega)
  | n + 4, _, h => h.elim
theorem mLa_in (a k i : Nat) (h : mV k i) : mA a (mLa a k i) := by
  have h3 := (mWh_of k i h).2
  unfold mA mLa
  omega
theorem mLa_inj (a k i k' i' : Nat) (h : mV k i) (h' : mV k' i') (e : mLa a k i = mLa a k' i') : k = k' ∧ i = i' := by
  have e2 : mOf k i = mOf k' i' := by unfold mLa at e; omega
  have h1 := (mWh_of k i h).1
  rw [e2, (mWh_of k' i' h').1] at h1
  cases h1
  exact ⟨rfl, rfl⟩
def miN : Nat → Nat
  | 0 => 48
  | 1 => 80
  | 2 => 240
  | 3 => 80
  | 4 => 90
  | 5 => 90
  | 6 => 80
  | _ => 0
def mbN : Nat → Nat
  | 0 => 1920
  | _ => 2160
def mlN : Nat → Nat
  | 0 => 80
  | _ => 90
abbrev mQ : Type := ClassId × ClassId × ClassId
abbrev mTys (q : mQ) : List (ClassId × FieldType) := [(q.1, .byte), (q.2.1, .int), (q.2.2, .long)]
def m_ce (a : Nat) (q : mQ) (g : mG) : Nat → Nat → va_E
  | 0, _ => .inr (4, [.int (g.1 0), .ref (mLa a 1 0), .int (g.1 1), .ref (mLa a 1 1), .ref (mLa a 3 0), .ref (mLa a 1 2), .ref (mLa a 1 3), .ref (mLa a 2 0), .ref (mLa a 1 4), .ref (mLa a 3 1), .ref (mLa a 1 5), .ref (mLa a 2 1), .int (g.1 2), .int (g.1 3), .int (g.1 4), .int (g.1 5), .ref (mLa a 1 6)])
  | 1, i => .inl (q.2.1, miN i, .inl (g.2.1 i))
  | 2, i => .inl (q.1, mbN i, .inl (g.2.2.1 i))
  | 3, i => .inl (q.2.2, mlN i, .inr (.inl (g.2.2.2 i)))
  | _, _ => .inl (q.1, 0, .inl (fun _ => 0))
def m_ok (_ : mG) : Prop := True
abbrev mEnv : Type := Launch × va_G × mQ × Nat
def m_ex (_ : State) (_ : Heap) : Prop := True
abbrev mHold (E : mEnv) : State → mG → Heap → Prop := qm_hold E.2.1 tcl (mTys E.2.2.1) (mLa E.2.2.2) mV (m_ce E.2.2.2 E.2.2.1) m_ok m_ex
abbrev mK (E : mEnv) (R : Room) (cc : ByteArray) (nL : Nat) (own : String) (Ts : List Cond) (ret : Option FieldType) : Nat → Nat → qm_op mG → Prop := qm_K (mLa E.2.2.2) mV (mHold E) (mA E.2.2.2) E.1 R cc nL own Ts ret
abbrev mSd (E : mEnv) (mt : MethodName × List Cond × Room) : List qm_v → mG → Option qm_v → mG → Prop := qm_Sd (mLa E.2.2.2) mV (mHold E) (mA E.2.2.2) E.1 mt
theorem mOk (E : mEnv) : qm_sys (mLa E.2.2.2) mV m_ex (mA E.2.2.2) := ⟨mLa_inj _, mLa_in _, fun _ _ _ _ _ => trivial, fun _ _ _ _ _ => trivial⟩
theorem me_uN {a : Nat} {q : mQ} {g : mG} {x : Nat → Int32} (k j : Nat) (hv : mV k j) (h : k ≠ 0 ∨ j ≠ 0) : m_ce a q (x, g.2) k j = m_ce a q g k j := by
  match k, h, hv with
  | 0, h, hv => exact absurd hv (h.resolve_left (fun z => z rfl))
  | 1, _, _ => rfl
  | 2, _, _ => rfl
  | 3, _, _ => rfl
  | n + 4, _, _ => rfl
theorem me_uI {a : Nat} {q : mQ} {g : mG} {i : Nat} {x : Nat → Int32} (k j : Nat) (h : k ≠ 1 ∨ j ≠ i) : m_ce a q (g.1, va_up g.2.1 i x, g.2.2) k j = m_ce a q g k j := by
  match k, h with
  | 0, _ => rfl
  | 1, h =>
    have hj : j ≠ i := h.resolve_left (fun z => z rfl)
    simp only [m_ce, va_up_ne _ _ hj]
  | 2, _ => rfl
  | 3, _ => rfl
  | n + 4, _ => rfl
theorem me_uB {a : Nat} {q : mQ} {g : mG} {i : Nat} {x : Nat → Int32} (k j : Nat) (h : k ≠ 2 ∨ j ≠ i) : m_ce a q (g.1, g.2.1, va_up g.2.2.1 i x, g.2.2.2) k j = m_ce a q g k j := by
  match k, h with
  | 0, _ => rfl
  | 1, _ => rfl
  | 2, h =>
    have hj : j ≠ i := h.resolve_left (fun z => z rfl)
    simp only [m_ce, va_up_ne _ _ hj]
  | 3, _ => rfl
  | n + 4, _ => rfl
theorem me_uL {a : Nat} {q : mQ} {g : mG} {i : Nat} {x : Nat → Int64} (k j : Nat) (h : k ≠ 3 ∨ j ≠ i) : m_ce a q (g.1, g.2.1, g.2.2.1, va_up g.2.2.2 i x) k j = m_ce a q g k j := by
  match k, h with
  | 0, _ => rfl
  | 1, _ => rfl
  | 2, _ => rfl
  | 3, h =>
    have hj : j ≠ i := h.resolve_left (fun z => z rfl)
    simp only [m_ce, va_up_ne _ _ hj]
  | n + 4, _ => rfl
def miL (_ : mG) (i : Nat) : Nat := miN i
def miR (g : mG) (i : Nat) : Nat → Int32 := g.2.1 i
def miW (g : mG) (i j : Nat) (v : Int32) : mG := (g.1, va_up g.2.1 i (upd (g.2.1 i) j v), g.2.2)
def mbL (_ : mG) (i : Nat) : Nat := mbN i
def mbR (g : mG) (i : Nat) : Nat → Int32 := g.2.2.1 i
def mbW (g : mG) (i j : Nat) (v : Int32) : mG := (g.1, g.2.1, va_up g.2.2.1 i (upd (g.2.2.1 i) j v.toInt8.toInt32), g.2.2.2)
def mlL (_ : mG) (i : Nat) : Nat := mlN i
def mlR (g : mG) (i : Nat) : Nat → Int64 := g.2.2.2 i
def mlW (g : mG) (i j : Nat) (v : Int64) : mG := (g.1, g.2.1, g.2.2.1, va_up g.2.2.2 i (vp_updL (g.2.2.2 i) j v))
theorem mceI {a : Nat} {q : mQ} (g : mG) (i : Nat) (_ : mV 1 i) : m_ce a q g 1 i = .inl (q.2.1, miL g i, .inl (miR g i)) := rfl
theorem mceB {a : Nat} {q : mQ} (g : mG) (i : Nat) (_ : mV 2 i) : m_ce a q g 2 i = .inl (q.1, mbL g i, .inl (mbR g i)) := rfl
theorem mceL {a : Nat} {q : mQ} (g : mG) (i : Nat) (_ : mV 3 i) : m_ce a q g 3 i = .inl (q.2.2, mlL g i, .inr (.inl (mlR g i))) := rfl
theorem mwrI (g : mG) (i j : Nat) (v : Int32) (_ : mV 1 i) : miL (miW g i j v) i = miL g i ∧ miR (miW g i j v) i = upd (miR g i) j v := ⟨rfl, by show va_up _ i _ i = _; rw [va_up_self]; rfl⟩
theorem mwrB (g : mG) (i j : Nat) (v : Int32) (_ : mV 2 i) : mbL (mbW g i j v) i = mbL g i ∧ mbR (mbW g i j v) i = upd (mbR g i) j v.toInt8.toInt32 := ⟨rfl, by show va_up _ i _ i = _; rw [va_up_self]; rfl⟩
theorem mwrL (g : mG) (i j : Nat) (v : Int64) (_ : mV 3 i) : mlL (mlW g i j v) i = mlL g i ∧ mlR (mlW g i j v) i = vp_updL (mlR g i) j v := ⟨rfl, by show va_up _ i _ i = _; rw [va_up_self]; rfl⟩
theorem mokI {a : Nat} {q : mQ} (g : mG) (i j : Nat) (v : Int32) (_ : mV 1 i) (h : m_ok g) : m_ok (miW g i j v) ∧ ∀ k j2, mV k j2 → (k ≠ 1 ∨ j2 ≠ i) → m_ce a q (miW g i j v) k j2 = m_ce a q g k j2 := ⟨h, fun k j2 _ hne => me_uI k j2 hne⟩
theorem mokB {a : Nat} {q : mQ} (g : mG) (i j : Nat) (v : Int32) (_ : mV 2 i) (h : m_ok g) : m_ok (mbW g i j v) ∧ ∀ k j2, mV k j2 → (k ≠ 2 ∨ j2 ≠ i) → m_ce a q (mbW g i j v) k j2 = m_ce a q g k j2 := ⟨h, fun k j2 _ hne => me_uB k j2 hne⟩
theorem mokL {a : Nat} {q : mQ} (g : mG) (i j : Nat) (v : Int64) (_ : mV 3 i) (h : m_ok g) : m_ok (mlW g i j v) ∧ ∀ k j2, mV k j2 → (k ≠ 3 ∨ j2 ≠ i) → m_ce a q (mlW g i j v) k j2 = m_ce a q g k j2 := ⟨h, fun k j2 _ hne => me_uL k j2 hne⟩
theorem mrc {a : Nat} {q : mQ} (g : mG) (i : Nat) (_ : mV 0 i) (_ : m_ok g) : ∃ fs, m_ce a q g 0 i = .inr (4, fs) := ⟨_, rfl⟩
def rdM0 (g : mG) (_ : Nat) : qm_v := qI (g.1 0)
theorem glM0 {a : Nat} {q : mQ} (g : mG) (i : Nat) (_ : mV 0 i) (_ : m_ok g) : ∃ fs, m_ce a q g 0 i = .inr (4, fs) ∧ fs[0]? = some (qm_cv (mLa a) (rdM0 g i)) ∧ qm_ok mV (rdM0 g i) := ⟨_, rfl, rfl, trivial⟩
def wrM0 (g : mG) (_ : Nat) (v : qm_v) : Option (List Prop × mG) := match v with
  | .inl x => some ([], (va_up g.1 0 x, g.2))
  | _ => none
theorem plM0 {a : Nat} {q : mQ} (g : mG) (i : Nat) (v : qm_v) (cs : List Prop) (g' : mG) (hV : mV 0 i) (hk : m_ok g) (hv : qm_ok mV v) (h : wrM0 g i v = some (cs, g')) (hc : qm_all cs) : m_ok g' ∧ (∃ fs, m_ce a q g 0 i = .inr (4, fs) ∧ 0 < fs.length ∧ m_ce a q g' 0 i = .inr (4, fs.set 0 (qm_cv (mLa a) v))) ∧ (∀ k j, mV k j → (k ≠ 0 ∨ j ≠ i) → m_ce a q g' k j = m_ce a q g k j) ∧ narrow .int (qm_cv (mLa a) v) = qm_cv (mLa a) v ∧ fits .int (qm_cv (mLa a) v) = true := by
  rcases v with x | x | x
  case inl =>
    cases h
    refine ⟨hk, ⟨_, rfl, Nat.le_of_ble_eq_true rfl, ?_⟩, ?_, rfl, rfl⟩
    · rfl
    · exact fun k j hv hne => me_uN k j hv (by rw [show i = 0 from hV] at hne; exact hne)
  all_goals cases h
def rdM1 (_ : mG) (_ : Nat) : qm_v := qR 1 0
theorem glM1 {a : Nat} {q : mQ} (g : mG) (i : Nat) (_ : mV 0 i) (_ : m_ok g) : ∃ fs, m_ce a q g 0 i = .inr (4, fs) ∧ fs[1]? = some (qm_cv (mLa a) (rdM1 g i)) ∧ qm_ok mV (rdM1 g i) := ⟨_, rfl, rfl, (show 0 < 7 by decide)⟩
def rdM2 (g : mG) (_ : Nat) : qm_v := qI (g.1 1)
theorem glM2 {a : Nat} {q : mQ} (g : mG) (i : Nat) (_ : mV 0 i) (_ : m_ok g) : ∃ fs, m_ce a q g 0 i = .inr (4, fs) ∧ fs[2]? = some (qm_cv (mLa a) (rdM2 g i)) ∧ qm_ok mV (rdM2 g i) := ⟨_, rfl, rfl, trivial⟩
def wrM2 (g : mG) (_ : Nat) (v : qm_v) : Option (List Prop × mG) := match v with
  | .inl x => some ([], (va_up g.1 1 x, g.2))
  | _ => none
theorem plM2 {a : Nat} {q : mQ} (g : mG) (i : Nat) (v : qm_v) (cs : List Prop) (g' : mG) (hV : mV 0 i) (hk : m_ok g) (hv : qm_ok mV v) (h : wrM2 g i v = some (cs, g')) (hc : qm_all cs) : m_ok g' ∧ (∃ fs, m_ce a q g 0 i = .inr (4, fs) ∧ 2 < fs.length ∧ m_ce a q g' 0 i = .inr (4, fs.set 2 (qm_cv (mLa a) v))) ∧ (∀ k j, mV k j → (k ≠ 0 ∨ j ≠ i) → m_ce a q g' k j = m_ce a q g k j) ∧ narrow .int (qm_cv (mLa a) v) = qm_cv (mLa a) v ∧ fits .int (qm_cv (mLa a) v) = true := by
  rcases v with x | x | x
  case inl =>
    cases h
    refine ⟨hk, ⟨_, rfl, Nat.le_of_ble_eq_true rfl, ?_⟩, ?_, rfl, rfl⟩
    · rfl
    · exact fun k j hv hne => me_uN k j hv (by rw [show i = 0 from hV] at hne; exact hne)
  all_goals cases h
def rdM3 (_ : mG) (_ : Nat) : qm_v := qR 1 1
theorem glM3 {a : Nat} {q : mQ} (g : mG) (i : Nat) (_ : mV 0 i) (_ : m_ok g) : ∃ fs, m_ce a q g 0 i = .inr (4, fs) ∧ fs[3]? = some (qm_cv (mLa a) (rdM3 g i)) ∧ qm_ok mV (rdM3 g i) := ⟨_, rfl, rfl, (show 1 < 7 by decide)⟩
def rdM4 (_ : mG) (_ : Nat) : qm_v := qR 3 0
theorem glM4 {a : Nat} {q : mQ} (g : mG) (i : Nat) (_ : mV 0 i) (_ : m_ok g) : ∃ fs, m_ce a q g 0 i = .inr (4, fs) ∧ fs[4]? = some (qm_cv (mLa a) (rdM4 g i)) ∧ qm_ok mV (rdM4 g i) := ⟨_, rfl, rfl, (show 0 < 2 by decide)⟩
def rdM5 (_ : mG) (_ : Nat) : qm_v := qR 1 2
theorem glM5 {a : Nat} {q : mQ} (g : mG) (i : Nat) (_ : mV 0 i) (_ : m_ok g) : ∃ fs, m_ce a q g 0 i = .inr (4, fs) ∧ fs[5]? = some (qm_cv (mLa a) (rdM5 g i)) ∧ qm_ok mV (rdM5 g i) := ⟨_, rfl, rfl, (show 2 < 7 by decide)⟩
def rdM6 (_ : mG) (_ : Nat) : qm_v := qR 1 3
theorem glM6 {a : Nat} {q : mQ} (g : mG) (i : Nat) (_ : mV 0 i) (_ : m_ok g) : ∃ fs, m_ce a q g 0 i = .inr (4, fs) ∧ fs[6]? = some (qm_cv (mLa a) (rdM6 g i)) ∧ qm_ok mV (rdM6 g i) := ⟨_, rfl, rfl, (show 3 < 7 by decide)⟩
def rdM7 (_ : mG) (_ : Nat) : qm_v := qR 2 0
theorem glM7 {a : Nat} {q : mQ} (g : mG) (i : Nat) (_ : mV 0 i) (_ : m_ok g) : ∃ fs, m_ce a q g 0 i = .inr (4, fs) ∧ fs[7]? = some (qm_cv (mLa a) (rdM7 g i)) ∧ qm_ok mV (rdM7 g i) := ⟨_, rfl, rfl, (show 0 < 2 by decide)⟩
def rdM8 (_ : mG) (_ : Nat) : qm_v := qR 1 4
theorem glM8 {a : Nat} {q : mQ} (g : mG) (i : Nat) (_ : mV 0 i) (_ : m_ok g) : ∃ fs, m_ce a q g 0 i = .inr (4, fs) ∧ fs[8]? = some (qm_cv (mLa a) (rdM8 g i)) ∧ qm_ok mV (rdM8 g i) := ⟨_, rfl, rfl, (show 4 < 7 by decide)⟩
def rdM9 (_ : mG) (_ : Nat) : qm_v := qR 3 1
theorem glM9 {a : Nat} {q : mQ} (g : mG) (i : Nat) (_ : mV 0 i) (_ : m_ok g) : ∃ fs, m_ce a q g 0 i = .inr (4, fs) ∧ fs[9]? = some (qm_cv (mLa a) (rdM9 g i)) ∧ qm_ok mV (rdM9 g i) := ⟨_, rfl, rfl, (show 1 < 2 by decide)⟩
def rdM10 (_ : mG) (_ : Nat) : qm_v := qR 1 5
theorem glM10 {a : Nat} {q : mQ} (g : mG) (i : Nat) (_ : mV 0 i) (_ : m_ok g) : ∃ fs, m_ce a q g 0 i = .inr (4, fs) ∧ fs[10]? = some (qm_cv (mLa a) (rdM10 g i)) ∧ qm_ok mV (rdM10 g i) := ⟨_, rfl, rfl, (show 5 < 7 by decide)⟩
def rdM11 (_ : mG) (_ : Nat) : qm_v := qR 2 1
theorem glM11 {a : Nat} {q : mQ} (g : mG) (i : Nat) (_ : mV 0 i) (_ : m_ok g) : ∃ fs, m_ce a q g 0 i = .inr (4, fs) ∧ fs[11]? = some (qm_cv (mLa a) (rdM11 g i)) ∧ qm_ok mV (rdM11 g i) := ⟨_, rfl, rfl, (show 1 < 2 by decide)⟩
def rdM12 (g : mG) (_ : Nat) : qm_v := qI (g.1 2)
theorem glM12 {a : Nat} {q : mQ} (g : mG) (i : Nat) (_ : mV 0 i) (_ : m_ok g) : ∃ fs, m_ce a q g 0 i = .inr (4, fs) ∧ fs[12]? = some (qm_cv (mLa a) (rdM12 g i)) ∧ qm_ok mV (rdM12 g i) := ⟨_, rfl, rfl, trivial⟩
def wrM12 (g : mG) (_ : Nat) (v : qm_v) : Option (List Prop × mG) := match v with
  | .inl x => some ([], (va_up g.1 2 x, g.2))
  | _ => none
theorem plM12 {a : Nat} {q : mQ} (g : mG) (i : Nat) (v : qm_v) (cs : List Prop) (g' : mG) (hV : mV 0 i) (hk : m_ok g) (hv : qm_ok mV v) (h : wrM12 g i v = some (cs, g')) (hc : qm_all cs) : m_ok g' ∧ (∃ fs, m_ce a q g 0 i = .inr (4, fs) ∧ 12 < fs.length ∧ m_ce a q g' 0 i = .inr (4, fs.set 12 (qm_cv (mLa a) v))) ∧ (∀ k j, mV k j → (k ≠ 0 ∨ j ≠ i) → m_ce a q g' k j = m_ce a q g k j) ∧ narrow .int (qm_cv (mLa a) v) = qm_cv (mLa a) v ∧ fits .int (qm_cv (mLa a) v) = true := by
  rcases v with x | x | x
  case inl =>
    cases h
    refine ⟨hk, ⟨_, rfl, Nat.le_of_ble_eq_true rfl, ?_⟩, ?_, rfl, rfl⟩
    · rfl
    · exact fun k j hv hne => me_uN k j hv (by rw [show i = 0 from hV] at hne; exact hne)
  all_goals cases h
def rdM13 (g : mG) (_ : Nat) : qm_v := qI (g.1 3)
theorem glM13 {a : Nat} {q : mQ} (g : mG) (i : Nat) (_ : mV 0 i) (_ : m_ok g) : ∃ fs, m_ce a q g 0 i = .inr (4, fs) ∧ fs[13]? = some (qm_cv (mLa a) (rdM13 g i)) ∧ qm_ok mV (rdM13 g i) := ⟨_, rfl, rfl, trivial⟩
def wrM13 (g : mG) (_ : Nat) (v : qm_v) : Option (List Prop × mG) := match v with
  | .inl x => some ([], (va_up g.1 3 x, g.2))
  | _ => none
theorem plM13 {a : Nat} {q : mQ} (g : mG) (i : Nat) (v : qm_v) (cs : List Prop) (g' : mG) (hV : mV 0 i) (hk : m_ok g) (hv : qm_ok mV v) (h : wrM13 g i v = some (cs, g')) (hc : qm_all cs) : m_ok g' ∧ (∃ fs, m_ce a q g 0 i = .inr (4, fs) ∧ 13 < fs.length ∧ m_ce a q g' 0 i = .inr (4, fs.set 13 (qm_cv (mLa a) v))) ∧ (∀ k j, mV k j → (k ≠ 0 ∨ j ≠ i) → m_ce a q g' k j = m_ce a q g k j) ∧ narrow .int (qm_cv (mLa a) v) = qm_cv (mLa a) v ∧ fits .int (qm_cv (mLa a) v) = true := by
  rcases v with x | x | x
  case inl =>
    cases h
    refine ⟨hk, ⟨_, rfl, Nat.le_of_ble_eq_true rfl, ?_⟩, ?_, rfl, rfl⟩
    · rfl
    · exact fun k j hv hne => me_uN k j hv (by rw [show i = 0 from hV] at hne; exact hne)
  all_goals cases h
def rdM14 (g : mG) (_ : Nat) : qm_v := qI (g.1 4)
theorem glM14 {a : Nat} {q : mQ} (g : mG) (i : Nat) (_ : mV 0 i) (_ : m_ok g) : ∃ fs, m_ce a q g 0 i = .inr (4, fs) ∧ fs[14]? = some (qm_cv (mLa a) (rdM14 g i)) ∧ qm_ok mV (rdM14 g i) := ⟨_, rfl, rfl, trivial⟩
def wrM14 (g : mG) (_ : Nat) (v : qm_v) : Option (List Prop × mG) := match v with
  | .inl x => some ([x = 0 ∨ x = 1], (va_up g.1 4 x, g.2))
  | _ => none
theorem plM14 {a : Nat} {q : mQ} (g : mG) (i : Nat) (v : qm_v) (cs : List Prop) (g' : mG) (hV : mV 0 i) (hk : m_ok g) (hv : qm_ok mV v) (h : wrM14 g i v = some (cs, g')) (hc : qm_all cs) : m_ok g' ∧ (∃ fs, m_ce a q g 0 i = .inr (4, fs) ∧ 14 < fs.length ∧ m_ce a q g' 0 i = .inr (4, fs.set 14 (qm_cv (mLa a) v))) ∧ (∀ k j, mV k j → (k ≠ 0 ∨ j ≠ i) → m_ce a q g' k j = m_ce a q g k j) ∧ narrow .boolean (qm_cv (mLa a) v) = qm_cv (mLa a) v ∧ fits .boolean (qm_cv (mLa a) v) = true := by
  rcases v with x | x | x
  case inl =>
    cases h
    refine ⟨hk, ⟨_, rfl, Nat.le_of_ble_eq_true rfl, ?_⟩, ?_, (show narrow .boolean (.int x) = .int x from by rcases (show x = 0 ∨ x = 1 from hc) with rfl | rfl <;> decide +kernel), (show fits .boolean (.int x) = true from by rcases (show x = 0 ∨ x = 1 from hc) with rfl | rfl <;> decide +kernel)⟩
    · rfl
    · exact fun k j hv hne => me_uN k j hv (by rw [show i = 0 from hV] at hne; exact hne)
  all_goals cases h
def rdM15 (g : mG) (_ : Nat) : qm_v := qI (g.1 5)
theorem glM15 {a : Nat} {q : mQ} (g : mG) (i : Nat) (_ : mV 0 i) (_ : m_ok g) : ∃ fs, m_ce a q g 0 i = .inr (4, fs) ∧ fs[15]? = some (qm_cv (mLa a) (rdM15 g i)) ∧ qm_ok mV (rdM15 g i) := ⟨_, rfl, rfl, trivial⟩
def wrM15 (g : mG) (_ : Nat) (v : qm_v) : Option (List Prop × mG) := match v with
  | .inl x => some ([], (va_up g.1 5 x, g.2))
  | _ => none
theorem plM15 {a : Nat} {q : mQ} (g : mG) (i : Nat) (v : qm_v) (cs : List Prop) (g' : mG) (hV : mV 0 i) (hk : m_ok g) (hv : qm_ok mV v) (h : wrM15 g i v = some (cs, g')) (hc : qm_all cs) : m_ok g' ∧ (∃ fs, m_ce a q g 0 i = .inr (4, fs) ∧ 15 < fs.length ∧ m_ce a q g' 0 i = .inr (4, fs.set 15 (qm_cv (mLa a) v))) ∧ (∀ k j, mV k j → (k ≠ 0 ∨ j ≠ i) → m_ce a q g' k j = m_ce a q g k j) ∧ narrow .int (qm_cv (mLa a) v) = qm_cv (mLa a) v ∧ fits .int (qm_cv (mLa a) v) = true := by
  rcases v with x | x | x
  case inl =>
    cases h
    refine ⟨hk, ⟨_, rfl, Nat.le_of_ble_eq_true rfl, ?_⟩, ?_, rfl, rfl⟩
    · rfl
    · exact fun k j hv hne => me_uN k j hv (by rw [show i = 0 from hV] at hne; exact hne)
  all_goals cases h
def rdM16 (_ : mG) (_ : Nat) : qm_v := qR 1 6
theorem glM16 {a : Nat} {q : mQ} (g : mG) (i : Nat) (_ : mV 0 i) (_ : m_ok g) : ∃ fs, m_ce a q g 0 i = .inr (4, fs) ∧ fs[16]? = some (qm_cv (mLa a) (rdM16 g i)) ∧ qm_ok mV (rdM16 g i) := ⟨_, rfl, rfl, (show 6 < 7 by decide)⟩
end
section
/-! the reference: its methods, words -/
abbrev mM_init : MethodName × List Cond × Room := (yM_init, wsT yM_init prog_10_method_1_code 1 none, rmL 1)
abbrev mM_in : MethodName × List Cond × Room := (yM_in, wsT yM_in prog_10_method_3_code 6 (some .boolean), rmL 1)
abbrev mM_type : MethodName × List Cond × Room := (yM_type, wsT yM_type prog_10_method_4_code 6 (some .int), rmL 2)
abbrev mM_add : MethodName × List Cond × Room := (yM_add, wsT yM_add prog_10_method_5_code 4 (some .int), rmL 1)
abbrev mM_text : MethodName × List Cond × Room := (yM_text, wsT yM_text prog_10_method_6_code 5 (some .int), rmL 2)
abbrev mM_whole : MethodName × List Cond × Room := (yM_whole, wsT yM_whole prog_10_method_7_code 3 (some .int), rmL 2)
abbrev mM_leaf : MethodName × List Cond × Room := (yM_leaf, wsT yM_leaf prog_10_method_8_code 4 (some .int), rmL 2)
abbrev mM_isExpression : MethodName × List Cond × Room := (yM_isExpression, wsT yM_isExpression prog_10_method_9_code 2 (some .boolean), rmL 2)
abbrev mM_arity : MethodName × List Cond × Room := (yM_arity, wsT yM_arity prog_10_method_10_code 1 (some .int), rmL 1)
abbrev mM_takes : MethodName × List Cond × Room := (yM_takes, wsT yM_takes prog_10_method_11_code 2 (some .int), rmL 2)
abbrev mM_call : MethodName × List Cond × Room := (yM_call, wsT yM_call prog_10_method_12_code 7 (some .int), rmL 3)
abbrev mM_copy : MethodName × List Cond × Room := (yM_copy, wsT yM_copy prog_10_method_13_code 4 none, rmL 1)
abbrev mM_set : MethodName × List Cond × Room := (yM_set, wsT yM_set prog_10_method_14_code 5 none, rmL 1)
abbrev mM_setTruth : MethodName × List Cond × Room := (yM_setTruth, wsT yM_setTruth prog_10_method_15_code 3 none, rmL 2)
abbrev mM_setWhole : MethodName × List Cond × Room := (yM_setWhole, wsT yM_setWhole prog_10_method_16_code 4 none, rmL 2)
abbrev mM_truth : MethodName × List Cond × Room := (yM_truth, wsT yM_truth prog_10_method_17_code 2 (some .int), rmL 1)
abbrev mM_length : MethodName × List Cond × Room := (yM_length, wsT yM_length prog_10_method_18_code 2 (some .int), rmL 1)
abbrev mM_byteAt : MethodName × List Cond × Room := (yM_byteAt, wsT yM_byteAt prog_10_method_19_code 3 (some .int), rmL 1)
abbrev mM_setPart : MethodName × List Cond × Room := (yM_setPart, wsT yM_setPart prog_10_method_20_code 8 none, rmL 2)
abbrev mM_say : MethodName × List Cond × Room := (yM_say, wsT yM_say prog_10_method_21_code 3 none, rmL 1)
abbrev mM_sayNumber : MethodName × List Cond × Room := (yM_sayNumber, wsT yM_sayNumber prog_10_method_22_code 8 none, rmL 2)
abbrev mM_sayAll : MethodName × List Cond × Room := (yM_sayAll, wsT yM_sayAll prog_10_method_23_code 4 none, rmL 2)
abbrev mM_same : MethodName × List Cond × Room := (yM_same, wsT yM_same prog_10_method_24_code 5 (some .int), rmL 2)
abbrev mM_less : MethodName × List Cond × Room := (yM_less, wsT yM_less prog_10_method_25_code 6 (some .int), rmL 2)
abbrev mM_stands : MethodName × List Cond × Room := (yM_stands, wsT yM_stands prog_10_method_26_code 6 (some .boolean), rmL 2)
abbrev mM_placeOf : MethodName × List Cond × Room := (yM_placeOf, wsT yM_placeOf prog_10_method_27_code 5 (some .int), rmL 3)
abbrev mM_reckon : MethodName × List Cond × Room := (yM_reckon, wsT yM_reckon prog_10_method_28_code 6 none, rmL 111)
abbrev mM_truths : MethodName × List Cond × Room := (yM_truths, wsT yM_truths prog_10_method_29_code 7 none, rmL 3)
abbrev mM_arithmetic : MethodName × List Cond × Room := (yM_arithmetic, wsT yM_arithmetic prog_10_method_30_code 11 none, rmL 3)
abbrev mM_texts : MethodName × List Cond × Room := (yM_texts, wsT yM_texts prog_10_method_31_code 10 none, rmL 3)
abbrev mM_places : MethodName × List Cond × Room := (yM_places, wsT yM_places prog_10_method_32_code 6 none, rmL 4)
abbrev mM_others : MethodName × List Cond × Room := (yM_others, wsT yM_others prog_10_method_33_code 7 none, rmL 4)
abbrev mM_asNumber : MethodName × List Cond × Room := (yM_asNumber, wsT yM_asNumber prog_10_method_34_code 9 none, rmL 2)
abbrev mM_words : MethodName × List Cond × Room := (yM_words, wsT yM_words prog_10_method_35_code 4 none, rmL 3)
abbrev mM_last : MethodName × List Cond × Room := (yM_last, wsT yM_last prog_10_method_36_code 8 none, rmL 110)
abbrev mM_goes : MethodName × List Cond × Room := (yM_goes, wsT yM_goes prog_10_method_37_code 5 none, rmL 109)
abbrev mM_here : MethodName × List Cond × Room := (yM_here, wsT yM_here prog_10_method_38_code 1 (some .int), rmL 2)
abbrev mM_alternatives (v : Nat) : MethodName × List Cond × Room := (yM_alternatives, wsT yM_alternatives prog_10_method_39_code 3 (some .int), rmL v)
abbrev mM_pieces (v : Nat) : MethodName × List Cond × Room := (yM_pieces, wsT yM_pieces prog_10_method_40_code 3 (some .int), rmL v)
abbrev mM_piece (v : Nat) : MethodName × List Cond × Room := (yM_piece, wsT yM_piece prog_10_method_41_code 9 (some .int), rmL v)
abbrev mM_step : MethodName × List Cond × Room := (yM_step, wsT yM_step prog_10_method_42_code 6 (some .int), rmL 2)
abbrev mM_atom (v : Nat) : MethodName × List Cond × Room := (yM_atom, wsT yM_atom prog_10_method_43_code 5 (some .int), rmL v)
abbrev mM_isItem : MethodName × List Cond × Room := (yM_isItem, wsT yM_isItem prog_10_method_44_code 2 (some .boolean), rmL 3)
abbrev mM_items : MethodName × List Cond × Room := (yM_items, wsT yM_items prog_10_method_45_code 7 (some .int), rmL 4)
abbrev mM_run : MethodName × List Cond × Room := (yM_run, wsT yM_run prog_10_method_46_code 3 (some .int), rmL 112)
abbrev mM_number : MethodName × List Cond × Room := (yM_number, wsT yM_number prog_10_method_47_code 1 (some .long), rmL 1)
abbrev mM_tag : MethodName × List Cond × Room := (yM_tag, wsT yM_tag prog_10_method_48_code 1 (some .int), rmL 1)
abbrev mM_letter : MethodName × List Cond × Room := (yM_letter, wsT yM_letter prog_10_method_49_code 2 (some .int), rmL 2)
abbrev mM_give : MethodName × List Cond × Room := (yM_give, wsT yM_give prog_10_method_50_code 2 (some .int), rmL 2)
abbrev mM_drop : MethodName × List Cond × Room := (yM_drop, wsT yM_drop prog_10_method_51_code 3 (some .int), rmL 2)
abbrev mM_uses : MethodName × List Cond × Room := (yM_uses, wsT yM_uses prog_10_method_52_code 4 (some .int), rmL 3)
abbrev mM_depth : MethodName × List Cond × Room := (yM_depth, wsT yM_depth prog_10_method_53_code 4 (some .int), rmL 3)
abbrev mM_clear : MethodName × List Cond × Room := (yM_clear, wsT yM_clear prog_10_method_54_code 2 (some .int), rmL 1)
abbrev mM_size : MethodName × List Cond × Room := (yM_size, wsT yM_size prog_10_method_55_code 1 (some .int), rmL 1)
theorem klM_92 : Cond.constantLong "FunctionRowsModel" 92 (24) ∈ gw_tbl := tb_T4 (i := 51) (by decide +kernel) (by decide +kernel)
theorem klM_241 : Cond.constantLong "FunctionRowsModel" 241 (-2) ∈ gw_tbl := tb_T4 (i := 132) (by decide +kernel) (by decide +kernel)
theorem klM_45 : Cond.constantLong "FunctionRowsModel" 45 (8) ∈ gw_tbl := tb_T3 (i := 177) (by decide +kernel) (by decide +kernel)
theorem inM : Cond.initialized "FunctionRowsModel" ∈ gw_tbl := tb_T1 (i := 5) (by decide +kernel) (by decide +kernel)
theorem mlM_47 : Cond.methodLink "FunctionRowsModel" 47 yM_in ∈ gw_tbl := tb_T3 (i := 178) rfl rfl
theorem stM_in : Cond.static yM_in ∈ gw_tbl := tb_T3 (i := 179) rfl rfl
theorem klM_51 : Cond.constantLong "FunctionRowsModel" 51 (255) ∈ gw_tbl := tb_T3 (i := 181) (by decide +kernel) (by decide +kernel)
theorem klM_53 : Cond.constantLong "FunctionRowsModel" 53 (32) ∈ gw_tbl := tb_T3 (i := 182) (by decide +kernel) (by decide +kernel)
theorem klM_55 : Cond.constantLong "FunctionRowsModel" 55 (126) ∈ gw_tbl := tb_T3 (i := 183) (by decide +kernel) (by decide +kernel)
theorem klM_64 : Cond.constantLong "FunctionRowsModel" 64 (26) ∈ gw_tbl := tb_T3 (i := 188) (by decide +kernel) (by decide +kernel)
theorem mlM_66 : Cond.methodLink "FunctionRowsModel" 66 yM_add ∈ gw_tbl := tb_T3 (i := 189) rfl rfl
theorem imM_add : Cond.instanceMethod yM_add ∈ gw_tbl := tb_T3 (i := 191) rfl rfl
theorem seM_add : Cond.selects "FunctionRowsModel" yM_add yM_add ∈ gw_tbl := tb_S (i := 15) rfl rfl
theorem klM_70 : Cond.constantLong "FunctionRowsModel" 70 (-1000000000000000) ∈ gw_tbl := tb_T3 (i := 197) (by decide +kernel) (by decide +kernel)
theorem klM_72 : Cond.constantLong "FunctionRowsModel" 72 (1000000000000000) ∈ gw_tbl := tb_T3 (i := 198) (by decide +kernel) (by decide +kernel)
theorem klM_74 : Cond.constantLong "FunctionRowsModel" 74 (999) ∈ gw_tbl := tb_T3 (i := 203) (by decide +kernel) (by decide +kernel)
theorem klM_76 : Cond.constantLong "FunctionRowsModel" 76 (7) ∈ gw_tbl := tb_T3 (i := 204) (by decide +kernel) (by decide +kernel)
theorem klM_78 : Cond.constantLong "FunctionRowsModel" 78 (29) ∈ gw_tbl := tb_T3 (i := 209) (by decide +kernel) (by decide +kernel)
theorem mlM_80 : Cond.methodLink "FunctionRowsModel" 80 yM_arity ∈ gw_tbl := tb_T3 (i := 210) rfl rfl
theorem stM_arity : Cond.static yM_arity ∈ gw_tbl := tb_T3 (i := 211) rfl rfl
theorem mlM_88 : Cond.methodLink "FunctionRowsModel" 88 yM_set ∈ gw_tbl := tb_T3 (i := 233) rfl rfl
theorem imM_set : Cond.instanceMethod yM_set ∈ gw_tbl := tb_T3 (i := 235) rfl rfl
theorem seM_set : Cond.selects "FunctionRowsModel" yM_set yM_set ∈ gw_tbl := tb_S (i := 19) rfl rfl
theorem mlM_94 : Cond.methodLink "FunctionRowsModel" 94 yM_say ∈ gw_tbl := tb_T4 (i := 47) rfl rfl
theorem imM_say : Cond.instanceMethod yM_say ∈ gw_tbl := tb_T4 (i := 49) rfl rfl
theorem seM_say : Cond.selects "FunctionRowsModel" yM_say yM_say ∈ gw_tbl := tb_S (i := 32) rfl rfl
theorem klM_98 : Cond.constantLong "FunctionRowsModel" 98 (10) ∈ gw_tbl := tb_T4 (i := 79) (by decide +kernel) (by decide +kernel)
theorem mlM_100 : Cond.methodLink "FunctionRowsModel" 100 yM_length ∈ gw_tbl := tb_T4 (i := 13) rfl rfl
theorem imM_length : Cond.instanceMethod yM_length ∈ gw_tbl := tb_T4 (i := 15) rfl rfl
theorem seM_length : Cond.selects "FunctionRowsModel" yM_length yM_length ∈ gw_tbl := tb_S (i := 24) rfl rfl
theorem mlM_103 : Cond.methodLink "FunctionRowsModel" 103 yM_byteAt ∈ gw_tbl := tb_T4 (i := 17) rfl rfl
theorem imM_byteAt : Cond.instanceMethod yM_byteAt ∈ gw_tbl := tb_T4 (i := 19) rfl rfl
theorem seM_byteAt : Cond.selects "FunctionRowsModel" yM_byteAt yM_byteAt ∈ gw_tbl := tb_S (i := 25) rfl rfl
theorem klM_184 : Cond.constantLong "FunctionRowsModel" 184 (15) ∈ gw_tbl := tb_T4 (i := 76) (by decide +kernel) (by decide +kernel)
theorem klM_186 : Cond.constantLong "FunctionRowsModel" 186 (48) ∈ gw_tbl := tb_T4 (i := 77) (by decide +kernel) (by decide +kernel)
theorem klM_188 : Cond.constantLong "FunctionRowsModel" 188 (57) ∈ gw_tbl := tb_T4 (i := 78) (by decide +kernel) (by decide +kernel)
theorem mlM_111 : Cond.methodLink "FunctionRowsModel" 111 yM_copy ∈ gw_tbl := tb_T3 (i := 229) rfl rfl
theorem imM_copy : Cond.instanceMethod yM_copy ∈ gw_tbl := tb_T3 (i := 231) rfl rfl
theorem seM_copy : Cond.selects "FunctionRowsModel" yM_copy yM_copy ∈ gw_tbl := tb_S (i := 18) rfl rfl
theorem mlM_84 : Cond.methodLink "FunctionRowsModel" 84 yM_isExpression ∈ gw_tbl := tb_T3 (i := 217) rfl rfl
theorem imM_isExpression : Cond.instanceMethod yM_isExpression ∈ gw_tbl := tb_T3 (i := 219) rfl rfl
theorem seM_isExpression : Cond.selects "FunctionRowsModel" yM_isExpression yM_isExpression ∈ gw_tbl := tb_S (i := 16) rfl rfl
theorem mlM_107 : Cond.methodLink "FunctionRowsModel" 107 yM_stands ∈ gw_tbl := tb_T4 (i := 64) rfl rfl
theorem imM_stands : Cond.instanceMethod yM_stands ∈ gw_tbl := tb_T4 (i := 66) rfl rfl
theorem seM_stands : Cond.selects "FunctionRowsModel" yM_stands yM_stands ∈ gw_tbl := tb_S (i := 35) rfl rfl
theorem mlM_135 : Cond.methodLink "FunctionRowsModel" 135 yM_truth ∈ gw_tbl := tb_T4 (i := 1) rfl rfl
theorem imM_truth : Cond.instanceMethod yM_truth ∈ gw_tbl := tb_T4 (i := 3) rfl rfl
theorem seM_truth : Cond.selects "FunctionRowsModel" yM_truth yM_truth ∈ gw_tbl := tb_S (i := 21) rfl rfl
theorem mlM_138 : Cond.methodLink "FunctionRowsModel" 138 yM_setTruth ∈ gw_tbl := tb_T4 (i := 5) rfl rfl
theorem imM_setTruth : Cond.instanceMethod yM_setTruth ∈ gw_tbl := tb_T4 (i := 7) rfl rfl
theorem seM_setTruth : Cond.selects "FunctionRowsModel" yM_setTruth yM_setTruth ∈ gw_tbl := tb_S (i := 22) rfl rfl
theorem mlM_141 : Cond.methodLink "FunctionRowsModel" 141 yM_same ∈ gw_tbl := tb_T4 (i := 9) rfl rfl
theorem imM_same : Cond.instanceMethod yM_same ∈ gw_tbl := tb_T4 (i := 11) rfl rfl
theorem seM_same : Cond.selects "FunctionRowsModel" yM_same yM_same ∈ gw_tbl := tb_S (i := 23) rfl rfl
theorem mlM_144 : Cond.methodLink "FunctionRowsModel" 144 yM_less ∈ gw_tbl := tb_T4 (i := 21) rfl rfl
theorem imM_less : Cond.instanceMethod yM_less ∈ gw_tbl := tb_T4 (i := 23) rfl rfl
theorem seM_less : Cond.selects "FunctionRowsModel" yM_less yM_less ∈ gw_tbl := tb_S (i := 26) rfl rfl
theorem mlM_147 : Cond.methodLink "FunctionRowsModel" 147 yM_setWhole ∈ gw_tbl := tb_T4 (i := 29) rfl rfl
theorem imM_setWhole : Cond.instanceMethod yM_setWhole ∈ gw_tbl := tb_T4 (i := 31) rfl rfl
theorem seM_setWhole : Cond.selects "FunctionRowsModel" yM_setWhole yM_setWhole ∈ gw_tbl := tb_S (i := 28) rfl rfl
theorem mlM_151 : Cond.methodLink "FunctionRowsModel" 151 Lib.MathLoose.max_long.x ∈ gw_tbl := tb_T4 (i := 37) rfl rfl
theorem mlM_157 : Cond.methodLink "FunctionRowsModel" 157 Lib.MathLoose.min_long.x ∈ gw_tbl := tb_T4 (i := 38) rfl rfl
theorem mlM_160 : Cond.methodLink "FunctionRowsModel" 160 yM_setPart ∈ gw_tbl := tb_T4 (i := 39) rfl rfl
theorem imM_setPart : Cond.instanceMethod yM_setPart ∈ gw_tbl := tb_T4 (i := 41) rfl rfl
theorem seM_setPart : Cond.selects "FunctionRowsModel" yM_setPart yM_setPart ∈ gw_tbl := tb_S (i := 30) rfl rfl
theorem mlM_163 : Cond.methodLink "FunctionRowsModel" 163 yM_sayAll ∈ gw_tbl := tb_T4 (i := 43) rfl rfl
theorem imM_sayAll : Cond.instanceMethod yM_sayAll ∈ gw_tbl := tb_T4 (i := 45) rfl rfl
theorem seM_sayAll : Cond.selects "FunctionRowsModel" yM_sayAll yM_sayAll ∈ gw_tbl := tb_S (i := 31) rfl rfl
theorem klM_166 : Cond.constantLong "FunctionRowsModel" 166 (97) ∈ gw_tbl := tb_T4 (i := 52) (by decide +kernel) (by decide +kernel)
theorem klM_168 : Cond.constantLong "FunctionRowsModel" 168 (122) ∈ gw_tbl := tb_T4 (i := 53) (by decide +kernel) (by decide +kernel)
theorem klM_170 : Cond.constantLong "FunctionRowsModel" 170 (65) ∈ gw_tbl := tb_T4 (i := 54) (by decide +kernel) (by decide +kernel)
theorem klM_172 : Cond.constantLong "FunctionRowsModel" 172 (90) ∈ gw_tbl := tb_T4 (i := 55) (by decide +kernel) (by decide +kernel)
theorem mlM_190 : Cond.methodLink "FunctionRowsModel" 190 yM_sayNumber ∈ gw_tbl := tb_T4 (i := 84) rfl rfl
theorem imM_sayNumber : Cond.instanceMethod yM_sayNumber ∈ gw_tbl := tb_T4 (i := 86) rfl rfl
theorem seM_sayNumber : Cond.selects "FunctionRowsModel" yM_sayNumber yM_sayNumber ∈ gw_tbl := tb_S (i := 39) rfl rfl
theorem mlM_216 : Cond.methodLink "FunctionRowsModel" 216 yM_here ∈ gw_tbl := tb_T4 (i := 104) rfl rfl
theorem imM_here : Cond.instanceMethod yM_here ∈ gw_tbl := tb_T4 (i := 106) rfl rfl
theorem seM_here : Cond.selects "FunctionRowsModel" yM_here yM_here ∈ gw_tbl := tb_S (i := 44) rfl rfl
theorem mlM_243 : Cond.methodLink "FunctionRowsModel" 243 Lib.Math.max.name ∈ gw_tbl := tb_T4 (i := 157) rfl rfl
theorem mlM_174 : Cond.methodLink "FunctionRowsModel" 174 yM_placeOf ∈ gw_tbl := tb_T4 (i := 60) rfl rfl
theorem imM_placeOf : Cond.instanceMethod yM_placeOf ∈ gw_tbl := tb_T4 (i := 62) rfl rfl
theorem seM_placeOf : Cond.selects "FunctionRowsModel" yM_placeOf yM_placeOf ∈ gw_tbl := tb_S (i := 34) rfl rfl
theorem mlM_178 : Cond.methodLink "FunctionRowsModel" 178 yM_asNumber ∈ gw_tbl := tb_T4 (i := 72) rfl rfl
theorem imM_asNumber : Cond.instanceMethod yM_asNumber ∈ gw_tbl := tb_T4 (i := 74) rfl rfl
theorem seM_asNumber : Cond.selects "FunctionRowsModel" yM_asNumber yM_asNumber ∈ gw_tbl := tb_S (i := 37) rfl rfl
theorem mlM_181 : Cond.methodLink "FunctionRowsModel" 181 yM_words ∈ gw_tbl := tb_T4 (i := 80) rfl rfl
theorem imM_words : Cond.instanceMethod yM_words ∈ gw_tbl := tb_T4 (i := 82) rfl rfl
theorem seM_words : Cond.selects "FunctionRowsModel" yM_words yM_words ∈ gw_tbl := tb_S (i := 38) rfl rfl
theorem mlM_233 : Cond.methodLink "FunctionRowsModel" 233 yM_isItem ∈ gw_tbl := tb_T4 (i := 124) rfl rfl
theorem imM_isItem : Cond.instanceMethod yM_isItem ∈ gw_tbl := tb_T4 (i := 126) rfl rfl
theorem seM_isItem : Cond.selects "FunctionRowsModel" yM_isItem yM_isItem ∈ gw_tbl := tb_S (i := 49) rfl rfl
theorem mlM_226 : Cond.methodLink "FunctionRowsModel" 226 yM_step ∈ gw_tbl := tb_T4 (i := 116) rfl rfl
theorem imM_step : Cond.instanceMethod yM_step ∈ gw_tbl := tb_T4 (i := 118) rfl rfl
theorem seM_step : Cond.selects "FunctionRowsModel" yM_step yM_step ∈ gw_tbl := tb_S (i := 47) rfl rfl
theorem mlM_213 : Cond.methodLink "FunctionRowsModel" 213 yM_pieces ∈ gw_tbl := tb_T4 (i := 100) rfl rfl
theorem imM_pieces : Cond.instanceMethod yM_pieces ∈ gw_tbl := tb_T4 (i := 102) rfl rfl
theorem seM_pieces : Cond.selects "FunctionRowsModel" yM_pieces yM_pieces ∈ gw_tbl := tb_S (i := 43) rfl rfl
theorem mlM_220 : Cond.methodLink "FunctionRowsModel" 220 yM_piece ∈ gw_tbl := tb_T4 (i := 108) rfl rfl
theorem imM_piece : Cond.instanceMethod yM_piece ∈ gw_tbl := tb_T4 (i := 110) rfl rfl
theorem seM_piece : Cond.selects "FunctionRowsModel" yM_piece yM_piece ∈ gw_tbl := tb_S (i := 45) rfl rfl
theorem mlM_223 : Cond.methodLink "FunctionRowsModel" 223 yM_atom ∈ gw_tbl := tb_T4 (i := 112) rfl rfl
theorem imM_atom : Cond.instanceMethod yM_atom ∈ gw_tbl := tb_T4 (i := 114) rfl rfl
theorem seM_atom : Cond.selects "FunctionRowsModel" yM_atom yM_atom ∈ gw_tbl := tb_S (i := 46) rfl rfl
theorem mlM_210 : Cond.methodLink "FunctionRowsModel" 210 yM_alternatives ∈ gw_tbl := tb_T4 (i := 96) rfl rfl
theorem imM_alternatives : Cond.instanceMethod yM_alternatives ∈ gw_tbl := tb_T4 (i := 98) rfl rfl
theorem seM_alternatives : Cond.selects "FunctionRowsModel" yM_alternatives yM_alternatives ∈ gw_tbl := tb_S (i := 42) rfl rfl
theorem mlM_230 : Cond.methodLink "FunctionRowsModel" 230 yM_items ∈ gw_tbl := tb_T4 (i := 120) rfl rfl
theorem imM_items : Cond.instanceMethod yM_items ∈ gw_tbl := tb_T4 (i := 122) rfl rfl
theorem seM_items : Cond.selects "FunctionRowsModel" yM_items yM_items ∈ gw_tbl := tb_S (i := 48) rfl rfl
theorem mlM_193 : Cond.methodLink "FunctionRowsModel" 193 yM_goes ∈ gw_tbl := tb_T4 (i := 92) rfl rfl
theorem imM_goes : Cond.instanceMethod yM_goes ∈ gw_tbl := tb_T4 (i := 94) rfl rfl
theorem seM_goes : Cond.selects "FunctionRowsModel" yM_goes yM_goes ∈ gw_tbl := tb_S (i := 41) rfl rfl
theorem mlM_114 : Cond.methodLink "FunctionRowsModel" 114 yM_truths ∈ gw_tbl := tb_T3 (i := 237) rfl rfl
theorem imM_truths : Cond.instanceMethod yM_truths ∈ gw_tbl := tb_T3 (i := 239) rfl rfl
theorem seM_truths : Cond.selects "FunctionRowsModel" yM_truths yM_truths ∈ gw_tbl := tb_S (i := 20) rfl rfl
theorem mlM_118 : Cond.methodLink "FunctionRowsModel" 118 yM_arithmetic ∈ gw_tbl := tb_T4 (i := 25) rfl rfl
theorem imM_arithmetic : Cond.instanceMethod yM_arithmetic ∈ gw_tbl := tb_T4 (i := 27) rfl rfl
theorem seM_arithmetic : Cond.selects "FunctionRowsModel" yM_arithmetic yM_arithmetic ∈ gw_tbl := tb_S (i := 27) rfl rfl
theorem mlM_122 : Cond.methodLink "FunctionRowsModel" 122 yM_texts ∈ gw_tbl := tb_T4 (i := 33) rfl rfl
theorem imM_texts : Cond.instanceMethod yM_texts ∈ gw_tbl := tb_T4 (i := 35) rfl rfl
theorem seM_texts : Cond.selects "FunctionRowsModel" yM_texts yM_texts ∈ gw_tbl := tb_S (i := 29) rfl rfl
theorem mlM_126 : Cond.methodLink "FunctionRowsModel" 126 yM_places ∈ gw_tbl := tb_T4 (i := 56) rfl rfl
theorem imM_places : Cond.instanceMethod yM_places ∈ gw_tbl := tb_T4 (i := 58) rfl rfl
theorem seM_places : Cond.selects "FunctionRowsModel" yM_places yM_places ∈ gw_tbl := tb_S (i := 33) rfl rfl
theorem mlM_129 : Cond.methodLink "FunctionRowsModel" 129 yM_others ∈ gw_tbl := tb_T4 (i := 68) rfl rfl
theorem imM_others : Cond.instanceMethod yM_others ∈ gw_tbl := tb_T4 (i := 70) rfl rfl
theorem seM_others : Cond.selects "FunctionRowsModel" yM_others yM_others ∈ gw_tbl := tb_S (i := 36) rfl rfl
theorem mlM_132 : Cond.methodLink "FunctionRowsModel" 132 yM_last ∈ gw_tbl := tb_T4 (i := 88) rfl rfl
theorem imM_last : Cond.instanceMethod yM_last ∈ gw_tbl := tb_T4 (i := 90) rfl rfl
theorem seM_last : Cond.selects "FunctionRowsModel" yM_last yM_last ∈ gw_tbl := tb_S (i := 40) rfl rfl
theorem mlM_237 : Cond.methodLink "FunctionRowsModel" 237 yM_reckon ∈ gw_tbl := tb_T3 (i := 225) rfl rfl
theorem imM_reckon : Cond.instanceMethod yM_reckon ∈ gw_tbl := tb_T3 (i := 227) rfl rfl
theorem seM_reckon : Cond.selects "FunctionRowsModel" yM_reckon yM_reckon ∈ gw_tbl := tb_S (i := 17) rfl rfl
end
section
/-! the reference: its code, and that the code is right -/
def kM_in (P : MethodName × List Cond × Room → List qm_v → mG → Option qm_v → mG → Prop) : List (Nat × qm_op mG) := [(0, o_ll 0), (1, o_ll 2), (2, o_lclt 17), (6, o_ll 0), (7, o_ll 4), (9, o_lcgt 17), (13, o_ic (1)), (14, o_go 18), (17, o_ic (0)), (18, o_retz)]
set_option maxRecDepth 20000 in
theorem sM_in (E : mEnv) : qm_cok (mK E (rmL 1) prog_10_method_3_code 6 "FunctionRowsModel" (wsT yM_in prog_10_method_3_code 6 (some .boolean)) (some .boolean)) (kM_in (mSd E)) := have hE := mOk E
  ⟨os_ll_n (j := 0) (by decide +kernel) rfl, os_ll_n (j := 2) (by decide +kernel) rfl, os_lclt (off := 14) (by decide +kernel) (by decide +kernel) (by decide), os_ll_n (j := 0) (by decide +kernel) rfl, os_ll (by decide +kernel), os_lcgt (off := 7) (by decide +kernel) (by decide +kernel) (by decide), os_iconst (n := 1) (by decide +kernel) (by decide +kernel), os_go (off := 4) (by decide +kernel) (by decide), os_iconst (n := 0) (by decide +kernel) (by decide +kernel), os_retz hE (by decide +kernel) rfl⟩
def kM_add (P : MethodName × List Cond × Room → List qm_v → mG → Option qm_v → mG → Prop) : List (Nat × qm_op mG) := [(0, o_al 0), (1, o_get 0 rdM2), (4, o_ic (80)), (6, o_icne 12), (9, o_ic (-3)), (11, o_reti), (12, o_al 0), (13, o_get 0 rdM3), (16, o_al 0), (17, o_get 0 rdM2), (20, o_il 1), (21, o_ast 1 miL miW), (22, o_al 0), (23, o_get 0 rdM4), (26, o_al 0), (27, o_get 0 rdM2), (30, o_ll 2), (31, o_last 3 mlL mlW), (32, o_al 0), (33, o_get 0 rdM6), (36, o_al 0), (37, o_get 0 rdM2), (40, o_ic (0)), (41, o_ast 1 miL miW), (42, o_al 0), (43, o_stk f_dup), (44, o_get 0 rdM2), (47, o_ic (1)), (48, o_iadd), (49, o_put 0 wrM2), (52, o_al 0), (53, o_get 0 rdM2), (56, o_ic (1)), (57, o_isub), (58, o_reti)]
set_option maxRecDepth 20000 in
theorem sM_add (E : mEnv) : qm_cok (mK E (rmL 1) prog_10_method_5_code 4 "FunctionRowsModel" (wsT yM_add prog_10_method_5_code 4 (some .int)) (some .int)) (kM_add (mSd E)) := have hE := mOk E
  ⟨os_al_n (j := 0) (by decide +kernel) rfl, os_get (idx := 61) (f := 2) (ci := 4) (C := "FunctionRowsModel") (T := FM) (N := 17) (by decide +kernel) rfl (fun w h => tb_in (fiM w h)) (by decide) (tb_in lkM_61) glM2, os_bipush (n := 80) (by decide +kernel) (by decide +kernel), os_icne (off := 6) (by decide +kernel) (by decide), os_bipush (n := -3) (by decide +kernel) (by decide +kernel), os_reti hE (by decide +kernel) rfl, os_al_n (j := 0) (by decide +kernel) rfl, os_get (idx := 13) (f := 3) (ci := 4) (C := "FunctionRowsModel") (T := FM) (N := 17) (by decide +kernel) rfl (fun w h => tb_in (fiM w h)) (by decide) (tb_in lkM_13) glM3, os_al_n (j := 0) (by decide +kernel) rfl, os_get (idx := 61) (f := 2) (ci := 4) (C := "FunctionRowsModel") (T := FM) (N := 17) (by decide +kernel) rfl (fun w h => tb_in (fiM w h)) (by decide) (tb_in lkM_61) glM2, os_il_n (j := 1) (by decide +kernel) rfl, os_iast hE (t0 := 1) (by decide +kernel) rfl mceI mwrI mokI, os_al_n (j := 0) (by decide +kernel) rfl, os_get (idx := 16) (f := 4) (ci := 4) (C := "FunctionRowsModel") (T := FM) (N := 17) (by decide +kernel) rfl (fun w h => tb_in (fiM w h)) (by decide) (tb_in lkM_16) glM4, os_al_n (j := 0) (by decide +kernel) rfl, os_get (idx := 61) (f := 2) (ci := 4) (C := "FunctionRowsModel") (T := FM) (N := 17) (by decide +kernel) rfl (fun w h => tb_in (fiM w h)) (by decide) (tb_in lkM_61) glM2, os_ll_n (j := 2) (by decide +kernel) rfl, os_last hE (t0 := 2) (by decide +kernel) rfl mceL mwrL mokL, os_al_n (j := 0) (by decide +kernel) rfl, os_get (idx := 23) (f := 6) (ci := 4) (C := "FunctionRowsModel") (T := FM) (N := 17) (by decide +kernel) rfl (fun w h => tb_in (fiM w h)) (by decide) (tb_in lkM_23) glM6, os_al_n (j := 0) (by decide +kernel) rfl, os_get (idx := 61) (f := 2) (ci := 4) (C := "FunctionRowsModel") (T := FM) (N := 17) (by decide +kernel) rfl (fun w h => tb_in (fiM w h)) (by decide) (tb_in lkM_61) glM2, os_iconst (n := 0) (by decide +kernel) (by decide +kernel), os_iast hE (t0 := 1) (by decide +kernel) rfl mceI mwrI mokI, os_al_n (j := 0) (by decide +kernel) rfl, os_dup (by decide +kernel), os_get (idx := 61) (f := 2) (ci := 4) (C := "FunctionRowsModel") (T := FM) (N := 17) (by decide +kernel) rfl (fun w h => tb_in (fiM w h)) (by decide) (tb_in lkM_61) glM2, os_iconst (n := 1) (by decide +kernel) (by decide +kernel), os_iadd (by decide +kernel), os_put hE (idx := 61) (f := 2) (ci := 4) (C := "FunctionRowsModel") (T := FM) (N := 17) (ty0 := ftM) (by decide +kernel) rfl (fun w h => tb_in (fiM w h)) ftM_ok fnM (by decide) (tb_in lkM_61) rfl (by decide +kernel) plM2, os_al_n (j := 0) (by decide +kernel) rfl, os_get (idx := 61) (f := 2) (ci := 4) (C := "FunctionRowsModel") (T := FM) (N := 17) (by decide +kernel) rfl (fun w h => tb_in (fiM w h)) (by decide) (tb_in lkM_61) glM2, os_iconst (n := 1) (by decide +kernel) (by decide +kernel), os_isub (by decide +kernel), os_reti hE (by decide +kernel) rfl⟩
def kM_arity (P : MethodName × List Cond × Room → List qm_v → mG → Option qm_v → mG → Prop) : List (Nat × qm_op mG) := [(0, o_il 0), (1, o_sw [(0, 136), (10, 136), (11, 138), (12, 136), (13, 136), (20, 136), (21, 136), (22, 138), (24, 136), (25, 136), (26, 136), (28, 138), (29, 138)] 140), (136, o_ic (1)), (137, o_reti), (138, o_ic (3)), (139, o_reti), (140, o_ic (2)), (141, o_reti)]
set_option maxRecDepth 20000 in
theorem sM_arity (E : mEnv) : qm_cok (mK E (rmL 1) prog_10_method_10_code 1 "FunctionRowsModel" (wsT yM_arity prog_10_method_10_code 1 (some .int)) (some .int)) (kM_arity (mSd E)) := have hE := mOk E
  ⟨os_il_n (j := 0) (by decide +kernel) rfl, os_table (len := 135) (dflt := 139) (lo := 0) (hi := 29) (offs := #[135, 139, 139, 139, 139, 139, 139, 139, 139, 139, 135, 137, 135, 135, 139, 139, 139, 139, 139, 139, 135, 135, 137, 139, 135, 135, 135, 139, 137, 137]) (by decide +kernel) (by decide) (by decide) (by decide +kernel) (by decide +kernel), os_iconst (n := 1) (by decide +kernel) (by decide +kernel), os_reti hE (by decide +kernel) rfl, os_iconst (n := 3) (by decide +kernel) (by decide +kernel), os_reti hE (by decide +kernel) rfl, os_iconst (n := 2) (by decide +kernel) (by decide +kernel), os_reti hE (by decide +kernel) rfl⟩
def kM_copy (P : MethodName × List Cond × Room → List qm_v → mG → Option qm_v → mG → Prop) : List (Nat × qm_op mG) := [(0, o_al 0), (1, o_get 0 rdM8), (4, o_il 2), (5, o_al 0), (6, o_get 0 rdM8), (9, o_il 1), (10, o_ald 1 miL miR), (11, o_ast 1 miL miW), (12, o_al 0), (13, o_get 0 rdM9), (16, o_il 2), (17, o_al 0), (18, o_get 0 rdM9), (21, o_il 1), (22, o_lald 3 mlL mlR), (23, o_last 3 mlL mlW), (24, o_al 0), (25, o_get 0 rdM10), (28, o_il 2), (29, o_al 0), (30, o_get 0 rdM10), (33, o_il 1), (34, o_ald 1 miL miR), (35, o_ast 1 miL miW), (36, o_ic (0)), (37, o_is 3), (38, o_il 3), (39, o_ic (24)), (41, o_icge 72), (44, o_al 0), (45, o_get 0 rdM11), (48, o_ic (24)), (50, o_il 2), (51, o_imul), (52, o_il 3), (53, o_iadd), (54, o_al 0), (55, o_get 0 rdM11), (58, o_ic (24)), (60, o_il 1), (61, o_imul), (62, o_il 3), (63, o_iadd), (64, o_ald 2 mbL mbR), (65, o_ast 2 mbL mbW), (66, o_inc 3 (1)), (69, o_go 38), (72, o_ret0)]
set_option maxRecDepth 20000 in
theorem sM_copy (E : mEnv) : qm_cok (mK E (rmL 1) prog_10_method_13_code 4 "FunctionRowsModel" (wsT yM_copy prog_10_method_13_code 4 none) none) (kM_copy (mSd E)) := have hE := mOk E
  ⟨os_al_n (j := 0) (by decide +kernel) rfl, os_get (idx := 30) (f := 8) (ci := 4) (C := "FunctionRowsModel") (T := FM) (N := 17) (by decide +kernel) rfl (fun w h => tb_in (fiM w h)) (by decide) (tb_in lkM_30) glM8, os_il_n (j := 2) (by decide +kernel) rfl, os_al_n (j := 0) (by decide +kernel) rfl, os_get (idx := 30) (f := 8) (ci := 4) (C := "FunctionRowsModel") (T := FM) (N := 17) (by decide +kernel) rfl (fun w h => tb_in (fiM w h)) (by decide) (tb_in lkM_30) glM8, os_il_n (j := 1) (by decide +kernel) rfl, os_iald (t0 := 1) (by decide +kernel) rfl mceI, os_iast hE (t0 := 1) (by decide +kernel) rfl mceI mwrI mokI, os_al_n (j := 0) (by decide +kernel) rfl, os_get (idx := 33) (f := 9) (ci := 4) (C := "FunctionRowsModel") (T := FM) (N := 17) (by decide +kernel) rfl (fun w h => tb_in (fiM w h)) (by decide) (tb_in lkM_33) glM9, os_il_n (j := 2) (by decide +kernel) rfl, os_al_n (j := 0) (by decide +kernel) rfl, os_get (idx := 33) (f := 9) (ci := 4) (C := "FunctionRowsModel") (T := FM) (N := 17) (by decide +kernel) rfl (fun w h => tb_in (fiM w h)) (by decide) (tb_in lkM_33) glM9, os_il_n (j := 1) (by decide +kernel) rfl, os_lald (t0 := 2) (by decide +kernel) rfl mceL, os_last hE (t0 := 2) (by decide +kernel) rfl mceL mwrL mokL, os_al_n (j := 0) (by decide +kernel) rfl, os_get (idx := 36) (f := 10) (ci := 4) (C := "FunctionRowsModel") (T := FM) (N := 17) (by decide +kernel) rfl (fun w h => tb_in (fiM w h)) (by decide) (tb_in lkM_36) glM10, os_il_n (j := 2) (by decide +kernel) rfl, os_al_n (j := 0) (by decide +kernel) rfl, os_get (idx := 36) (f := 10) (ci := 4) (C := "FunctionRowsModel") (T := FM) (N := 17) (by decide +kernel) rfl (fun w h => tb_in (fiM w h)) (by decide) (tb_in lkM_36) glM10, os_il_n (j := 1) (by decide +kernel) rfl, os_iald (t0 := 1) (by decide +kernel) rfl mceI, os_iast hE (t0 := 1) (by decide +kernel) rfl mceI mwrI mokI, os_iconst (n := 0) (by decide +kernel) (by decide +kernel), os_is_n (j := 3) (by decide +kernel) rfl (by decide), os_il_n (j := 3) (by decide +kernel) rfl, os_bipush (n := 24) (by decide +kernel) (by decide +kernel), os_icge (off := 31) (by decide +kernel) (by decide), os_al_n (j := 0) (by decide +kernel) rfl, os_get (idx := 39) (f := 11) (ci := 4) (C := "FunctionRowsModel") (T := FM) (N := 17) (by decide +kernel) rfl (fun w h => tb_in (fiM w h)) (by decide) (tb_in lkM_39) glM11, os_bipush (n := 24) (by decide +kernel) (by decide +kernel), os_il_n (j := 2) (by decide +kernel) rfl, os_imul (by decide +kernel), os_il_n (j := 3) (by decide +kernel) rfl, os_iadd (by decide +kernel), os_al_n (j := 0) (by decide +kernel) rfl, os_get (idx := 39) (f := 11) (ci := 4) (C := "FunctionRowsModel") (T := FM) (N := 17) (by decide +kernel) rfl (fun w h => tb_in (fiM w h)) (by decide) (tb_in lkM_39) glM11, os_bipush (n := 24) (by decide +kernel) (by decide +kernel), os_il_n (j := 1) (by decide +kernel) rfl, os_imul (by decide +kernel), os_il_n (j := 3) (by decide +kernel) rfl, os_iadd (by decide +kernel), os_bald (t0 := 0) (by decide +kernel) rfl mceB, os_bast hE (t0 := 0) (by decide +kernel) rfl mceB mwrB mokB, os_inc (n := 1) (by decide +kernel) (by decide +kernel) (by decide), os_go (off := -31) (by decide +kernel) (by decide), os_ret0 hE (by decide +kernel) rfl⟩
def kM_set (P : MethodName × List Cond × Room → List qm_v → mG → Option qm_v → mG → Prop) : List (Nat × qm_op mG) := [(0, o_al 0), (1, o_get 0 rdM8), (4, o_il 1), (5, o_il 2), (6, o_ast 1 miL miW), (7, o_al 0), (8, o_get 0 rdM9), (11, o_il 1), (12, o_ll 3), (13, o_last 3 mlL mlW), (14, o_al 0), (15, o_get 0 rdM10), (18, o_il 1), (19, o_ic (0)), (20, o_ast 1 miL miW), (21, o_ret0)]
set_option maxRecDepth 20000 in
theorem sM_set (E : mEnv) : qm_cok (mK E (rmL 1) prog_10_method_14_code 5 "FunctionRowsModel" (wsT yM_set prog_10_method_14_code 5 none) none) (kM_set (mSd E)) := have hE := mOk E
  ⟨os_al_n (j := 0) (by decide +kernel) rfl, os_get (idx := 30) (f := 8) (ci := 4) (C := "FunctionRowsModel") (T := FM) (N := 17) (by decide +kernel) rfl (fun w h => tb_in (fiM w h)) (by decide) (tb_in lkM_30) glM8, os_il_n (j := 1) (by decide +kernel) rfl, os_il_n (j := 2) (by decide +kernel) rfl, os_iast hE (t0 := 1) (by decide +kernel) rfl mceI mwrI mokI, os_al_n (j := 0) (by decide +kernel) rfl, os_get (idx := 33) (f := 9) (ci := 4) (C := "FunctionRowsModel") (T := FM) (N := 17) (by decide +kernel) rfl (fun w h => tb_in (fiM w h)) (by decide) (tb_in lkM_33) glM9, os_il_n (j := 1) (by decide +kernel) rfl, os_ll_n (j := 3) (by decide +kernel) rfl, os_last hE (t0 := 2) (by decide +kernel) rfl mceL mwrL mokL, os_al_n (j := 0) (by decide +kernel) rfl, os_get (idx := 36) (f := 10) (ci := 4) (C := "FunctionRowsModel") (T := FM) (N := 17) (by decide +kernel) rfl (fun w h => tb_in (fiM w h)) (by decide) (tb_in lkM_36) glM10, os_il_n (j := 1) (by decide +kernel) rfl, os_iconst (n := 0) (by decide +kernel) (by decide +kernel), os_iast hE (t0 := 1) (by decide +kernel) rfl mceI mwrI mokI, os_ret0 hE (by decide +kernel) rfl⟩
def kM_truth (P : MethodName × List Cond × Room → List qm_v → mG → Option qm_v → mG → Prop) : List (Nat × qm_op mG) := [(0, o_al 0), (1, o_get 0 rdM8), (4, o_il 1), (5, o_ald 1 miL miR), (6, o_ic (1)), (7, o_icne 20), (10, o_al 0), (11, o_get 0 rdM9), (14, o_il 1), (15, o_lald 3 mlL mlR), (16, o_l2i), (17, o_go 79), (20, o_al 0), (21, o_get 0 rdM8), (24, o_il 1), (25, o_ald 1 miL miR), (26, o_ic (2)), (27, o_icne 49), (30, o_al 0), (31, o_get 0 rdM9), (34, o_il 1), (35, o_lald 3 mlL mlR), (36, o_lc 0), (37, o_lceq 45), (41, o_ic (1)), (42, o_go 79), (45, o_ic (0)), (46, o_go 79), (49, o_al 0), (50, o_get 0 rdM8), (53, o_il 1), (54, o_ald 1 miL miR), (55, o_ic (3)), (56, o_icne 78), (59, o_al 0), (60, o_get 0 rdM9), (63, o_il 1), (64, o_lald 3 mlL mlR), (65, o_lc 0), (66, o_lcle 74), (70, o_ic (1)), (71, o_go 79), (74, o_ic (0)), (75, o_go 79), (78, o_ic (-1)), (79, o_reti)]
set_option maxRecDepth 20000 in
theorem sM_truth (E : mEnv) : qm_cok (mK E (rmL 1) prog_10_method_17_code 2 "FunctionRowsModel" (wsT yM_truth prog_10_method_17_code 2 (some .int)) (some .int)) (kM_truth (mSd E)) := have hE := mOk E
  ⟨os_al_n (j := 0) (by decide +kernel) rfl, os_get (idx := 30) (f := 8) (ci := 4) (C := "FunctionRowsModel") (T := FM) (N := 17) (by decide +kernel) rfl (fun w h => tb_in (fiM w h)) (by decide) (tb_in lkM_30) glM8, os_il_n (j := 1) (by decide +kernel) rfl, os_iald (t0 := 1) (by decide +kernel) rfl mceI, os_iconst (n := 1) (by decide +kernel) (by decide +kernel), os_icne (off := 13) (by decide +kernel) (by decide), os_al_n (j := 0) (by decide +kernel) rfl, os_get (idx := 33) (f := 9) (ci := 4) (C := "FunctionRowsModel") (T := FM) (N := 17) (by decide +kernel) rfl (fun w h => tb_in (fiM w h)) (by decide) (tb_in lkM_33) glM9, os_il_n (j := 1) (by decide +kernel) rfl, os_lald (t0 := 2) (by decide +kernel) rfl mceL, os_l2i (by decide +kernel), os_go (off := 62) (by decide +kernel) (by decide), os_al_n (j := 0) (by decide +kernel) rfl, os_get (idx := 30) (f := 8) (ci := 4) (C := "FunctionRowsModel") (T := FM) (N := 17) (by decide +kernel) rfl (fun w h => tb_in (fiM w h)) (by decide) (tb_in lkM_30) glM8, os_il_n (j := 1) (by decide +kernel) rfl, os_iald (t0 := 1) (by decide +kernel) rfl mceI, os_iconst (n := 2) (by decide +kernel) (by decide +kernel), os_icne (off := 22) (by decide +kernel) (by decide), os_al_n (j := 0) (by decide +kernel) rfl, os_get (idx := 33) (f := 9) (ci := 4) (C := "FunctionRowsModel") (T := FM) (N := 17) (by decide +kernel) rfl (fun w h => tb_in (fiM w h)) (by decide) (tb_in lkM_33) glM9, os_il_n (j := 1) (by decide +kernel) rfl, os_lald (t0 := 2) (by decide +kernel) rfl mceL, os_lconst (n := 0) (by decide +kernel) (by decide +kernel), os_lceq (off := 7) (by decide +kernel) (by decide +kernel) (by decide), os_iconst (n := 1) (by decide +kernel) (by decide +kernel), os_go (off := 37) (by decide +kernel) (by decide), os_iconst (n := 0) (by decide +kernel) (by decide +kernel), os_go (off := 33) (by decide +kernel) (by decide), os_al_n (j := 0) (by decide +kernel) rfl, os_get (idx := 30) (f := 8) (ci := 4) (C := "FunctionRowsModel") (T := FM) (N := 17) (by decide +kernel) rfl (fun w h => tb_in (fiM w h)) (by decide) (tb_in lkM_30) glM8, os_il_n (j := 1) (by decide +kernel) rfl, os_iald (t0 := 1) (by decide +kernel) rfl mceI, os_iconst (n := 3) (by decide +kernel) (by decide +kernel), os_icne (off := 22) (by decide +kernel) (by decide), os_al_n (j := 0) (by decide +kernel) rfl, os_get (idx := 33) (f := 9) (ci := 4) (C := "FunctionRowsModel") (T := FM) (N := 17) (by decide +kernel) rfl (fun w h => tb_in (fiM w h)) (by decide) (tb_in lkM_33) glM9, os_il_n (j := 1) (by decide +kernel) rfl, os_lald (t0 := 2) (by decide +kernel) rfl mceL, os_lconst (n := 0) (by decide +kernel) (by decide +kernel), os_lcle (off := 7) (by decide +kernel) (by decide +kernel) (by decide), os_iconst (n := 1) (by decide +kernel) (by decide +kernel), os_go (off := 8) (by decide +kernel) (by decide), os_iconst (n := 0) (by decide +kernel) (by decide +kernel), os_go (off := 4) (by decide +kernel) (by decide), os_iconst (n := -1) (by decide +kernel) (by decide +kernel), os_reti hE (by decide +kernel) rfl⟩
def kM_length (P : MethodName × List Cond × Room → List qm_v → mG → Option qm_v → mG → Prop) : List (Nat × qm_op mG) := [(0, o_al 0), (1, o_get 0 rdM9), (4, o_il 1), (5, o_lald 3 mlL mlR), (6, o_l2i), (7, o_reti)]
set_option maxRecDepth 20000 in
theorem sM_length (E : mEnv) : qm_cok (mK E (rmL 1) prog_10_method_18_code 2 "FunctionRowsModel" (wsT yM_length prog_10_method_18_code 2 (some .int)) (some .int)) (kM_length (mSd E)) := have hE := mOk E
  ⟨os_al_n (j := 0) (by decide +kernel) rfl, os_get (idx := 33) (f := 9) (ci := 4) (C := "FunctionRowsModel") (T := FM) (N := 17) (by decide +kernel) rfl (fun w h => tb_in (fiM w h)) (by decide) (tb_in lkM_33) glM9, os_il_n (j := 1) (by decide +kernel) rfl, os_lald (t0 := 2) (by decide +kernel) rfl mceL, os_l2i (by decide +kernel), os_reti hE (by decide +kernel) rfl⟩
def kM_byteAt (P : MethodName × List Cond × Room → List qm_v → mG → Option qm_v → mG → Prop) : List (Nat × qm_op mG) := [(0, o_al 0), (1, o_get 0 rdM11), (4, o_ic (24)), (6, o_il 1), (7, o_imul), (8, o_il 2), (9, o_iadd), (10, o_ald 2 mbL mbR), (11, o_reti)]
set_option maxRecDepth 20000 in
theorem sM_byteAt (E : mEnv) : qm_cok (mK E (rmL 1) prog_10_method_19_code 3 "FunctionRowsModel" (wsT yM_byteAt prog_10_method_19_code 3 (some .int)) (some .int)) (kM_byteAt (mSd E)) := have hE := mOk E
  ⟨os_al_n (j := 0) (by decide +kernel) rfl, os_get (idx := 39) (f := 11) (ci := 4) (C := "FunctionRowsModel") (T := FM) (N := 17) (by decide +kernel) rfl (fun w h => tb_in (fiM w h)) (by decide) (tb_in lkM_39) glM11, os_bipush (n := 24) (by decide +kernel) (by decide +kernel), os_il_n (j := 1) (by decide +kernel) rfl, os_imul (by decide +kernel), os_il_n (j := 2) (by decide +kernel) rfl, os_iadd (by decide +kernel), os_bald (t0 := 0) (by decide +kernel) rfl mceB, os_reti hE (by decide +kernel) rfl⟩
def kM_say (P : MethodName × List Cond × Room → List qm_v → mG → Option qm_v → mG → Prop) : List (Nat × qm_op mG) := [(0, o_al 0), (1, o_get 0 rdM8), (4, o_il 1), (5, o_ald 1 miL miR), (6, o_ic (3)), (7, o_icne 23), (10, o_al 0), (11, o_get 0 rdM9), (14, o_il 1), (15, o_lald 3 mlL mlR), (16, o_lc (24)), (19, o_lcne 31), (23, o_al 0), (24, o_get 0 rdM8), (27, o_il 1), (28, o_ic (0)), (29, o_ast 1 miL miW), (30, o_ret0), (31, o_al 0), (32, o_get 0 rdM11), (35, o_ic (24)), (37, o_il 1), (38, o_imul), (39, o_al 0), (40, o_get 0 rdM9), (43, o_il 1), (44, o_lald 3 mlL mlR), (45, o_l2i), (46, o_iadd), (47, o_il 2), (48, o_i2b), (49, o_ast 2 mbL mbW), (50, o_al 0), (51, o_get 0 rdM9), (54, o_il 1), (55, o_stk f_dup2), (56, o_lald 3 mlL mlR), (57, o_lc 1), (58, o_ladd), (59, o_last 3 mlL mlW), (60, o_ret0)]
set_option maxRecDepth 20000 in
theorem sM_say (E : mEnv) : qm_cok (mK E (rmL 1) prog_10_method_21_code 3 "FunctionRowsModel" (wsT yM_say prog_10_method_21_code 3 none) none) (kM_say (mSd E)) := have hE := mOk E
  ⟨os_al_n (j := 0) (by decide +kernel) rfl, os_get (idx := 30) (f := 8) (ci := 4) (C := "FunctionRowsModel") (T := FM) (N := 17) (by decide +kernel) rfl (fun w h => tb_in (fiM w h)) (by decide) (tb_in lkM_30) glM8, os_il_n (j := 1) (by decide +kernel) rfl, os_iald (t0 := 1) (by decide +kernel) rfl mceI, os_iconst (n := 3) (by decide +kernel) (by decide +kernel), os_icne (off := 16) (by decide +kernel) (by decide), os_al_n (j := 0) (by decide +kernel) rfl, os_get (idx := 33) (f := 9) (ci := 4) (C := "FunctionRowsModel") (T := FM) (N := 17) (by decide +kernel) rfl (fun w h => tb_in (fiM w h)) (by decide) (tb_in lkM_33) glM9, os_il_n (j := 1) (by decide +kernel) rfl, os_lald (t0 := 2) (by decide +kernel) rfl mceL, os_ldc2 (idx := 92) (by decide +kernel) (tb_in klM_92), os_lcne (off := 11) (by decide +kernel) (by decide +kernel) (by decide), os_al_n (j := 0) (by decide +kernel) rfl, os_get (idx := 30) (f := 8) (ci := 4) (C := "FunctionRowsModel") (T := FM) (N := 17) (by decide +kernel) rfl (fun w h => tb_in (fiM w h)) (by decide) (tb_in lkM_30) glM8, os_il_n (j := 1) (by decide +kernel) rfl, os_iconst (n := 0) (by decide +kernel) (by decide +kernel), os_iast hE (t0 := 1) (by decide +kernel) rfl mceI mwrI mokI, os_ret0 hE (by decide +kernel) rfl, os_al_n (j := 0) (by decide +kernel) rfl, os_get (idx := 39) (f := 11) (ci := 4) (C := "FunctionRowsModel") (T := FM) (N := 17) (by decide +kernel) rfl (fun w h => tb_in (fiM w h)) (by decide) (tb_in lkM_39) glM11, os_bipush (n := 24) (by decide +kernel) (by decide +kernel), os_il_n (j := 1) (by decide +kernel) rfl, os_imul (by decide +kernel), os_al_n (j := 0) (by decide +kernel) rfl, os_get (idx := 33) (f := 9) (ci := 4) (C := "FunctionRowsModel") (T := FM) (N := 17) (by decide +kernel) rfl (fun w h => tb_in (fiM w h)) (by decide) (tb_in lkM_33) glM9, os_il_n (j := 1) (by decide +kernel) rfl, os_lald (t0 := 2) (by decide +kernel) rfl mceL, os_l2i (by decide +kernel), os_iadd (by decide +kernel), os_il_n (j := 2) (by decide +kernel) rfl, os_i2b (by decide +kernel), os_bast hE (t0 := 0) (by decide +kernel) rfl mceB mwrB mokB, os_al_n (j := 0) (by decide +kernel) rfl, os_get (idx := 33) (f := 9) (ci := 4) (C := "FunctionRowsModel") (T := FM) (N := 17) (by decide +kernel) rfl (fun w h => tb_in (fiM w h)) (by decide) (tb_in lkM_33) glM9, os_il_n (j := 1) (by decide +kernel) rfl, os_dup2 (by decide +kernel), os_lald (t0 := 2) (by decide +kernel) rfl mceL, os_lconst (n := 1) (by decide +kernel) (by decide +kernel), os_ladd (by decide +kernel), os_last hE (t0 := 2) (by decide +kernel) rfl mceL mwrL mokL, os_ret0 hE (by decide +kernel) rfl⟩
def kM_number (P : MethodName × List Cond × Room → List qm_v → mG → Option qm_v → mG → Prop) : List (Nat × qm_op mG) := [(0, o_al 0), (1, o_get 0 rdM8), (4, o_ic (88)), (6, o_ald 1 miL miR), (7, o_ifne 16), (10, o_lc (-2)), (13, o_go 23), (16, o_al 0), (17, o_get 0 rdM9), (20, o_ic (88)), (22, o_lald 3 mlL mlR), (23, o_retl)]
set_option maxRecDepth 20000 in
theorem sM_number (E : mEnv) : qm_cok (mK E (rmL 1) prog_10_method_47_code 1 "FunctionRowsModel" (wsT yM_number prog_10_method_47_code 1 (some .long)) (some .long)) (kM_number (mSd E)) := have hE := mOk E
  ⟨os_al_n (j := 0) (by decide +kernel) rfl, os_get (idx := 30) (f := 8) (ci := 4) (C := "FunctionRowsModel") (T := FM) (N := 17) (by decide +kernel) rfl (fun w h => tb_in (fiM w h)) (by decide) (tb_in lkM_30) glM8, os_bipush (n := 88) (by decide +kernel) (by decide +kernel), os_iald (t0 := 1) (by decide +kernel) rfl mceI, os_ifne (off := 9) (by decide +kernel) (by decide), os_ldc2 (idx := 241) (by decide +kernel) (tb_in klM_241), os_go (off := 10) (by decide +kernel) (by decide), os_al_n (j := 0) (by decide +kernel) rfl, os_get (idx := 33) (f := 9) (ci := 4) (C := "FunctionRowsModel") (T := FM) (N := 17) (by decide +kernel) rfl (fun w h => tb_in (fiM w h)) (by decide) (tb_in lkM_33) glM9, os_bipush (n := 88) (by decide +kernel) (by decide +kernel), os_lald (t0 := 2) (by decide +kernel) rfl mceL, os_retl hE (by decide +kernel) rfl⟩
def kM_tag (P : MethodName × List Cond × Room → List qm_v → mG → Option qm_v → mG → Prop) : List (Nat × qm_op mG) := [(0, o_al 0), (1, o_get 0 rdM8), (4, o_ic (88)), (6, o_ald 1 miL miR), (7, o_ic (3)), (8, o_icne 21), (11, o_al 0), (12, o_get 0 rdM10), (15, o_ic (88)), (17, o_ald 1 miL miR), (18, o_go 23), (21, o_ic (-2)), (23, o_reti)]
set_option maxRecDepth 20000 in
theorem sM_tag (E : mEnv) : qm_cok (mK E (rmL 1) prog_10_method_48_code 1 "FunctionRowsModel" (wsT yM_tag prog_10_method_48_code 1 (some .int)) (some .int)) (kM_tag (mSd E)) := have hE := mOk E
  ⟨os_al_n (j := 0) (by decide +kernel) rfl, os_get (idx := 30) (f := 8) (ci := 4) (C := "FunctionRowsModel") (T := FM) (N := 17) (by decide +kernel) rfl (fun w h => tb_in (fiM w h)) (by decide) (tb_in lkM_30) glM8, os_bipush (n := 88) (by decide +kernel) (by decide +kernel), os_iald (t0 := 1) (by decide +kernel) rfl mceI, os_iconst (n := 3) (by decide +kernel) (by decide +kernel), os_icne (off := 13) (by decide +kernel) (by decide), os_al_n (j := 0) (by decide +kernel) rfl, os_get (idx := 36) (f := 10) (ci := 4) (C := "FunctionRowsModel") (T := FM) (N := 17) (by decide +kernel) rfl (fun w h => tb_in (fiM w h)) (by decide) (tb_in lkM_36) glM10, os_bipush (n := 88) (by decide +kernel) (by decide +kernel), os_iald (t0 := 1) (by decide +kernel) rfl mceI, os_go (off := 5) (by decide +kernel) (by decide), os_bipush (n := -2) (by decide +kernel) (by decide +kernel), os_reti hE (by decide +kernel) rfl⟩
def kM_clear (P : MethodName × List Cond × Room → List qm_v → mG → Option qm_v → mG → Prop) : List (Nat × qm_op mG) := [(0, o_al 0), (1, o_get 0 rdM2), (4, o_is 1), (5, o_al 0), (6, o_ic (0)), (7, o_put 0 wrM2), (10, o_il 1), (11, o_reti)]
set_option maxRecDepth 20000 in
theorem sM_clear (E : mEnv) : qm_cok (mK E (rmL 1) prog_10_method_54_code 2 "FunctionRowsModel" (wsT yM_clear prog_10_method_54_code 2 (some .int)) (some .int)) (kM_clear (mSd E)) := have hE := mOk E
  ⟨os_al_n (j := 0) (by decide +kernel) rfl, os_get (idx := 61) (f := 2) (ci := 4) (C := "FunctionRowsModel") (T := FM) (N := 17) (by decide +kernel) rfl (fun w h => tb_in (fiM w h)) (by decide) (tb_in lkM_61) glM2, os_is_n (j := 1) (by decide +kernel) rfl (by decide), os_al_n (j := 0) (by decide +kernel) rfl, os_iconst (n := 0) (by decide +kernel) (by decide +kernel), os_put hE (idx := 61) (f := 2) (ci := 4) (C := "FunctionRowsModel") (T := FM) (N := 17) (ty0 := ftM) (by decide +kernel) rfl (fun w h => tb_in (fiM w h)) ftM_ok fnM (by decide) (tb_in lkM_61) rfl (by decide +kernel) plM2, os_il_n (j := 1) (by decide +kernel) rfl, os_reti hE (by decide +kernel) rfl⟩
def kM_size (P : MethodName × List Cond × Room → List qm_v → mG → Option qm_v → mG → Prop) : List (Nat × qm_op mG) := [(0, o_al 0), (1, o_get 0 rdM2), (4, o_reti)]
set_option maxRecDepth 20000 in
theorem sM_size (E : mEnv) : qm_cok (mK E (rmL 1) prog_10_method_55_code 1 "FunctionRowsModel" (wsT yM_size prog_10_method_55_code 1 (some .int)) (some .int)) (kM_size (mSd E)) := have hE := mOk E
  ⟨os_al_n (j := 0) (by decide +kernel) rfl, os_get (idx := 61) (f := 2) (ci := 4) (C := "FunctionRowsModel") (T := FM) (N := 17) (by decide +kernel) rfl (fun w h => tb_in (fiM w h)) (by decide) (tb_in lkM_61) glM2, os_reti hE (by decide +kernel) rfl⟩
def kM_type (P : MethodName × List Cond × Room → List qm_v → mG → Option qm_v → mG → Prop) : List (Nat × qm_op mG) := [(0, o_il 3), (1, o_i2l), (2, o_lc 1), (3, o_lc (8)), (6, o_call 3 (P mM_in)), (9, o_ifne 14), (12, o_ic (-1)), (13, o_reti), (14, o_ic (1)), (15, o_is 4), (17, o_ic (0)), (18, o_is 5), (20, o_il 5), (22, o_il 3), (23, o_icge 67), (26, o_il 4), (28, o_ifeq 58), (31, o_ll 1), (32, o_ic (8)), (34, o_il 5), (36, o_imul), (37, o_lushr), (38, o_lc (255)), (41, o_land), (42, o_lc (32)), (45, o_lc (126)), (48, o_call 3 (P mM_in)), (51, o_ifeq 58), (54, o_ic (1)), (55, o_go 59), (58, o_ic (0)), (59, o_is 4), (61, o_inc 5 (1)), (64, o_go 20), (67, o_il 4), (69, o_ifne 74), (72, o_ic (-1)), (73, o_reti), (74, o_al 0), (75, o_get 0 rdM0), (78, o_il 3), (79, o_iadd), (80, o_ic (48)), (82, o_icle 88), (85, o_ic (-3)), (87, o_reti), (88, o_il 3), (89, o_ic (1)), (90, o_isub), (91, o_is 5), (93, o_il 5), (95, o_iflt 135), (98, o_al 0), (99, o_get 0 rdM1), (102, o_al 0), (103, o_get 0 rdM0), (106, o_ll 1), (107, o_ic (8)), (109, o_il 5), (111, o_imul), (112, o_lushr), (113, o_lc (255)), (116, o_land), (117, o_l2i), (118, o_ast 1 miL miW), (119, o_al 0), (120, o_stk f_dup), (121, o_get 0 rdM0), (124, o_ic (1)), (125, o_iadd), (126, o_put 0 wrM0), (129, o_inc 5 (-1)), (132, o_go 93), (135, o_al 0), (136, o_get 0 rdM0), (139, o_reti)]
set_option maxRecDepth 20000 in
theorem sM_type (E : mEnv) : qm_cok (mK E (rmL 2) prog_10_method_4_code 6 "FunctionRowsModel" (wsT yM_type prog_10_method_4_code 6 (some .int)) (some .int)) (kM_type (mSd E)) := have hE := mOk E
  ⟨os_il_n (j := 3) (by decide +kernel) rfl, os_i2l (by decide +kernel), os_lconst (n := 1) (by decide +kernel) (by decide +kernel), os_ldc2 (idx := 45) (by decide +kernel) (tb_in klM_45), os_call hE (pc := 6) (idx := 47) (by decide +kernel) (cwT_s cM_in inM mlM_47 stM_in (by decide +kernel) (by decide)), os_ifne (off := 5) (by decide +kernel) (by decide), os_iconst (n := -1) (by decide +kernel) (by decide +kernel), os_reti hE (by decide +kernel) rfl, os_iconst (n := 1) (by decide +kernel) (by decide +kernel), os_is (by decide +kernel) (by decide), os_iconst (n := 0) (by decide +kernel) (by decide +kernel), os_is (by decide +kernel) (by decide), os_il (by decide +kernel), os_il_n (j := 3) (by decide +kernel) rfl, os_icge (off := 44) (by decide +kernel) (by decide), os_il (by decide +kernel), os_ifeq (off := 30) (by decide +kernel) (by decide), os_ll_n (j := 1) (by decide +kernel) rfl, os_bipush (n := 8) (by decide +kernel) (by decide +kernel), os_il (by decide +kernel), os_imul (by decide +kernel), os_lushr (by decide +kernel), os_ldc2 (idx := 51) (by decide +kernel) (tb_in klM_51), os_land (by decide +kernel), os_ldc2 (idx := 53) (by decide +kernel) (tb_in klM_53), os_ldc2 (idx := 55) (by decide +kernel) (tb_in klM_55), os_call hE (pc := 48) (idx := 47) (by decide +kernel) (cwT_s cM_in inM mlM_47 stM_in (by decide +kernel) (by decide)), os_ifeq (off := 7) (by decide +kernel) (by decide), os_iconst (n := 1) (by decide +kernel) (by decide +kernel), os_go (off := 4) (by decide +kernel) (by decide), os_iconst (n := 0) (by decide +kernel) (by decide +kernel), os_is (by decide +kernel) (by decide), os_inc (n := 1) (by decide +kernel) (by decide +kernel) (by decide), os_go (off := -44) (by decide +kernel) (by decide), os_il (by decide +kernel), os_ifne (off := 5) (by decide +kernel) (by decide), os_iconst (n := -1) (by decide +kernel) (by decide +kernel), os_reti hE (by decide +kernel) rfl, os_al_n (j := 0) (by decide +kernel) rfl, os_get (idx := 57) (f := 0) (ci := 4) (C := "FunctionRowsModel") (T := FM) (N := 17) (by decide +kernel) rfl (fun w h => tb_in (fiM w h)) (by decide) (tb_in lkM_57) glM0, os_il_n (j := 3) (by decide +kernel) rfl, os_iadd (by decide +kernel), os_bipush (n := 48) (by decide +kernel) (by decide +kernel), os_icle (off := 6) (by decide +kernel) (by decide), os_bipush (n := -3) (by decide +kernel) (by decide +kernel), os_reti hE (by decide +kernel) rfl, os_il_n (j := 3) (by decide +kernel) rfl, os_iconst (n := 1) (by decide +kernel) (by decide +kernel), os_isub (by decide +kernel), os_is (by decide +kernel) (by decide), os_il (by decide +kernel), os_iflt (off := 40) (by decide +kernel) (by decide), os_al_n (j := 0) (by decide +kernel) rfl, os_get (idx := 7) (f := 1) (ci := 4) (C := "FunctionRowsModel") (T := FM) (N := 17) (by decide +kernel) rfl (fun w h => tb_in (fiM w h)) (by decide) (tb_in lkM_7) glM1, os_al_n (j := 0) (by decide +kernel) rfl, os_get (idx := 57) (f := 0) (ci := 4) (C := "FunctionRowsModel") (T := FM) (N := 17) (by decide +kernel) rfl (fun w h => tb_in (fiM w h)) (by decide) (tb_in lkM_57) glM0, os_ll_n (j := 1) (by decide +kernel) rfl, os_bipush (n := 8) (by decide +kernel) (by decide +kernel), os_il (by decide +kernel), os_imul (by decide +kernel), os_lushr (by decide +kernel), os_ldc2 (idx := 51) (by decide +kernel) (tb_in klM_51), os_land (by decide +kernel), os_l2i (by decide +kernel), os_iast hE (t0 := 1) (by decide +kernel) rfl mceI mwrI mokI, os_al_n (j := 0) (by decide +kernel) rfl, os_dup (by decide +kernel), os_get (idx := 57) (f := 0) (ci := 4) (C := "FunctionRowsModel") (T := FM) (N := 17) (by decide +kernel) rfl (fun w h => tb_in (fiM w h)) (by decide) (tb_in lkM_57) glM0, os_iconst (n := 1) (by decide +kernel) (by decide +kernel), os_iadd (by decide +kernel), os_put hE (idx := 57) (f := 0) (ci := 4) (C := "FunctionRowsModel") (T := FM) (N := 17) (ty0 := ftM) (by decide +kernel) rfl (fun w h => tb_in (fiM w h)) ftM_ok fnM (by decide) (tb_in lkM_57) rfl (by decide +kernel) plM0, os_inc (n := -1) (by decide +kernel) (by decide +kernel) (by decide), os_go (off := -39) (by decide +kernel) (by decide), os_al_n (j := 0) (by decide +kernel) rfl, os_get (idx := 57) (f := 0) (ci := 4) (C := "FunctionRowsModel") (T := FM) (N := 17) (by decide +kernel) rfl (fun w h => tb_in (fiM w h)) (by decide) (tb_in lkM_57) glM0, os_reti hE (by decide +kernel) rfl⟩
def kM_text (P : MethodName × List Cond × Room → List qm_v → mG → Option qm_v → mG → Prop) : List (Nat × qm_op mG) := [(0, o_al 0), (1, o_get 0 rdM0), (4, o_is 2), (5, o_al 0), (6, o_ic (0)), (7, o_put 0 wrM0), (10, o_il 2), (11, o_ic (24)), (13, o_icgt 28), (16, o_il 1), (17, o_i2l), (18, o_lc 0), (19, o_lc (26)), (22, o_call 3 (P mM_in)), (25, o_ifne 30), (28, o_ic (-1)), (29, o_reti), (30, o_al 0), (31, o_ic (3)), (32, o_il 2), (33, o_i2l), (34, o_callv 0 3 (P mM_add)), (37, o_is 3), (38, o_il 3), (39, o_iflt 84), (42, o_al 0), (43, o_get 0 rdM6), (46, o_il 3), (47, o_il 1), (48, o_ast 1 miL miW), (49, o_ic (0)), (50, o_is 4), (52, o_il 4), (54, o_il 2), (55, o_icge 84), (58, o_al 0), (59, o_get 0 rdM7), (62, o_ic (24)), (64, o_il 3), (65, o_imul), (66, o_il 4), (68, o_iadd), (69, o_al 0), (70, o_get 0 rdM1), (73, o_il 4), (75, o_ald 1 miL miR), (76, o_i2b), (77, o_ast 2 mbL mbW), (78, o_inc 4 (1)), (81, o_go 52), (84, o_il 3), (85, o_reti)]
set_option maxRecDepth 20000 in
theorem sM_text (E : mEnv) : qm_cok (mK E (rmL 2) prog_10_method_6_code 5 "FunctionRowsModel" (wsT yM_text prog_10_method_6_code 5 (some .int)) (some .int)) (kM_text (mSd E)) := have hE := mOk E
  ⟨os_al_n (j := 0) (by decide +kernel) rfl, os_get (idx := 57) (f := 0) (ci := 4) (C := "FunctionRowsModel") (T := FM) (N := 17) (by decide +kernel) rfl (fun w h => tb_in (fiM w h)) (by decide) (tb_in lkM_57) glM0, os_is_n (j := 2) (by decide +kernel) rfl (by decide), os_al_n (j := 0) (by decide +kernel) rfl, os_iconst (n := 0) (by decide +kernel) (by decide +kernel), os_put hE (idx := 57) (f := 0) (ci := 4) (C := "FunctionRowsModel") (T := FM) (N := 17) (ty0 := ftM) (by decide +kernel) rfl (fun w h => tb_in (fiM w h)) ftM_ok fnM (by decide) (tb_in lkM_57) rfl (by decide +kernel) plM0, os_il_n (j := 2) (by decide +kernel) rfl, os_bipush (n := 24) (by decide +kernel) (by decide +kernel), os_icgt (off := 15) (by decide +kernel) (by decide), os_il_n (j := 1) (by decide +kernel) rfl, os_i2l (by decide +kernel), os_lconst (n := 0) (by decide +kernel) (by decide +kernel), os_ldc2 (idx := 64) (by decide +kernel) (tb_in klM_64), os_call hE (pc := 22) (idx := 47) (by decide +kernel) (cwT_s cM_in inM mlM_47 stM_in (by decide +kernel) (by decide)), os_ifne (off := 5) (by decide +kernel) (by decide), os_iconst (n := -1) (by decide +kernel) (by decide +kernel), os_reti hE (by decide +kernel) rfl, os_al_n (j := 0) (by decide +kernel) rfl, os_iconst (n := 3) (by decide +kernel) (by decide +kernel), os_il_n (j := 2) (by decide +kernel) rfl, os_i2l (by decide +kernel), os_callv hE (pc := 34) (idx := 66) (ci := 4) (by decide +kernel) rfl mrc (cwT_v cM_add inM mlM_66 imM_add seM_add (by decide +kernel) (by decide)), os_is_n (j := 3) (by decide +kernel) rfl (by decide), os_il_n (j := 3) (by decide +kernel) rfl, os_iflt (off := 45) (by decide +kernel) (by decide), os_al_n (j := 0) (by decide +kernel) rfl, os_get (idx := 23) (f := 6) (ci := 4) (C := "FunctionRowsModel") (T := FM) (N := 17) (by decide +kernel) rfl (fun w h => tb_in (fiM w h)) (by decide) (tb_in lkM_23) glM6, os_il_n (j := 3) (by decide +kernel) rfl, os_il_n (j := 1) (by decide +kernel) rfl, os_iast hE (t0 := 1) (by decide +kernel) rfl mceI mwrI mokI, os_iconst (n := 0) (by decide +kernel) (by decide +kernel), os_is (by decide +kernel) (by decide), os_il (by decide +kernel), os_il_n (j := 2) (by decide +kernel) rfl, os_icge (off := 29) (by decide +kernel) (by decide), os_al_n (j := 0) (by decide +kernel) rfl, os_get (idx := 26) (f := 7) (ci := 4) (C := "FunctionRowsModel") (T := FM) (N := 17) (by decide +kernel) rfl (fun w h => tb_in (fiM w h)) (by decide) (tb_in lkM_26) glM7, os_bipush (n := 24) (by decide +kernel) (by decide +kernel), os_il_n (j := 3) (by decide +kernel) rfl, os_imul (by decide +kernel), os_il (by decide +kernel), os_iadd (by decide +kernel), os_al_n (j := 0) (by decide +kernel) rfl, os_get (idx := 7) (f := 1) (ci := 4) (C := "FunctionRowsModel") (T := FM) (N := 17) (by decide +kernel) rfl (fun w h => tb_in (fiM w h)) (by decide) (tb_in lkM_7) glM1, os_il (by decide +kernel), os_iald (t0 := 1) (by decide +kernel) rfl mceI, os_i2b (by decide +kernel), os_bast hE (t0 := 0) (by decide +kernel) rfl mceB mwrB mokB, os_inc (n := 1) (by decide +kernel) (by decide +kernel) (by decide), os_go (off := -29) (by decide +kernel) (by decide), os_il_n (j := 3) (by decide +kernel) rfl, os_reti hE (by decide +kernel) rfl⟩
def kM_whole (P : MethodName × List Cond × Room → List qm_v → mG → Option qm_v → mG → Prop) : List (Nat × qm_op mG) := [(0, o_ll 1), (1, o_lc (-1000000000000000)), (4, o_lc (1000000000000000)), (7, o_call 3 (P mM_in)), (10, o_ifeq 22), (13, o_al 0), (14, o_ic (2)), (15, o_ll 1), (16, o_callv 0 3 (P mM_add)), (19, o_go 23), (22, o_ic (-1)), (23, o_reti)]
set_option maxRecDepth 20000 in
theorem sM_whole (E : mEnv) : qm_cok (mK E (rmL 2) prog_10_method_7_code 3 "FunctionRowsModel" (wsT yM_whole prog_10_method_7_code 3 (some .int)) (some .int)) (kM_whole (mSd E)) := have hE := mOk E
  ⟨os_ll_n (j := 1) (by decide +kernel) rfl, os_ldc2 (idx := 70) (by decide +kernel) (tb_in klM_70), os_ldc2 (idx := 72) (by decide +kernel) (tb_in klM_72), os_call hE (pc := 7) (idx := 47) (by decide +kernel) (cwT_s cM_in inM mlM_47 stM_in (by decide +kernel) (by decide)), os_ifeq (off := 12) (by decide +kernel) (by decide), os_al_n (j := 0) (by decide +kernel) rfl, os_iconst (n := 2) (by decide +kernel) (by decide +kernel), os_ll_n (j := 1) (by decide +kernel) rfl, os_callv hE (pc := 16) (idx := 66) (ci := 4) (by decide +kernel) rfl mrc (cwT_v cM_add inM mlM_66 imM_add seM_add (by decide +kernel) (by decide)), os_go (off := 4) (by decide +kernel) (by decide), os_iconst (n := -1) (by decide +kernel) (by decide +kernel), os_reti hE (by decide +kernel) rfl⟩
def kM_leaf (P : MethodName × List Cond × Room → List qm_v → mG → Option qm_v → mG → Prop) : List (Nat × qm_op mG) := [(0, o_il 1), (1, o_ic (1)), (2, o_icne 15), (5, o_il 2), (6, o_i2l), (7, o_lc 0), (8, o_lc 1), (9, o_call 3 (P mM_in)), (12, o_ifne 48), (15, o_il 1), (16, o_ic (4)), (17, o_icne 32), (20, o_il 2), (21, o_i2l), (22, o_lc 0), (23, o_lc (999)), (26, o_call 3 (P mM_in)), (29, o_ifne 48), (32, o_il 1), (33, o_ifne 52), (36, o_il 2), (37, o_i2l), (38, o_lc 0), (39, o_lc (7)), (42, o_call 3 (P mM_in)), (45, o_ifeq 52), (48, o_ic (1)), (49, o_go 53), (52, o_ic (0)), (53, o_is 3), (54, o_il 3), (55, o_ifne 62), (58, o_ic (-1)), (59, o_go 77), (62, o_al 0), (63, o_il 1), (64, o_ifne 71), (67, o_ic (5)), (68, o_go 72), (71, o_il 1), (72, o_il 2), (73, o_i2l), (74, o_callv 0 3 (P mM_add)), (77, o_reti)]
set_option maxRecDepth 20000 in
theorem sM_leaf (E : mEnv) : qm_cok (mK E (rmL 2) prog_10_method_8_code 4 "FunctionRowsModel" (wsT yM_leaf prog_10_method_8_code 4 (some .int)) (some .int)) (kM_leaf (mSd E)) := have hE := mOk E
  ⟨os_il_n (j := 1) (by decide +kernel) rfl, os_iconst (n := 1) (by decide +kernel) (by decide +kernel), os_icne (off := 13) (by decide +kernel) (by decide), os_il_n (j := 2) (by decide +kernel) rfl, os_i2l (by decide +kernel), os_lconst (n := 0) (by decide +kernel) (by decide +kernel), os_lconst (n := 1) (by decide +kernel) (by decide +kernel), os_call hE (pc := 9) (idx := 47) (by decide +kernel) (cwT_s cM_in inM mlM_47 stM_in (by decide +kernel) (by decide)), os_ifne (off := 36) (by decide +kernel) (by decide), os_il_n (j := 1) (by decide +kernel) rfl, os_iconst (n := 4) (by decide +kernel) (by decide +kernel), os_icne (off := 15) (by decide +kernel) (by decide), os_il_n (j := 2) (by decide +kernel) rfl, os_i2l (by decide +kernel), os_lconst (n := 0) (by decide +kernel) (by decide +kernel), os_ldc2 (idx := 74) (by decide +kernel) (tb_in klM_74), os_call hE (pc := 26) (idx := 47) (by decide +kernel) (cwT_s cM_in inM mlM_47 stM_in (by decide +kernel) (by decide)), os_ifne (off := 19) (by decide +kernel) (by decide), os_il_n (j := 1) (by decide +kernel) rfl, os_ifne (off := 19) (by decide +kernel) (by decide), os_il_n (j := 2) (by decide +kernel) rfl, os_i2l (by decide +kernel), os_lconst (n := 0) (by decide +kernel) (by decide +kernel), os_ldc2 (idx := 76) (by decide +kernel) (tb_in klM_76), os_call hE (pc := 42) (idx := 47) (by decide +kernel) (cwT_s cM_in inM mlM_47 stM_in (by decide +kernel) (by decide)), os_ifeq (off := 7) (by decide +kernel) (by decide), os_iconst (n := 1) (by decide +kernel) (by decide +kernel), os_go (off := 4) (by decide +kernel) (by decide), os_iconst (n := 0) (by decide +kernel) (by decide +kernel), os_is_n (j := 3) (by decide +kernel) rfl (by decide), os_il_n (j := 3) (by decide +kernel) rfl, os_ifne (off := 7) (by decide +kernel) (by decide), os_iconst (n := -1) (by decide +kernel) (by decide +kernel), os_go (off := 18) (by decide +kernel) (by decide), os_al_n (j := 0) (by decide +kernel) rfl, os_il_n (j := 1) (by decide +kernel) rfl, os_ifne (off := 7) (by decide +kernel) (by decide), os_iconst (n := 5) (by decide +kernel) (by decide +kernel), os_go (off := 4) (by decide +kernel) (by decide), os_il_n (j := 1) (by decide +kernel) rfl, os_il_n (j := 2) (by decide +kernel) rfl, os_i2l (by decide +kernel), os_callv hE (pc := 74) (idx := 66) (ci := 4) (by decide +kernel) rfl mrc (cwT_v cM_add inM mlM_66 imM_add seM_add (by decide +kernel) (by decide)), os_reti hE (by decide +kernel) rfl⟩
def kM_isExpression (P : MethodName × List Cond × Room → List qm_v → mG → Option qm_v → mG → Prop) : List (Nat × qm_op mG) := [(0, o_il 1), (1, o_i2l), (2, o_lc 0), (3, o_al 0), (4, o_get 0 rdM2), (7, o_ic (1)), (8, o_isub), (9, o_i2l), (10, o_call 3 (P mM_in)), (13, o_retz)]
set_option maxRecDepth 20000 in
theorem sM_isExpression (E : mEnv) : qm_cok (mK E (rmL 2) prog_10_method_9_code 2 "FunctionRowsModel" (wsT yM_isExpression prog_10_method_9_code 2 (some .boolean)) (some .boolean)) (kM_isExpression (mSd E)) := have hE := mOk E
  ⟨os_il_n (j := 1) (by decide +kernel) rfl, os_i2l (by decide +kernel), os_lconst (n := 0) (by decide +kernel) (by decide +kernel), os_al_n (j := 0) (by decide +kernel) rfl, os_get (idx := 61) (f := 2) (ci := 4) (C := "FunctionRowsModel") (T := FM) (N := 17) (by decide +kernel) rfl (fun w h => tb_in (fiM w h)) (by decide) (tb_in lkM_61) glM2, os_iconst (n := 1) (by decide +kernel) (by decide +kernel), os_isub (by decide +kernel), os_i2l (by decide +kernel), os_call hE (pc := 10) (idx := 47) (by decide +kernel) (cwT_s cM_in inM mlM_47 stM_in (by decide +kernel) (by decide)), os_retz hE (by decide +kernel) rfl⟩
def kM_takes (P : MethodName × List Cond × Room → List qm_v → mG → Option qm_v → mG → Prop) : List (Nat × qm_op mG) := [(0, o_il 1), (1, o_i2l), (2, o_lc 0), (3, o_lc (29)), (6, o_call 3 (P mM_in)), (9, o_ifeq 19), (12, o_il 1), (13, o_call 1 (P mM_arity)), (16, o_go 20), (19, o_ic (-1)), (20, o_reti)]
set_option maxRecDepth 20000 in
theorem sM_takes (E : mEnv) : qm_cok (mK E (rmL 2) prog_10_method_11_code 2 "FunctionRowsModel" (wsT yM_takes prog_10_method_11_code 2 (some .int)) (some .int)) (kM_takes (mSd E)) := have hE := mOk E
  ⟨os_il_n (j := 1) (by decide +kernel) rfl, os_i2l (by decide +kernel), os_lconst (n := 0) (by decide +kernel) (by decide +kernel), os_ldc2 (idx := 78) (by decide +kernel) (tb_in klM_78), os_call hE (pc := 6) (idx := 47) (by decide +kernel) (cwT_s cM_in inM mlM_47 stM_in (by decide +kernel) (by decide)), os_ifeq (off := 10) (by decide +kernel) (by decide), os_il_n (j := 1) (by decide +kernel) rfl, os_call hE (pc := 13) (idx := 80) (by decide +kernel) (cwT_s cM_arity inM mlM_80 stM_arity (by decide +kernel) (by decide)), os_go (off := 4) (by decide +kernel) (by decide), os_iconst (n := -1) (by decide +kernel) (by decide +kernel), os_reti hE (by decide +kernel) rfl⟩
def kM_setTruth (P : MethodName × List Cond × Room → List qm_v → mG → Option qm_v → mG → Prop) : List (Nat × qm_op mG) := [(0, o_il 2), (1, o_ifge 14), (4, o_al 0), (5, o_get 0 rdM8), (8, o_il 1), (9, o_ic (0)), (10, o_ast 1 miL miW), (11, o_go 22), (14, o_al 0), (15, o_il 1), (16, o_ic (1)), (17, o_il 2), (18, o_i2l), (19, o_callv 0 4 (P mM_set)), (22, o_ret0)]
set_option maxRecDepth 20000 in
theorem sM_setTruth (E : mEnv) : qm_cok (mK E (rmL 2) prog_10_method_15_code 3 "FunctionRowsModel" (wsT yM_setTruth prog_10_method_15_code 3 none) none) (kM_setTruth (mSd E)) := have hE := mOk E
  ⟨os_il_n (j := 2) (by decide +kernel) rfl, os_ifge (off := 13) (by decide +kernel) (by decide), os_al_n (j := 0) (by decide +kernel) rfl, os_get (idx := 30) (f := 8) (ci := 4) (C := "FunctionRowsModel") (T := FM) (N := 17) (by decide +kernel) rfl (fun w h => tb_in (fiM w h)) (by decide) (tb_in lkM_30) glM8, os_il_n (j := 1) (by decide +kernel) rfl, os_iconst (n := 0) (by decide +kernel) (by decide +kernel), os_iast hE (t0 := 1) (by decide +kernel) rfl mceI mwrI mokI, os_go (off := 11) (by decide +kernel) (by decide), os_al_n (j := 0) (by decide +kernel) rfl, os_il_n (j := 1) (by decide +kernel) rfl, os_iconst (n := 1) (by decide +kernel) (by decide +kernel), os_il_n (j := 2) (by decide +kernel) rfl, os_i2l (by decide +kernel), os_callv hE (pc := 19) (idx := 88) (ci := 4) (by decide +kernel) rfl mrc (cwT_v cM_set inM mlM_88 imM_set seM_set (by decide +kernel) (by decide)), os_ret0 hE (by decide +kernel) rfl⟩
def kM_setWhole (P : MethodName × List Cond × Room → List qm_v → mG → Option qm_v → mG → Prop) : List (Nat × qm_op mG) := [(0, o_ll 2), (1, o_lc (-1000000000000000)), (4, o_lc (1000000000000000)), (7, o_call 3 (P mM_in)), (10, o_ifeq 20), (13, o_al 0), (14, o_il 1), (15, o_ic (2)), (16, o_ll 2), (17, o_callv 0 4 (P mM_set)), (20, o_ret0)]
set_option maxRecDepth 20000 in
theorem sM_setWhole (E : mEnv) : qm_cok (mK E (rmL 2) prog_10_method_16_code 4 "FunctionRowsModel" (wsT yM_setWhole prog_10_method_16_code 4 none) none) (kM_setWhole (mSd E)) := have hE := mOk E
  ⟨os_ll_n (j := 2) (by decide +kernel) rfl, os_ldc2 (idx := 70) (by decide +kernel) (tb_in klM_70), os_ldc2 (idx := 72) (by decide +kernel) (tb_in klM_72), os_call hE (pc := 7) (idx := 47) (by decide +kernel) (cwT_s cM_in inM mlM_47 stM_in (by decide +kernel) (by decide)), os_ifeq (off := 10) (by decide +kernel) (by decide), os_al_n (j := 0) (by decide +kernel) rfl, os_il_n (j := 1) (by decide +kernel) rfl, os_iconst (n := 2) (by decide +kernel) (by decide +kernel), os_ll_n (j := 2) (by decide +kernel) rfl, os_callv hE (pc := 17) (idx := 88) (ci := 4) (by decide +kernel) rfl mrc (cwT_v cM_set inM mlM_88 imM_set seM_set (by decide +kernel) (by decide)), os_ret0 hE (by decide +kernel) rfl⟩
def kM_setPart (P : MethodName × List Cond × Room → List qm_v → mG → Option qm_v → mG → Prop) : List (Nat × qm_op mG) := [(0, o_ic (0)), (1, o_is 6), (3, o_il 3), (4, o_is 7), (6, o_il 7), (8, o_il 4), (10, o_icge 46), (13, o_al 0), (14, o_get 0 rdM11), (17, o_ic (24)), (19, o_il 1), (20, o_imul), (21, o_il 6), (23, o_iadd), (24, o_al 0), (25, o_get 0 rdM11), (28, o_ic (24)), (30, o_il 2), (31, o_imul), (32, o_il 7), (34, o_iadd), (35, o_ald 2 mbL mbR), (36, o_ast 2 mbL mbW), (37, o_inc 6 (1)), (40, o_inc 7 (1)), (43, o_go 6), (46, o_al 0), (47, o_il 1), (48, o_ic (3)), (49, o_il 6), (51, o_i2l), (52, o_callv 0 4 (P mM_set)), (55, o_al 0), (56, o_get 0 rdM10), (59, o_il 1), (60, o_il 5), (62, o_ast 1 miL miW), (63, o_ret0)]
set_option maxRecDepth 20000 in
theorem sM_setPart (E : mEnv) : qm_cok (mK E (rmL 2) prog_10_method_20_code 8 "FunctionRowsModel" (wsT yM_setPart prog_10_method_20_code 8 none) none) (kM_setPart (mSd E)) := have hE := mOk E
  ⟨os_iconst (n := 0) (by decide +kernel) (by decide +kernel), os_is (by decide +kernel) (by decide), os_il_n (j := 3) (by decide +kernel) rfl, os_is (by decide +kernel) (by decide), os_il (by decide +kernel), os_il (by decide +kernel), os_icge (off := 36) (by decide +kernel) (by decide), os_al_n (j := 0) (by decide +kernel) rfl, os_get (idx := 39) (f := 11) (ci := 4) (C := "FunctionRowsModel") (T := FM) (N := 17) (by decide +kernel) rfl (fun w h => tb_in (fiM w h)) (by decide) (tb_in lkM_39) glM11, os_bipush (n := 24) (by decide +kernel) (by decide +kernel), os_il_n (j := 1) (by decide +kernel) rfl, os_imul (by decide +kernel), os_il (by decide +kernel), os_iadd (by decide +kernel), os_al_n (j := 0) (by decide +kernel) rfl, os_get (idx := 39) (f := 11) (ci := 4) (C := "FunctionRowsModel") (T := FM) (N := 17) (by decide +kernel) rfl (fun w h => tb_in (fiM w h)) (by decide) (tb_in lkM_39) glM11, os_bipush (n := 24) (by decide +kernel) (by decide +kernel), os_il_n (j := 2) (by decide +kernel) rfl, os_imul (by decide +kernel), os_il (by decide +kernel), os_iadd (by decide +kernel), os_bald (t0 := 0) (by decide +kernel) rfl mceB, os_bast hE (t0 := 0) (by decide +kernel) rfl mceB mwrB mokB, os_inc (n := 1) (by decide +kernel) (by decide +kernel) (by decide), os_inc (n := 1) (by decide +kernel) (by decide +kernel) (by decide), os_go (off := -37) (by decide +kernel) (by decide), os_al_n (j := 0) (by decide +kernel) rfl, os_il_n (j := 1) (by decide +kernel) rfl, os_iconst (n := 3) (by decide +kernel) (by decide +kernel), os_il (by decide +kernel), os_i2l (by decide +kernel), os_callv hE (pc := 52) (idx := 88) (ci := 4) (by decide +kernel) rfl mrc (cwT_v cM_set inM mlM_88 imM_set seM_set (by decide +kernel) (by decide)), os_al_n (j := 0) (by decide +kernel) rfl, os_get (idx := 36) (f := 10) (ci := 4) (C := "FunctionRowsModel") (T := FM) (N := 17) (by decide +kernel) rfl (fun w h => tb_in (fiM w h)) (by decide) (tb_in lkM_36) glM10, os_il_n (j := 1) (by decide +kernel) rfl, os_il (by decide +kernel), os_iast hE (t0 := 1) (by decide +kernel) rfl mceI mwrI mokI, os_ret0 hE (by decide +kernel) rfl⟩
def kM_sayNumber (P : MethodName × List Cond × Room → List qm_v → mG → Option qm_v → mG → Prop) : List (Nat × qm_op mG) := [(0, o_ll 2), (1, o_lc 0), (2, o_lcge 13), (6, o_al 0), (7, o_il 1), (8, o_ic (45)), (10, o_callv 0 3 (P mM_say)), (13, o_ll 2), (14, o_lc 0), (15, o_lcge 24), (19, o_ll 2), (20, o_lneg), (21, o_go 25), (24, o_ll 2), (25, o_ls 4), (27, o_lc 1), (28, o_ls 6), (30, o_ll 4), (32, o_ll 6), (34, o_ldiv), (35, o_lc (10)), (38, o_lclt 53), (42, o_ll 6), (44, o_lc (10)), (47, o_lmul), (48, o_ls 6), (50, o_go 30), (53, o_ll 6), (55, o_lc 0), (56, o_lcle 89), (60, o_al 0), (61, o_il 1), (62, o_ic (48)), (64, o_ll 4), (66, o_ll 6), (68, o_ldiv), (69, o_lc (10)), (72, o_lrem), (73, o_l2i), (74, o_iadd), (75, o_callv 0 3 (P mM_say)), (78, o_ll 6), (80, o_lc (10)), (83, o_ldiv), (84, o_ls 6), (86, o_go 53), (89, o_ret0)]
set_option maxRecDepth 20000 in
theorem sM_sayNumber (E : mEnv) : qm_cok (mK E (rmL 2) prog_10_method_22_code 8 "FunctionRowsModel" (wsT yM_sayNumber prog_10_method_22_code 8 none) none) (kM_sayNumber (mSd E)) := have hE := mOk E
  ⟨os_ll_n (j := 2) (by decide +kernel) rfl, os_lconst (n := 0) (by decide +kernel) (by decide +kernel), os_lcge (off := 10) (by decide +kernel) (by decide +kernel) (by decide), os_al_n (j := 0) (by decide +kernel) rfl, os_il_n (j := 1) (by decide +kernel) rfl, os_bipush (n := 45) (by decide +kernel) (by decide +kernel), os_callv hE (pc := 10) (idx := 94) (ci := 4) (by decide +kernel) rfl mrc (cwT_v cM_say inM mlM_94 imM_say seM_say (by decide +kernel) (by decide)), os_ll_n (j := 2) (by decide +kernel) rfl, os_lconst (n := 0) (by decide +kernel) (by decide +kernel), os_lcge (off := 8) (by decide +kernel) (by decide +kernel) (by decide), os_ll_n (j := 2) (by decide +kernel) rfl, os_lneg (by decide +kernel), os_go (off := 4) (by decide +kernel) (by decide), os_ll_n (j := 2) (by decide +kernel) rfl, os_ls (by decide +kernel) (by decide), os_lconst (n := 1) (by decide +kernel) (by decide +kernel), os_ls (by decide +kernel) (by decide), os_ll (by decide +kernel), os_ll (by decide +kernel), os_ldiv (by decide +kernel), os_ldc2 (idx := 98) (by decide +kernel) (tb_in klM_98), os_lclt (off := 14) (by decide +kernel) (by decide +kernel) (by decide), os_ll (by decide +kernel), os_ldc2 (idx := 98) (by decide +kernel) (tb_in klM_98), os_lmul (by decide +kernel), os_ls (by decide +kernel) (by decide), os_go (off := -20) (by decide +kernel) (by decide), os_ll (by decide +kernel), os_lconst (n := 0) (by decide +kernel) (by decide +kernel), os_lcle (off := 32) (by decide +kernel) (by decide +kernel) (by decide), os_al_n (j := 0) (by decide +kernel) rfl, os_il_n (j := 1) (by decide +kernel) rfl, os_bipush (n := 48) (by decide +kernel) (by decide +kernel), os_ll (by decide +kernel), os_ll (by decide +kernel), os_ldiv (by decide +kernel), os_ldc2 (idx := 98) (by decide +kernel) (tb_in klM_98), os_lrem (by decide +kernel), os_l2i (by decide +kernel), os_iadd (by decide +kernel), os_callv hE (pc := 75) (idx := 94) (ci := 4) (by decide +kernel) rfl mrc (cwT_v cM_say inM mlM_94 imM_say seM_say (by decide +kernel) (by decide)), os_ll (by decide +kernel), os_ldc2 (idx := 98) (by decide +kernel) (tb_in klM_98), os_ldiv (by decide +kernel), os_ls (by decide +kernel) (by decide), os_go (off := -33) (by decide +kernel) (by decide), os_ret0 hE (by decide +kernel) rfl⟩
def kM_sayAll (P : MethodName × List Cond × Room → List qm_v → mG → Option qm_v → mG → Prop) : List (Nat × qm_op mG) := [(0, o_ic (0)), (1, o_is 3), (2, o_il 3), (3, o_al 0), (4, o_il 2), (5, o_callv 0 2 (P mM_length)), (8, o_icge 28), (11, o_al 0), (12, o_il 1), (13, o_al 0), (14, o_il 2), (15, o_il 3), (16, o_callv 0 3 (P mM_byteAt)), (19, o_callv 0 3 (P mM_say)), (22, o_inc 3 (1)), (25, o_go 2), (28, o_ret0)]
set_option maxRecDepth 20000 in
theorem sM_sayAll (E : mEnv) : qm_cok (mK E (rmL 2) prog_10_method_23_code 4 "FunctionRowsModel" (wsT yM_sayAll prog_10_method_23_code 4 none) none) (kM_sayAll (mSd E)) := have hE := mOk E
  ⟨os_iconst (n := 0) (by decide +kernel) (by decide +kernel), os_is_n (j := 3) (by decide +kernel) rfl (by decide), os_il_n (j := 3) (by decide +kernel) rfl, os_al_n (j := 0) (by decide +kernel) rfl, os_il_n (j := 2) (by decide +kernel) rfl, os_callv hE (pc := 5) (idx := 100) (ci := 4) (by decide +kernel) rfl mrc (cwT_v cM_length inM mlM_100 imM_length seM_length (by decide +kernel) (by decide)), os_icge (off := 20) (by decide +kernel) (by decide), os_al_n (j := 0) (by decide +kernel) rfl, os_il_n (j := 1) (by decide +kernel) rfl, os_al_n (j := 0) (by decide +kernel) rfl, os_il_n (j := 2) (by decide +kernel) rfl, os_il_n (j := 3) (by decide +kernel) rfl, os_callv hE (pc := 16) (idx := 103) (ci := 4) (by decide +kernel) rfl mrc (cwT_v cM_byteAt inM mlM_103 imM_byteAt seM_byteAt (by decide +kernel) (by decide)), os_callv hE (pc := 19) (idx := 94) (ci := 4) (by decide +kernel) rfl mrc (cwT_v cM_say inM mlM_94 imM_say seM_say (by decide +kernel) (by decide)), os_inc (n := 1) (by decide +kernel) (by decide +kernel) (by decide), os_go (off := -23) (by decide +kernel) (by decide), os_ret0 hE (by decide +kernel) rfl⟩
def kM_same (P : MethodName × List Cond × Room → List qm_v → mG → Option qm_v → mG → Prop) : List (Nat × qm_op mG) := [(0, o_al 0), (1, o_get 0 rdM8), (4, o_il 1), (5, o_ald 1 miL miR), (6, o_ifeq 18), (9, o_al 0), (10, o_get 0 rdM8), (13, o_il 2), (14, o_ald 1 miL miR), (15, o_ifne 20), (18, o_ic (-1)), (19, o_reti), (20, o_al 0), (21, o_get 0 rdM8), (24, o_il 1), (25, o_ald 1 miL miR), (26, o_al 0), (27, o_get 0 rdM8), (30, o_il 2), (31, o_ald 1 miL miR), (32, o_iceq 61), (35, o_al 0), (36, o_get 0 rdM8), (39, o_il 1), (40, o_ald 1 miL miR), (41, o_ic (4)), (42, o_iceq 55), (45, o_al 0), (46, o_get 0 rdM8), (49, o_il 2), (50, o_ald 1 miL miR), (51, o_ic (4)), (52, o_icne 59), (55, o_ic (0)), (56, o_go 60), (59, o_ic (-1)), (60, o_reti), (61, o_al 0), (62, o_get 0 rdM9), (65, o_il 1), (66, o_lald 3 mlL mlR), (67, o_al 0), (68, o_get 0 rdM9), (71, o_il 2), (72, o_lald 3 mlL mlR), (73, o_lcne 96), (77, o_al 0), (78, o_get 0 rdM10), (81, o_il 1), (82, o_ald 1 miL miR), (83, o_al 0), (84, o_get 0 rdM10), (87, o_il 2), (88, o_ald 1 miL miR), (89, o_icne 96), (92, o_ic (1)), (93, o_go 97), (96, o_ic (0)), (97, o_is 3), (98, o_ic (0)), (99, o_is 4), (101, o_al 0), (102, o_get 0 rdM8), (105, o_il 1), (106, o_ald 1 miL miR), (107, o_ic (3)), (108, o_icne 154), (111, o_il 3), (112, o_ifeq 154), (115, o_il 4), (117, o_al 0), (118, o_il 1), (119, o_callv 0 2 (P mM_length)), (122, o_icge 154), (125, o_al 0), (126, o_il 1), (127, o_il 4), (129, o_callv 0 3 (P mM_byteAt)), (132, o_al 0), (133, o_il 2), (134, o_il 4), (136, o_callv 0 3 (P mM_byteAt)), (139, o_icne 146), (142, o_ic (1)), (143, o_go 147), (146, o_ic (0)), (147, o_is 3), (148, o_inc 4 (1)), (151, o_go 101), (154, o_il 3), (155, o_ifeq 162), (158, o_ic (1)), (159, o_go 163), (162, o_ic (0)), (163, o_reti)]
set_option maxRecDepth 20000 in
theorem sM_same (E : mEnv) : qm_cok (mK E (rmL 2) prog_10_method_24_code 5 "FunctionRowsModel" (wsT yM_same prog_10_method_24_code 5 (some .int)) (some .int)) (kM_same (mSd E)) := have hE := mOk E
  ⟨os_al_n (j := 0) (by decide +kernel) rfl, os_get (idx := 30) (f := 8) (ci := 4) (C := "FunctionRowsModel") (T := FM) (N := 17) (by decide +kernel) rfl (fun w h => tb_in (fiM w h)) (by decide) (tb_in lkM_30) glM8, os_il_n (j := 1) (by decide +kernel) rfl, os_iald (t0 := 1) (by decide +kernel) rfl mceI, os_ifeq (off := 12) (by decide +kernel) (by decide), os_al_n (j := 0) (by decide +kernel) rfl, os_get (idx := 30) (f := 8) (ci := 4) (C := "FunctionRowsModel") (T := FM) (N := 17) (by decide +kernel) rfl (fun w h => tb_in (fiM w h)) (by decide) (tb_in lkM_30) glM8, os_il_n (j := 2) (by decide +kernel) rfl, os_iald (t0 := 1) (by decide +kernel) rfl mceI, os_ifne (off := 5) (by decide +kernel) (by decide), os_iconst (n := -1) (by decide +kernel) (by decide +kernel), os_reti hE (by decide +kernel) rfl, os_al_n (j := 0) (by decide +kernel) rfl, os_get (idx := 30) (f := 8) (ci := 4) (C := "FunctionRowsModel") (T := FM) (N := 17) (by decide +kernel) rfl (fun w h => tb_in (fiM w h)) (by decide) (tb_in lkM_30) glM8, os_il_n (j := 1) (by decide +kernel) rfl, os_iald (t0 := 1) (by decide +kernel) rfl mceI, os_al_n (j := 0) (by decide +kernel) rfl, os_get (idx := 30) (f := 8) (ci := 4) (C := "FunctionRowsModel") (T := FM) (N := 17) (by decide +kernel) rfl (fun w h => tb_in (fiM w h)) (by decide) (tb_in lkM_30) glM8, os_il_n (j := 2) (by decide +kernel) rfl, os_iald (t0 := 1) (by decide +kernel) rfl mceI, os_iceq (off := 29) (by decide +kernel) (by decide), os_al_n (j := 0) (by decide +kernel) rfl, os_get (idx := 30) (f := 8) (ci := 4) (C := "FunctionRowsModel") (T := FM) (N := 17) (by decide +kernel) rfl (fun w h => tb_in (fiM w h)) (by decide) (tb_in lkM_30) glM8, os_il_n (j := 1) (by decide +kernel) rfl, os_iald (t0 := 1) (by decide +kernel) rfl mceI, os_iconst (n := 4) (by decide +kernel) (by decide +kernel), os_iceq (off := 13) (by decide +kernel) (by decide), os_al_n (j := 0) (by decide +kernel) rfl, os_get (idx := 30) (f := 8) (ci := 4) (C := "FunctionRowsModel") (T := FM) (N := 17) (by decide +kernel) rfl (fun w h => tb_in (fiM w h)) (by decide) (tb_in lkM_30) glM8, os_il_n (j := 2) (by decide +kernel) rfl, os_iald (t0 := 1) (by decide +kernel) rfl mceI, os_iconst (n := 4) (by decide +kernel) (by decide +kernel), os_icne (off := 7) (by decide +kernel) (by decide), os_iconst (n := 0) (by decide +kernel) (by decide +kernel), os_go (off := 4) (by decide +kernel) (by decide), os_iconst (n := -1) (by decide +kernel) (by decide +kernel), os_reti hE (by decide +kernel) rfl, os_al_n (j := 0) (by decide +kernel) rfl, os_get (idx := 33) (f := 9) (ci := 4) (C := "FunctionRowsModel") (T := FM) (N := 17) (by decide +kernel) rfl (fun w h => tb_in (fiM w h)) (by decide) (tb_in lkM_33) glM9, os_il_n (j := 1) (by decide +kernel) rfl, os_lald (t0 := 2) (by decide +kernel) rfl mceL, os_al_n (j := 0) (by decide +kernel) rfl, os_get (idx := 33) (f := 9) (ci := 4) (C := "FunctionRowsModel") (T := FM) (N := 17) (by decide +kernel) rfl (fun w h => tb_in (fiM w h)) (by decide) (tb_in lkM_33) glM9, os_il_n (j := 2) (by decide +kernel) rfl, os_lald (t0 := 2) (by decide +kernel) rfl mceL, os_lcne (off := 22) (by decide +kernel) (by decide +kernel) (by decide), os_al_n (j := 0) (by decide +kernel) rfl, os_get (idx := 36) (f := 10) (ci := 4) (C := "FunctionRowsModel") (T := FM) (N := 17) (by decide +kernel) rfl (fun w h => tb_in (fiM w h)) (by decide) (tb_in lkM_36) glM10, os_il_n (j := 1) (by decide +kernel) rfl, os_iald (t0 := 1) (by decide +kernel) rfl mceI, os_al_n (j := 0) (by decide +kernel) rfl, os_get (idx := 36) (f := 10) (ci := 4) (C := "FunctionRowsModel") (T := FM) (N := 17) (by decide +kernel) rfl (fun w h => tb_in (fiM w h)) (by decide) (tb_in lkM_36) glM10, os_il_n (j := 2) (by decide +kernel) rfl, os_iald (t0 := 1) (by decide +kernel) rfl mceI, os_icne (off := 7) (by decide +kernel) (by decide), os_iconst (n := 1) (by decide +kernel) (by decide +kernel), os_go (off := 4) (by decide +kernel) (by decide), os_iconst (n := 0) (by decide +kernel) (by decide +kernel), os_is_n (j := 3) (by decide +kernel) rfl (by decide), os_iconst (n := 0) (by decide +kernel) (by decide +kernel), os_is (by decide +kernel) (by decide), os_al_n (j := 0) (by decide +kernel) rfl, os_get (idx := 30) (f := 8) (ci := 4) (C := "FunctionRowsModel") (T := FM) (N := 17) (by decide +kernel) rfl (fun w h => tb_in (fiM w h)) (by decide) (tb_in lkM_30) glM8, os_il_n (j := 1) (by decide +kernel) rfl, os_iald (t0 := 1) (by decide +kernel) rfl mceI, os_iconst (n := 3) (by decide +kernel) (by decide +kernel), os_icne (off := 46) (by decide +kernel) (by decide), os_il_n (j := 3) (by decide +kernel) rfl, os_ifeq (off := 42) (by decide +kernel) (by decide), os_il (by decide +kernel), os_al_n (j := 0) (by decide +kernel) rfl, os_il_n (j := 1) (by decide +kernel) rfl, os_callv hE (pc := 119) (idx := 100) (ci := 4) (by decide +kernel) rfl mrc (cwT_v cM_length inM mlM_100 imM_length seM_length (by decide +kernel) (by decide)), os_icge (off := 32) (by decide +kernel) (by decide), os_al_n (j := 0) (by decide +kernel) rfl, os_il_n (j := 1) (by decide +kernel) rfl, os_il (by decide +kernel), os_callv hE (pc := 129) (idx := 103) (ci := 4) (by decide +kernel) rfl mrc (cwT_v cM_byteAt inM mlM_103 imM_byteAt seM_byteAt (by decide +kernel) (by decide)), os_al_n (j := 0) (by decide +kernel) rfl, os_il_n (j := 2) (by decide +kernel) rfl, os_il (by decide +kernel), os_callv hE (pc := 136) (idx := 103) (ci := 4) (by decide +kernel) rfl mrc (cwT_v cM_byteAt inM mlM_103 imM_byteAt seM_byteAt (by decide +kernel) (by decide)), os_icne (off := 7) (by decide +kernel) (by decide), os_iconst (n := 1) (by decide +kernel) (by decide +kernel), os_go (off := 4) (by decide +kernel) (by decide), os_iconst (n := 0) (by decide +kernel) (by decide +kernel), os_is_n (j := 3) (by decide +kernel) rfl (by decide), os_inc (n := 1) (by decide +kernel) (by decide +kernel) (by decide), os_go (off := -50) (by decide +kernel) (by decide), os_il_n (j := 3) (by decide +kernel) rfl, os_ifeq (off := 7) (by decide +kernel) (by decide), os_iconst (n := 1) (by decide +kernel) (by decide +kernel), os_go (off := 4) (by decide +kernel) (by decide), os_iconst (n := 0) (by decide +kernel) (by decide +kernel), os_reti hE (by decide +kernel) rfl⟩
def kM_less (P : MethodName × List Cond × Room → List qm_v → mG → Option qm_v → mG → Prop) : List (Nat × qm_op mG) := [(0, o_al 0), (1, o_get 0 rdM8), (4, o_il 1), (5, o_ald 1 miL miR), (6, o_al 0), (7, o_get 0 rdM8), (10, o_il 2), (11, o_ald 1 miL miR), (12, o_icne 64), (15, o_al 0), (16, o_get 0 rdM8), (19, o_il 1), (20, o_ald 1 miL miR), (21, o_ic (2)), (22, o_iceq 60), (25, o_al 0), (26, o_get 0 rdM8), (29, o_il 1), (30, o_ald 1 miL miR), (31, o_ic (1)), (32, o_iceq 60), (35, o_al 0), (36, o_get 0 rdM8), (39, o_il 1), (40, o_ald 1 miL miR), (41, o_ic (3)), (42, o_icne 64), (45, o_al 0), (46, o_get 0 rdM10), (49, o_il 1), (50, o_ald 1 miL miR), (51, o_al 0), (52, o_get 0 rdM10), (55, o_il 2), (56, o_ald 1 miL miR), (57, o_icne 64), (60, o_ic (1)), (61, o_go 65), (64, o_ic (0)), (65, o_is 3), (66, o_il 3), (67, o_ifne 72), (70, o_ic (-1)), (71, o_reti), (72, o_al 0), (73, o_get 0 rdM8), (76, o_il 1), (77, o_ald 1 miL miR), (78, o_ic (3)), (79, o_iceq 104), (82, o_al 0), (83, o_get 0 rdM9), (86, o_il 1), (87, o_lald 3 mlL mlR), (88, o_al 0), (89, o_get 0 rdM9), (92, o_il 2), (93, o_lald 3 mlL mlR), (94, o_lcge 102), (98, o_ic (1)), (99, o_go 103), (102, o_ic (0)), (103, o_reti), (104, o_ic (0)), (105, o_is 4), (107, o_il 4), (109, o_al 0), (110, o_il 1), (111, o_callv 0 2 (P mM_length)), (114, o_icge 150), (117, o_il 4), (119, o_al 0), (120, o_il 2), (121, o_callv 0 2 (P mM_length)), (124, o_icge 150), (127, o_al 0), (128, o_il 1), (129, o_il 4), (131, o_callv 0 3 (P mM_byteAt)), (134, o_al 0), (135, o_il 2), (136, o_il 4), (138, o_callv 0 3 (P mM_byteAt)), (141, o_icne 150), (144, o_inc 4 (1)), (147, o_go 107), (150, o_il 4), (152, o_al 0), (153, o_il 1), (154, o_callv 0 2 (P mM_length)), (157, o_icge 195), (160, o_il 4), (162, o_al 0), (163, o_il 2), (164, o_callv 0 2 (P mM_length)), (167, o_icge 195), (170, o_al 0), (171, o_il 1), (172, o_il 4), (174, o_callv 0 3 (P mM_byteAt)), (177, o_al 0), (178, o_il 2), (179, o_il 4), (181, o_callv 0 3 (P mM_byteAt)), (184, o_icge 191), (187, o_ic (1)), (188, o_go 213), (191, o_ic (0)), (192, o_go 213), (195, o_al 0), (196, o_il 1), (197, o_callv 0 2 (P mM_length)), (200, o_al 0), (201, o_il 2), (202, o_callv 0 2 (P mM_length)), (205, o_icge 212), (208, o_ic (1)), (209, o_go 213), (212, o_ic (0)), (213, o_is 5), (215, o_il 5), (217, o_ifeq 224), (220, o_ic (1)), (221, o_go 225), (224, o_ic (0)), (225, o_reti)]
set_option maxRecDepth 20000 in
theorem sM_less (E : mEnv) : qm_cok (mK E (rmL 2) prog_10_method_25_code 6 "FunctionRowsModel" (wsT yM_less prog_10_method_25_code 6 (some .int)) (some .int)) (kM_less (mSd E)) := have hE := mOk E
  ⟨os_al_n (j := 0) (by decide +kernel) rfl, os_get (idx := 30) (f := 8) (ci := 4) (C := "FunctionRowsModel") (T := FM) (N := 17) (by decide +kernel) rfl (fun w h => tb_in (fiM w h)) (by decide) (tb_in lkM_30) glM8, os_il_n (j := 1) (by decide +kernel) rfl, os_iald (t0 := 1) (by decide +kernel) rfl mceI, os_al_n (j := 0) (by decide +kernel) rfl, os_get (idx := 30) (f := 8) (ci := 4) (C := "FunctionRowsModel") (T := FM) (N := 17) (by decide +kernel) rfl (fun w h => tb_in (fiM w h)) (by decide) (tb_in lkM_30) glM8, os_il_n (j := 2) (by decide +kernel) rfl, os_iald (t0 := 1) (by decide +kernel) rfl mceI, os_icne (off := 52) (by decide +kernel) (by decide), os_al_n (j := 0) (by decide +kernel) rfl, os_get (idx := 30) (f := 8) (ci := 4) (C := "FunctionRowsModel") (T := FM) (N := 17) (by decide +kernel) rfl (fun w h => tb_in (fiM w h)) (by decide) (tb_in lkM_30) glM8, os_il_n (j := 1) (by decide +kernel) rfl, os_iald (t0 := 1) (by decide +kernel) rfl mceI, os_iconst (n := 2) (by decide +kernel) (by decide +kernel), os_iceq (off := 38) (by decide +kernel) (by decide), os_al_n (j := 0) (by decide +kernel) rfl, os_get (idx := 30) (f := 8) (ci := 4) (C := "FunctionRowsModel") (T := FM) (N := 17) (by decide +kernel) rfl (fun w h => tb_in (fiM w h)) (by decide) (tb_in lkM_30) glM8, os_il_n (j := 1) (by decide +kernel) rfl, os_iald (t0 := 1) (by decide +kernel) rfl mceI, os_iconst (n := 1) (by decide +kernel) (by decide +kernel), os_iceq (off := 28) (by decide +kernel) (by decide), os_al_n (j := 0) (by decide +kernel) rfl, os_get (idx := 30) (f := 8) (ci := 4) (C := "FunctionRowsModel") (T := FM) (N := 17) (by decide +kernel) rfl (fun w h => tb_in (fiM w h)) (by decide) (tb_in lkM_30) glM8, os_il_n (j := 1) (by decide +kernel) rfl, os_iald (t0 := 1) (by decide +kernel) rfl mceI, os_iconst (n := 3) (by decide +kernel) (by decide +kernel), os_icne (off := 22) (by decide +kernel) (by decide), os_al_n (j := 0) (by decide +kernel) rfl, os_get (idx := 36) (f := 10) (ci := 4) (C := "FunctionRowsModel") (T := FM) (N := 17) (by decide +kernel) rfl (fun w h => tb_in (fiM w h)) (by decide) (tb_in lkM_36) glM10, os_il_n (j := 1) (by decide +kernel) rfl, os_iald (t0 := 1) (by decide +kernel) rfl mceI, os_al_n (j := 0) (by decide +kernel) rfl, os_get (idx := 36) (f := 10) (ci := 4) (C := "FunctionRowsModel") (T := FM) (N := 17) (by decide +kernel) rfl (fun w h => tb_in (fiM w h)) (by decide) (tb_in lkM_36) glM10, os_il_n (j := 2) (by decide +kernel) rfl, os_iald (t0 := 1) (by decide +kernel) rfl mceI, os_icne (off := 7) (by decide +kernel) (by decide), os_iconst (n := 1) (by decide +kernel) (by decide +kernel), os_go (off := 4) (by decide +kernel) (by decide), os_iconst (n := 0) (by decide +kernel) (by decide +kernel), os_is_n (j := 3) (by decide +kernel) rfl (by decide), os_il_n (j := 3) (by decide +kernel) rfl, os_ifne (off := 5) (by decide +kernel) (by decide), os_iconst (n := -1) (by decide +kernel) (by decide +kernel), os_reti hE (by decide +kernel) rfl, os_al_n (j := 0) (by decide +kernel) rfl, os_get (idx := 30) (f := 8) (ci := 4) (C := "FunctionRowsModel") (T := FM) (N := 17) (by decide +kernel) rfl (fun w h => tb_in (fiM w h)) (by decide) (tb_in lkM_30) glM8, os_il_n (j := 1) (by decide +kernel) rfl, os_iald (t0 := 1) (by decide +kernel) rfl mceI, os_iconst (n := 3) (by decide +kernel) (by decide +kernel), os_iceq (off := 25) (by decide +kernel) (by decide), os_al_n (j := 0) (by decide +kernel) rfl, os_get (idx := 33) (f := 9) (ci := 4) (C := "FunctionRowsModel") (T := FM) (N := 17) (by decide +kernel) rfl (fun w h => tb_in (fiM w h)) (by decide) (tb_in lkM_33) glM9, os_il_n (j := 1) (by decide +kernel) rfl, os_lald (t0 := 2) (by decide +kernel) rfl mceL, os_al_n (j := 0) (by decide +kernel) rfl, os_get (idx := 33) (f := 9) (ci := 4) (C := "FunctionRowsModel") (T := FM) (N := 17) (by decide +kernel) rfl (fun w h => tb_in (fiM w h)) (by decide) (tb_in lkM_33) glM9, os_il_n (j := 2) (by decide +kernel) rfl, os_lald (t0 := 2) (by decide +kernel) rfl mceL, os_lcge (off := 7) (by decide +kernel) (by decide +kernel) (by decide), os_iconst (n := 1) (by decide +kernel) (by decide +kernel), os_go (off := 4) (by decide +kernel) (by decide), os_iconst (n := 0) (by decide +kernel) (by decide +kernel), os_reti hE (by decide +kernel) rfl, os_iconst (n := 0) (by decide +kernel) (by decide +kernel), os_is (by decide +kernel) (by decide), os_il (by decide +kernel), os_al_n (j := 0) (by decide +kernel) rfl, os_il_n (j := 1) (by decide +kernel) rfl, os_callv hE (pc := 111) (idx := 100) (ci := 4) (by decide +kernel) rfl mrc (cwT_v cM_length inM mlM_100 imM_length seM_length (by decide +kernel) (by decide)), os_icge (off := 36) (by decide +kernel) (by decide), os_il (by decide +kernel), os_al_n (j := 0) (by decide +kernel) rfl, os_il_n (j := 2) (by decide +kernel) rfl, os_callv hE (pc := 121) (idx := 100) (ci := 4) (by decide +kernel) rfl mrc (cwT_v cM_length inM mlM_100 imM_length seM_length (by decide +kernel) (by decide)), os_icge (off := 26) (by decide +kernel) (by decide), os_al_n (j := 0) (by decide +kernel) rfl, os_il_n (j := 1) (by decide +kernel) rfl, os_il (by decide +kernel), os_callv hE (pc := 131) (idx := 103) (ci := 4) (by decide +kernel) rfl mrc (cwT_v cM_byteAt inM mlM_103 imM_byteAt seM_byteAt (by decide +kernel) (by decide)), os_al_n (j := 0) (by decide +kernel) rfl, os_il_n (j := 2) (by decide +kernel) rfl, os_il (by decide +kernel), os_callv hE (pc := 138) (idx := 103) (ci := 4) (by decide +kernel) rfl mrc (cwT_v cM_byteAt inM mlM_103 imM_byteAt seM_byteAt (by decide +kernel) (by decide)), os_icne (off := 9) (by decide +kernel) (by decide), os_inc (n := 1) (by decide +kernel) (by decide +kernel) (by decide), os_go (off := -40) (by decide +kernel) (by decide), os_il (by decide +kernel), os_al_n (j := 0) (by decide +kernel) rfl, os_il_n (j := 1) (by decide +kernel) rfl, os_callv hE (pc := 154) (idx := 100) (ci := 4) (by decide +kernel) rfl mrc (cwT_v cM_length inM mlM_100 imM_length seM_length (by decide +kernel) (by decide)), os_icge (off := 38) (by decide +kernel) (by decide), os_il (by decide +kernel), os_al_n (j := 0) (by decide +kernel) rfl, os_il_n (j := 2) (by decide +kernel) rfl, os_callv hE (pc := 164) (idx := 100) (ci := 4) (by decide +kernel) rfl mrc (cwT_v cM_length inM mlM_100 imM_length seM_length (by decide +kernel) (by decide)), os_icge (off := 28) (by decide +kernel) (by decide), os_al_n (j := 0) (by decide +kernel) rfl, os_il_n (j := 1) (by decide +kernel) rfl, os_il (by decide +kernel), os_callv hE (pc := 174) (idx := 103) (ci := 4) (by decide +kernel) rfl mrc (cwT_v cM_byteAt inM mlM_103 imM_byteAt seM_byteAt (by decide +kernel) (by decide)), os_al_n (j := 0) (by decide +kernel) rfl, os_il_n (j := 2) (by decide +kernel) rfl, os_il (by decide +kernel), os_callv hE (pc := 181) (idx := 103) (ci := 4) (by decide +kernel) rfl mrc (cwT_v cM_byteAt inM mlM_103 imM_byteAt seM_byteAt (by decide +kernel) (by decide)), os_icge (off := 7) (by decide +kernel) (by decide), os_iconst (n := 1) (by decide +kernel) (by decide +kernel), os_go (off := 25) (by decide +kernel) (by decide), os_iconst (n := 0) (by decide +kernel) (by decide +kernel), os_go (off := 21) (by decide +kernel) (by decide), os_al_n (j := 0) (by decide +kernel) rfl, os_il_n (j := 1) (by decide +kernel) rfl, os_callv hE (pc := 197) (idx := 100) (ci := 4) (by decide +kernel) rfl mrc (cwT_v cM_length inM mlM_100 imM_length seM_length (by decide +kernel) (by decide)), os_al_n (j := 0) (by decide +kernel) rfl, os_il_n (j := 2) (by decide +kernel) rfl, os_callv hE (pc := 202) (idx := 100) (ci := 4) (by decide +kernel) rfl mrc (cwT_v cM_length inM mlM_100 imM_length seM_length (by decide +kernel) (by decide)), os_icge (off := 7) (by decide +kernel) (by decide), os_iconst (n := 1) (by decide +kernel) (by decide +kernel), os_go (off := 4) (by decide +kernel) (by decide), os_iconst (n := 0) (by decide +kernel) (by decide +kernel), os_is (by decide +kernel) (by decide), os_il (by decide +kernel), os_ifeq (off := 7) (by decide +kernel) (by decide), os_iconst (n := 1) (by decide +kernel) (by decide +kernel), os_go (off := 4) (by decide +kernel) (by decide), os_iconst (n := 0) (by decide +kernel) (by decide +kernel), os_reti hE (by decide +kernel) rfl⟩
def kM_stands (P : MethodName × List Cond × Room → List qm_v → mG → Option qm_v → mG → Prop) : List (Nat × qm_op mG) := [(0, o_il 3), (1, o_iflt 23), (4, o_il 3), (5, o_al 0), (6, o_il 2), (7, o_callv 0 2 (P mM_length)), (10, o_iadd), (11, o_al 0), (12, o_il 1), (13, o_callv 0 2 (P mM_length)), (16, o_icgt 23), (19, o_ic (1)), (20, o_go 24), (23, o_ic (0)), (24, o_is 4), (26, o_ic (0)), (27, o_is 5), (29, o_il 4), (31, o_ifeq 76), (34, o_il 5), (36, o_al 0), (37, o_il 2), (38, o_callv 0 2 (P mM_length)), (41, o_icge 76), (44, o_al 0), (45, o_il 1), (46, o_il 3), (47, o_il 5), (49, o_iadd), (50, o_callv 0 3 (P mM_byteAt)), (53, o_al 0), (54, o_il 2), (55, o_il 5), (57, o_callv 0 3 (P mM_byteAt)), (60, o_icne 67), (63, o_ic (1)), (64, o_go 68), (67, o_ic (0)), (68, o_is 4), (70, o_inc 5 (1)), (73, o_go 29), (76, o_il 4), (78, o_retz)]
set_option maxRecDepth 20000 in
theorem sM_stands (E : mEnv) : qm_cok (mK E (rmL 2) prog_10_method_26_code 6 "FunctionRowsModel" (wsT yM_stands prog_10_method_26_code 6 (some .boolean)) (some .boolean)) (kM_stands (mSd E)) := have hE := mOk E
  ⟨os_il_n (j := 3) (by decide +kernel) rfl, os_iflt (off := 22) (by decide +kernel) (by decide), os_il_n (j := 3) (by decide +kernel) rfl, os_al_n (j := 0) (by decide +kernel) rfl, os_il_n (j := 2) (by decide +kernel) rfl, os_callv hE (pc := 7) (idx := 100) (ci := 4) (by decide +kernel) rfl mrc (cwT_v cM_length inM mlM_100 imM_length seM_length (by decide +kernel) (by decide)), os_iadd (by decide +kernel), os_al_n (j := 0) (by decide +kernel) rfl, os_il_n (j := 1) (by decide +kernel) rfl, os_callv hE (pc := 13) (idx := 100) (ci := 4) (by decide +kernel) rfl mrc (cwT_v cM_length inM mlM_100 imM_length seM_length (by decide +kernel) (by decide)), os_icgt (off := 7) (by decide +kernel) (by decide), os_iconst (n := 1) (by decide +kernel) (by decide +kernel), os_go (off := 4) (by decide +kernel) (by decide), os_iconst (n := 0) (by decide +kernel) (by decide +kernel), os_is (by decide +kernel) (by decide), os_iconst (n := 0) (by decide +kernel) (by decide +kernel), os_is (by decide +kernel) (by decide), os_il (by decide +kernel), os_ifeq (off := 45) (by decide +kernel) (by decide), os_il (by decide +kernel), os_al_n (j := 0) (by decide +kernel) rfl, os_il_n (j := 2) (by decide +kernel) rfl, os_callv hE (pc := 38) (idx := 100) (ci := 4) (by decide +kernel) rfl mrc (cwT_v cM_length inM mlM_100 imM_length seM_length (by decide +kernel) (by decide)), os_icge (off := 35) (by decide +kernel) (by decide), os_al_n (j := 0) (by decide +kernel) rfl, os_il_n (j := 1) (by decide +kernel) rfl, os_il_n (j := 3) (by decide +kernel) rfl, os_il (by decide +kernel), os_iadd (by decide +kernel), os_callv hE (pc := 50) (idx := 103) (ci := 4) (by decide +kernel) rfl mrc (cwT_v cM_byteAt inM mlM_103 imM_byteAt seM_byteAt (by decide +kernel) (by decide)), os_al_n (j := 0) (by decide +kernel) rfl, os_il_n (j := 2) (by decide +kernel) rfl, os_il (by decide +kernel), os_callv hE (pc := 57) (idx := 103) (ci := 4) (by decide +kernel) rfl mrc (cwT_v cM_byteAt inM mlM_103 imM_byteAt seM_byteAt (by decide +kernel) (by decide)), os_icne (off := 7) (by decide +kernel) (by decide), os_iconst (n := 1) (by decide +kernel) (by decide +kernel), os_go (off := 4) (by decide +kernel) (by decide), os_iconst (n := 0) (by decide +kernel) (by decide +kernel), os_is (by decide +kernel) (by decide), os_inc (n := 1) (by decide +kernel) (by decide +kernel) (by decide), os_go (off := -44) (by decide +kernel) (by decide), os_il (by decide +kernel), os_retz hE (by decide +kernel) rfl⟩
def kM_asNumber (P : MethodName × List Cond × Room → List qm_v → mG → Option qm_v → mG → Prop) : List (Nat × qm_op mG) := [(0, o_al 0), (1, o_get 0 rdM8), (4, o_il 2), (5, o_ald 1 miL miR), (6, o_ic (2)), (7, o_iceq 20), (10, o_al 0), (11, o_get 0 rdM8), (14, o_il 2), (15, o_ald 1 miL miR), (16, o_ic (1)), (17, o_icne 33), (20, o_al 0), (21, o_il 1), (22, o_ic (2)), (23, o_al 0), (24, o_get 0 rdM9), (27, o_il 2), (28, o_lald 3 mlL mlR), (29, o_callv 0 4 (P mM_set)), (32, o_ret0), (33, o_al 0), (34, o_get 0 rdM8), (37, o_il 2), (38, o_ald 1 miL miR), (39, o_ic (3)), (40, o_icne 52), (43, o_al 0), (44, o_get 0 rdM10), (47, o_il 2), (48, o_ald 1 miL miR), (49, o_ifeq 53), (52, o_ret0), (53, o_al 0), (54, o_il 2), (55, o_callv 0 2 (P mM_length)), (58, o_ifle 76), (61, o_al 0), (62, o_il 2), (63, o_ic (0)), (64, o_callv 0 3 (P mM_byteAt)), (67, o_ic (45)), (69, o_icne 76), (72, o_ic (1)), (73, o_go 77), (76, o_ic (0)), (77, o_is 3), (78, o_il 3), (79, o_ifeq 86), (82, o_ic (1)), (83, o_go 87), (86, o_ic (0)), (87, o_is 4), (89, o_al 0), (90, o_il 2), (91, o_callv 0 2 (P mM_length)), (94, o_il 4), (96, o_isub), (97, o_i2l), (98, o_lc 1), (99, o_lc (15)), (102, o_call 3 (P mM_in)), (105, o_is 5), (107, o_lc 0), (108, o_ls 6), (110, o_il 4), (112, o_is 8), (114, o_il 8), (116, o_al 0), (117, o_il 2), (118, o_callv 0 2 (P mM_length)), (121, o_icge 175), (124, o_il 5), (126, o_ifeq 175), (129, o_al 0), (130, o_il 2), (131, o_il 8), (133, o_callv 0 3 (P mM_byteAt)), (136, o_i2l), (137, o_lc (48)), (140, o_lc (57)), (143, o_call 3 (P mM_in)), (146, o_is 5), (148, o_lc (10)), (151, o_ll 6), (153, o_lmul), (154, o_al 0), (155, o_il 2), (156, o_il 8), (158, o_callv 0 3 (P mM_byteAt)), (161, o_i2l), (162, o_ladd), (163, o_lc (48)), (166, o_lsub), (167, o_ls 6), (169, o_inc 8 (1)), (172, o_go 114), (175, o_il 5), (177, o_ifeq 198), (180, o_al 0), (181, o_il 1), (182, o_ic (2)), (183, o_il 3), (184, o_ifeq 193), (187, o_ll 6), (189, o_lneg), (190, o_go 195), (193, o_ll 6), (195, o_callv 0 4 (P mM_set)), (198, o_ret0)]
set_option maxRecDepth 20000 in
theorem sM_asNumber (E : mEnv) : qm_cok (mK E (rmL 2) prog_10_method_34_code 9 "FunctionRowsModel" (wsT yM_asNumber prog_10_method_34_code 9 none) none) (kM_asNumber (mSd E)) := have hE := mOk E
  ⟨os_al_n (j := 0) (by decide +kernel) rfl, os_get (idx := 30) (f := 8) (ci := 4) (C := "FunctionRowsModel") (T := FM) (N := 17) (by decide +kernel) rfl (fun w h => tb_in (fiM w h)) (by decide) (tb_in lkM_30) glM8, os_il_n (j := 2) (by decide +kernel) rfl, os_iald (t0 := 1) (by decide +kernel) rfl mceI, os_iconst (n := 2) (by decide +kernel) (by decide +kernel), os_iceq (off := 13) (by decide +kernel) (by decide), os_al_n (j := 0) (by decide +kernel) rfl, os_get (idx := 30) (f := 8) (ci := 4) (C := "FunctionRowsModel") (T := FM) (N := 17) (by decide +kernel) rfl (fun w h => tb_in (fiM w h)) (by decide) (tb_in lkM_30) glM8, os_il_n (j := 2) (by decide +kernel) rfl, os_iald (t0 := 1) (by decide +kernel) rfl mceI, os_iconst (n := 1) (by decide +kernel) (by decide +kernel), os_icne (off := 16) (by decide +kernel) (by decide), os_al_n (j := 0) (by decide +kernel) rfl, os_il_n (j := 1) (by decide +kernel) rfl, os_iconst (n := 2) (by decide +kernel) (by decide +kernel), os_al_n (j := 0) (by decide +kernel) rfl, os_get (idx := 33) (f := 9) (ci := 4) (C := "FunctionRowsModel") (T := FM) (N := 17) (by decide +kernel) rfl (fun w h => tb_in (fiM w h)) (by decide) (tb_in lkM_33) glM9, os_il_n (j := 2) (by decide +kernel) rfl, os_lald (t0 := 2) (by decide +kernel) rfl mceL, os_callv hE (pc := 29) (idx := 88) (ci := 4) (by decide +kernel) rfl mrc (cwT_v cM_set inM mlM_88 imM_set seM_set (by decide +kernel) (by decide)), os_ret0 hE (by decide +kernel) rfl, os_al_n (j := 0) (by decide +kernel) rfl, os_get (idx := 30) (f := 8) (ci := 4) (C := "FunctionRowsModel") (T := FM) (N := 17) (by decide +kernel) rfl (fun w h => tb_in (fiM w h)) (by decide) (tb_in lkM_30) glM8, os_il_n (j := 2) (by decide +kernel) rfl, os_iald (t0 := 1) (by decide +kernel) rfl mceI, os_iconst (n := 3) (by decide +kernel) (by decide +kernel), os_icne (off := 12) (by decide +kernel) (by decide), os_al_n (j := 0) (by decide +kernel) rfl, os_get (idx := 36) (f := 10) (ci := 4) (C := "FunctionRowsModel") (T := FM) (N := 17) (by decide +kernel) rfl (fun w h => tb_in (fiM w h)) (by decide) (tb_in lkM_36) glM10, os_il_n (j := 2) (by decide +kernel) rfl, os_iald (t0 := 1) (by decide +kernel) rfl mceI, os_ifeq (off := 4) (by decide +kernel) (by decide), os_ret0 hE (by decide +kernel) rfl, os_al_n (j := 0) (by decide +kernel) rfl, os_il_n (j := 2) (by decide +kernel) rfl, os_callv hE (pc := 55) (idx := 100) (ci := 4) (by decide +kernel) rfl mrc (cwT_v cM_length inM mlM_100 imM_length seM_length (by decide +kernel) (by decide)), os_ifle (off := 18) (by decide +kernel) (by decide), os_al_n (j := 0) (by decide +kernel) rfl, os_il_n (j := 2) (by decide +kernel) rfl, os_iconst (n := 0) (by decide +kernel) (by decide +kernel), os_callv hE (pc := 64) (idx := 103) (ci := 4) (by decide +kernel) rfl mrc (cwT_v cM_byteAt inM mlM_103 imM_byteAt seM_byteAt (by decide +kernel) (by decide)), os_bipush (n := 45) (by decide +kernel) (by decide +kernel), os_icne (off := 7) (by decide +kernel) (by decide), os_iconst (n := 1) (by decide +kernel) (by decide +kernel), os_go (off := 4) (by decide +kernel) (by decide), os_iconst (n := 0) (by decide +kernel) (by decide +kernel), os_is_n (j := 3) (by decide +kernel) rfl (by decide), os_il_n (j := 3) (by decide +kernel) rfl, os_ifeq (off := 7) (by decide +kernel) (by decide), os_iconst (n := 1) (by decide +kernel) (by decide +kernel), os_go (off := 4) (by decide +kernel) (by decide), os_iconst (n := 0) (by decide +kernel) (by decide +kernel), os_is (by decide +kernel) (by decide), os_al_n (j := 0) (by decide +kernel) rfl, os_il_n (j := 2) (by decide +kernel) rfl, os_callv hE (pc := 91) (idx := 100) (ci := 4) (by decide +kernel) rfl mrc (cwT_v cM_length inM mlM_100 imM_length seM_length (by decide +kernel) (by decide)), os_il (by decide +kernel), os_isub (by decide +kernel), os_i2l (by decide +kernel), os_lconst (n := 1) (by decide +kernel) (by decide +kernel), os_ldc2 (idx := 184) (by decide +kernel) (tb_in klM_184), os_call hE (pc := 102) (idx := 47) (by decide +kernel) (cwT_s cM_in inM mlM_47 stM_in (by decide +kernel) (by decide)), os_is (by decide +kernel) (by decide), os_lconst (n := 0) (by decide +kernel) (by decide +kernel), os_ls (by decide +kernel) (by decide), os_il (by decide +kernel), os_is (by decide +kernel) (by decide), os_il (by decide +kernel), os_al_n (j := 0) (by decide +kernel) rfl, os_il_n (j := 2) (by decide +kernel) rfl, os_callv hE (pc := 118) (idx := 100) (ci := 4) (by decide +kernel) rfl mrc (cwT_v cM_length inM mlM_100 imM_length seM_length (by decide +kernel) (by decide)), os_icge (off := 54) (by decide +kernel) (by decide), os_il (by decide +kernel), os_ifeq (off := 49) (by decide +kernel) (by decide), os_al_n (j := 0) (by decide +kernel) rfl, os_il_n (j := 2) (by decide +kernel) rfl, os_il (by decide +kernel), os_callv hE (pc := 133) (idx := 103) (ci := 4) (by decide +kernel) rfl mrc (cwT_v cM_byteAt inM mlM_103 imM_byteAt seM_byteAt (by decide +kernel) (by decide)), os_i2l (by decide +kernel), os_ldc2 (idx := 186) (by decide +kernel) (tb_in klM_186), os_ldc2 (idx := 188) (by decide +kernel) (tb_in klM_188), os_call hE (pc := 143) (idx := 47) (by decide +kernel) (cwT_s cM_in inM mlM_47 stM_in (by decide +kernel) (by decide)), os_is (by decide +kernel) (by decide), os_ldc2 (idx := 98) (by decide +kernel) (tb_in klM_98), os_ll (by decide +kernel), os_lmul (by decide +kernel), os_al_n (j := 0) (by decide +kernel) rfl, os_il_n (j := 2) (by decide +kernel) rfl, os_il (by decide +kernel), os_callv hE (pc := 158) (idx := 103) (ci := 4) (by decide +kernel) rfl mrc (cwT_v cM_byteAt inM mlM_103 imM_byteAt seM_byteAt (by decide +kernel) (by decide)), os_i2l (by decide +kernel), os_ladd (by decide +kernel), os_ldc2 (idx := 186) (by decide +kernel) (tb_in klM_186), os_lsub (by decide +kernel), os_ls (by decide +kernel) (by decide), os_inc (n := 1) (by decide +kernel) (by decide +kernel) (by decide), os_go (off := -58) (by decide +kernel) (by decide), os_il (by decide +kernel), os_ifeq (off := 21) (by decide +kernel) (by decide), os_al_n (j := 0) (by decide +kernel) rfl, os_il_n (j := 1) (by decide +kernel) rfl, os_iconst (n := 2) (by decide +kernel) (by decide +kernel), os_il_n (j := 3) (by decide +kernel) rfl, os_ifeq (off := 9) (by decide +kernel) (by decide), os_ll (by decide +kernel), os_lneg (by decide +kernel), os_go (off := 5) (by decide +kernel) (by decide), os_ll (by decide +kernel), os_callv hE (pc := 195) (idx := 88) (ci := 4) (by decide +kernel) rfl mrc (cwT_v cM_set inM mlM_88 imM_set seM_set (by decide +kernel) (by decide)), os_ret0 hE (by decide +kernel) rfl⟩
def kM_here (P : MethodName × List Cond × Room → List qm_v → mG → Option qm_v → mG → Prop) : List (Nat × qm_op mG) := [(0, o_al 0), (1, o_get 0 rdM13), (4, o_al 0), (5, o_al 0), (6, o_get 0 rdM12), (9, o_callv 0 2 (P mM_length)), (12, o_icge 30), (15, o_al 0), (16, o_al 0), (17, o_get 0 rdM12), (20, o_al 0), (21, o_get 0 rdM13), (24, o_callv 0 3 (P mM_byteAt)), (27, o_go 31), (30, o_ic (0)), (31, o_reti)]
set_option maxRecDepth 20000 in
theorem sM_here (E : mEnv) : qm_cok (mK E (rmL 2) prog_10_method_38_code 1 "FunctionRowsModel" (wsT yM_here prog_10_method_38_code 1 (some .int)) (some .int)) (kM_here (mSd E)) := have hE := mOk E
  ⟨os_al_n (j := 0) (by decide +kernel) rfl, os_get (idx := 203) (f := 13) (ci := 4) (C := "FunctionRowsModel") (T := FM) (N := 17) (by decide +kernel) rfl (fun w h => tb_in (fiM w h)) (by decide) (tb_in lkM_203) glM13, os_al_n (j := 0) (by decide +kernel) rfl, os_al_n (j := 0) (by decide +kernel) rfl, os_get (idx := 197) (f := 12) (ci := 4) (C := "FunctionRowsModel") (T := FM) (N := 17) (by decide +kernel) rfl (fun w h => tb_in (fiM w h)) (by decide) (tb_in lkM_197) glM12, os_callv hE (pc := 9) (idx := 100) (ci := 4) (by decide +kernel) rfl mrc (cwT_v cM_length inM mlM_100 imM_length seM_length (by decide +kernel) (by decide)), os_icge (off := 18) (by decide +kernel) (by decide), os_al_n (j := 0) (by decide +kernel) rfl, os_al_n (j := 0) (by decide +kernel) rfl, os_get (idx := 197) (f := 12) (ci := 4) (C := "FunctionRowsModel") (T := FM) (N := 17) (by decide +kernel) rfl (fun w h => tb_in (fiM w h)) (by decide) (tb_in lkM_197) glM12, os_al_n (j := 0) (by decide +kernel) rfl, os_get (idx := 203) (f := 13) (ci := 4) (C := "FunctionRowsModel") (T := FM) (N := 17) (by decide +kernel) rfl (fun w h => tb_in (fiM w h)) (by decide) (tb_in lkM_203) glM13, os_callv hE (pc := 24) (idx := 103) (ci := 4) (by decide +kernel) rfl mrc (cwT_v cM_byteAt inM mlM_103 imM_byteAt seM_byteAt (by decide +kernel) (by decide)), os_go (off := 4) (by decide +kernel) (by decide), os_iconst (n := 0) (by decide +kernel) (by decide +kernel), os_reti hE (by decide +kernel) rfl⟩
def kM_step (P : MethodName × List Cond × Room → List qm_v → mG → Option qm_v → mG → Prop) : List (Nat × qm_op mG) := [(0, o_ic (0)), (1, o_is 4), (3, o_ic (0)), (4, o_is 5), (6, o_il 5), (8, o_al 0), (9, o_al 0), (10, o_get 0 rdM15), (13, o_callv 0 2 (P mM_length)), (16, o_icge 64), (19, o_il 1), (20, o_il 5), (22, o_ishr), (23, o_ic (1)), (24, o_iand), (25, o_ic (1)), (26, o_icne 58), (29, o_il 2), (30, o_ifne 47), (33, o_al 0), (34, o_al 0), (35, o_get 0 rdM15), (38, o_il 5), (40, o_callv 0 3 (P mM_byteAt)), (43, o_il 3), (44, o_icne 58), (47, o_il 4), (49, o_ic (1)), (50, o_il 5), (52, o_ic (1)), (53, o_iadd), (54, o_ishl), (55, o_ior), (56, o_is 4), (58, o_inc 5 (1)), (61, o_go 6), (64, o_il 4), (66, o_reti)]
set_option maxRecDepth 20000 in
theorem sM_step (E : mEnv) : qm_cok (mK E (rmL 2) prog_10_method_42_code 6 "FunctionRowsModel" (wsT yM_step prog_10_method_42_code 6 (some .int)) (some .int)) (kM_step (mSd E)) := have hE := mOk E
  ⟨os_iconst (n := 0) (by decide +kernel) (by decide +kernel), os_is (by decide +kernel) (by decide), os_iconst (n := 0) (by decide +kernel) (by decide +kernel), os_is (by decide +kernel) (by decide), os_il (by decide +kernel), os_al_n (j := 0) (by decide +kernel) rfl, os_al_n (j := 0) (by decide +kernel) rfl, os_get (idx := 200) (f := 15) (ci := 4) (C := "FunctionRowsModel") (T := FM) (N := 17) (by decide +kernel) rfl (fun w h => tb_in (fiM w h)) (by decide) (tb_in lkM_200) glM15, os_callv hE (pc := 13) (idx := 100) (ci := 4) (by decide +kernel) rfl mrc (cwT_v cM_length inM mlM_100 imM_length seM_length (by decide +kernel) (by decide)), os_icge (off := 48) (by decide +kernel) (by decide), os_il_n (j := 1) (by decide +kernel) rfl, os_il (by decide +kernel), os_ishr (by decide +kernel), os_iconst (n := 1) (by decide +kernel) (by decide +kernel), os_iand (by decide +kernel), os_iconst (n := 1) (by decide +kernel) (by decide +kernel), os_icne (off := 32) (by decide +kernel) (by decide), os_il_n (j := 2) (by decide +kernel) rfl, os_ifne (off := 17) (by decide +kernel) (by decide), os_al_n (j := 0) (by decide +kernel) rfl, os_al_n (j := 0) (by decide +kernel) rfl, os_get (idx := 200) (f := 15) (ci := 4) (C := "FunctionRowsModel") (T := FM) (N := 17) (by decide +kernel) rfl (fun w h => tb_in (fiM w h)) (by decide) (tb_in lkM_200) glM15, os_il (by decide +kernel), os_callv hE (pc := 40) (idx := 103) (ci := 4) (by decide +kernel) rfl mrc (cwT_v cM_byteAt inM mlM_103 imM_byteAt seM_byteAt (by decide +kernel) (by decide)), os_il_n (j := 3) (by decide +kernel) rfl, os_icne (off := 14) (by decide +kernel) (by decide), os_il (by decide +kernel), os_iconst (n := 1) (by decide +kernel) (by decide +kernel), os_il (by decide +kernel), os_iconst (n := 1) (by decide +kernel) (by decide +kernel), os_iadd (by decide +kernel), os_ishl (by decide +kernel), os_ior (by decide +kernel), os_is (by decide +kernel) (by decide), os_inc (n := 1) (by decide +kernel) (by decide +kernel) (by decide), os_go (off := -55) (by decide +kernel) (by decide), os_il (by decide +kernel), os_reti hE (by decide +kernel) rfl⟩
def kM_letter (P : MethodName × List Cond × Room → List qm_v → mG → Option qm_v → mG → Prop) : List (Nat × qm_op mG) := [(0, o_al 0), (1, o_get 0 rdM8), (4, o_ic (88)), (6, o_ald 1 miL miR), (7, o_ic (3)), (8, o_icne 39), (11, o_il 1), (12, o_i2l), (13, o_lc 0), (14, o_al 0), (15, o_ic (88)), (17, o_callv 0 2 (P mM_length)), (20, o_ic (1)), (21, o_isub), (22, o_i2l), (23, o_call 3 (P mM_in)), (26, o_ifeq 39), (29, o_al 0), (30, o_ic (88)), (32, o_il 1), (33, o_callv 0 3 (P mM_byteAt)), (36, o_go 41), (39, o_ic (-2)), (41, o_reti)]
set_option maxRecDepth 20000 in
theorem sM_letter (E : mEnv) : qm_cok (mK E (rmL 2) prog_10_method_49_code 2 "FunctionRowsModel" (wsT yM_letter prog_10_method_49_code 2 (some .int)) (some .int)) (kM_letter (mSd E)) := have hE := mOk E
  ⟨os_al_n (j := 0) (by decide +kernel) rfl, os_get (idx := 30) (f := 8) (ci := 4) (C := "FunctionRowsModel") (T := FM) (N := 17) (by decide +kernel) rfl (fun w h => tb_in (fiM w h)) (by decide) (tb_in lkM_30) glM8, os_bipush (n := 88) (by decide +kernel) (by decide +kernel), os_iald (t0 := 1) (by decide +kernel) rfl mceI, os_iconst (n := 3) (by decide +kernel) (by decide +kernel), os_icne (off := 31) (by decide +kernel) (by decide), os_il_n (j := 1) (by decide +kernel) rfl, os_i2l (by decide +kernel), os_lconst (n := 0) (by decide +kernel) (by decide +kernel), os_al_n (j := 0) (by decide +kernel) rfl, os_bipush (n := 88) (by decide +kernel) (by decide +kernel), os_callv hE (pc := 17) (idx := 100) (ci := 4) (by decide +kernel) rfl mrc (cwT_v cM_length inM mlM_100 imM_length seM_length (by decide +kernel) (by decide)), os_iconst (n := 1) (by decide +kernel) (by decide +kernel), os_isub (by decide +kernel), os_i2l (by decide +kernel), os_call hE (pc := 23) (idx := 47) (by decide +kernel) (cwT_s cM_in inM mlM_47 stM_in (by decide +kernel) (by decide)), os_ifeq (off := 13) (by decide +kernel) (by decide), os_al_n (j := 0) (by decide +kernel) rfl, os_bipush (n := 88) (by decide +kernel) (by decide +kernel), os_il_n (j := 1) (by decide +kernel) rfl, os_callv hE (pc := 33) (idx := 103) (ci := 4) (by decide +kernel) rfl mrc (cwT_v cM_byteAt inM mlM_103 imM_byteAt seM_byteAt (by decide +kernel) (by decide)), os_go (off := 5) (by decide +kernel) (by decide), os_bipush (n := -2) (by decide +kernel) (by decide +kernel), os_reti hE (by decide +kernel) rfl⟩
def kM_give (P : MethodName × List Cond × Room → List qm_v → mG → Option qm_v → mG → Prop) : List (Nat × qm_op mG) := [(0, o_il 1), (1, o_i2l), (2, o_lc 0), (3, o_lc (7)), (6, o_call 3 (P mM_in)), (9, o_ifne 14), (12, o_ic (-1)), (13, o_reti), (14, o_al 0), (15, o_get 0 rdM8), (18, o_ic (88)), (20, o_ald 1 miL miR), (21, o_ifne 27), (24, o_ic (-2)), (26, o_reti), (27, o_al 0), (28, o_ic (88)), (30, o_ic (80)), (32, o_il 1), (33, o_iadd), (34, o_callv 0 3 (P mM_copy)), (37, o_ic (1)), (38, o_reti)]
set_option maxRecDepth 20000 in
theorem sM_give (E : mEnv) : qm_cok (mK E (rmL 2) prog_10_method_50_code 2 "FunctionRowsModel" (wsT yM_give prog_10_method_50_code 2 (some .int)) (some .int)) (kM_give (mSd E)) := have hE := mOk E
  ⟨os_il_n (j := 1) (by decide +kernel) rfl, os_i2l (by decide +kernel), os_lconst (n := 0) (by decide +kernel) (by decide +kernel), os_ldc2 (idx := 76) (by decide +kernel) (tb_in klM_76), os_call hE (pc := 6) (idx := 47) (by decide +kernel) (cwT_s cM_in inM mlM_47 stM_in (by decide +kernel) (by decide)), os_ifne (off := 5) (by decide +kernel) (by decide), os_iconst (n := -1) (by decide +kernel) (by decide +kernel), os_reti hE (by decide +kernel) rfl, os_al_n (j := 0) (by decide +kernel) rfl, os_get (idx := 30) (f := 8) (ci := 4) (C := "FunctionRowsModel") (T := FM) (N := 17) (by decide +kernel) rfl (fun w h => tb_in (fiM w h)) (by decide) (tb_in lkM_30) glM8, os_bipush (n := 88) (by decide +kernel) (by decide +kernel), os_iald (t0 := 1) (by decide +kernel) rfl mceI, os_ifne (off := 6) (by decide +kernel) (by decide), os_bipush (n := -2) (by decide +kernel) (by decide +kernel), os_reti hE (by decide +kernel) rfl, os_al_n (j := 0) (by decide +kernel) rfl, os_bipush (n := 88) (by decide +kernel) (by decide +kernel), os_bipush (n := 80) (by decide +kernel) (by decide +kernel), os_il_n (j := 1) (by decide +kernel) rfl, os_iadd (by decide +kernel), os_callv hE (pc := 34) (idx := 111) (ci := 4) (by decide +kernel) rfl mrc (cwT_v cM_copy inM mlM_111 imM_copy seM_copy (by decide +kernel) (by decide)), os_iconst (n := 1) (by decide +kernel) (by decide +kernel), os_reti hE (by decide +kernel) rfl⟩
def kM_drop (P : MethodName × List Cond × Room → List qm_v → mG → Option qm_v → mG → Prop) : List (Nat × qm_op mG) := [(0, o_il 1), (1, o_i2l), (2, o_lc 0), (3, o_lc (7)), (6, o_call 3 (P mM_in)), (9, o_ifne 14), (12, o_ic (-1)), (13, o_reti), (14, o_al 0), (15, o_get 0 rdM8), (18, o_ic (80)), (20, o_il 1), (21, o_iadd), (22, o_ald 1 miL miR), (23, o_ifeq 30), (26, o_ic (1)), (27, o_go 31), (30, o_ic (0)), (31, o_is 2), (32, o_al 0), (33, o_get 0 rdM8), (36, o_ic (80)), (38, o_il 1), (39, o_iadd), (40, o_ic (0)), (41, o_ast 1 miL miW), (42, o_il 2), (43, o_ifeq 50), (46, o_ic (1)), (47, o_go 51), (50, o_ic (0)), (51, o_reti)]
set_option maxRecDepth 20000 in
theorem sM_drop (E : mEnv) : qm_cok (mK E (rmL 2) prog_10_method_51_code 3 "FunctionRowsModel" (wsT yM_drop prog_10_method_51_code 3 (some .int)) (some .int)) (kM_drop (mSd E)) := have hE := mOk E
  ⟨os_il_n (j := 1) (by decide +kernel) rfl, os_i2l (by decide +kernel), os_lconst (n := 0) (by decide +kernel) (by decide +kernel), os_ldc2 (idx := 76) (by decide +kernel) (tb_in klM_76), os_call hE (pc := 6) (idx := 47) (by decide +kernel) (cwT_s cM_in inM mlM_47 stM_in (by decide +kernel) (by decide)), os_ifne (off := 5) (by decide +kernel) (by decide), os_iconst (n := -1) (by decide +kernel) (by decide +kernel), os_reti hE (by decide +kernel) rfl, os_al_n (j := 0) (by decide +kernel) rfl, os_get (idx := 30) (f := 8) (ci := 4) (C := "FunctionRowsModel") (T := FM) (N := 17) (by decide +kernel) rfl (fun w h => tb_in (fiM w h)) (by decide) (tb_in lkM_30) glM8, os_bipush (n := 80) (by decide +kernel) (by decide +kernel), os_il_n (j := 1) (by decide +kernel) rfl, os_iadd (by decide +kernel), os_iald (t0 := 1) (by decide +kernel) rfl mceI, os_ifeq (off := 7) (by decide +kernel) (by decide), os_iconst (n := 1) (by decide +kernel) (by decide +kernel), os_go (off := 4) (by decide +kernel) (by decide), os_iconst (n := 0) (by decide +kernel) (by decide +kernel), os_is_n (j := 2) (by decide +kernel) rfl (by decide), os_al_n (j := 0) (by decide +kernel) rfl, os_get (idx := 30) (f := 8) (ci := 4) (C := "FunctionRowsModel") (T := FM) (N := 17) (by decide +kernel) rfl (fun w h => tb_in (fiM w h)) (by decide) (tb_in lkM_30) glM8, os_bipush (n := 80) (by decide +kernel) (by decide +kernel), os_il_n (j := 1) (by decide +kernel) rfl, os_iadd (by decide +kernel), os_iconst (n := 0) (by decide +kernel) (by decide +kernel), os_iast hE (t0 := 1) (by decide +kernel) rfl mceI mwrI mokI, os_il_n (j := 2) (by decide +kernel) rfl, os_ifeq (off := 7) (by decide +kernel) (by decide), os_iconst (n := 1) (by decide +kernel) (by decide +kernel), os_go (off := 4) (by decide +kernel) (by decide), os_iconst (n := 0) (by decide +kernel) (by decide +kernel), os_reti hE (by decide +kernel) rfl⟩
def kM_call (P : MethodName × List Cond × Room → List qm_v → mG → Option qm_v → mG → Prop) : List (Nat × qm_op mG) := [(0, o_il 1), (1, o_i2l), (2, o_lc 0), (3, o_lc (29)), (6, o_call 3 (P mM_in)), (9, o_is 5), (11, o_ic (0)), (12, o_is 6), (14, o_il 5), (16, o_ifeq 61), (19, o_il 6), (21, o_il 1), (22, o_call 1 (P mM_arity)), (25, o_icge 61), (28, o_al 0), (29, o_il 6), (31, o_ifne 38), (34, o_il 2), (35, o_go 50), (38, o_il 6), (40, o_ic (1)), (41, o_icne 48), (44, o_il 3), (45, o_go 50), (48, o_il 4), (50, o_callv 0 2 (P mM_isExpression)), (53, o_is 5), (55, o_inc 6 (1)), (58, o_go 14), (61, o_il 5), (63, o_ifne 68), (66, o_ic (-1)), (67, o_reti), (68, o_al 0), (69, o_ic (6)), (71, o_il 1), (72, o_i2l), (73, o_callv 0 3 (P mM_add)), (76, o_is 6), (78, o_il 6), (80, o_iflt 118), (83, o_al 0), (84, o_get 0 rdM5), (87, o_ic (3)), (88, o_il 6), (90, o_imul), (91, o_il 2), (92, o_ast 1 miL miW), (93, o_al 0), (94, o_get 0 rdM5), (97, o_ic (3)), (98, o_il 6), (100, o_imul), (101, o_ic (1)), (102, o_iadd), (103, o_il 3), (104, o_ast 1 miL miW), (105, o_al 0), (106, o_get 0 rdM5), (109, o_ic (3)), (110, o_il 6), (112, o_imul), (113, o_ic (2)), (114, o_iadd), (115, o_il 4), (117, o_ast 1 miL miW), (118, o_il 6), (120, o_reti)]
set_option maxRecDepth 20000 in
theorem sM_call (E : mEnv) : qm_cok (mK E (rmL 3) prog_10_method_12_code 7 "FunctionRowsModel" (wsT yM_call prog_10_method_12_code 7 (some .int)) (some .int)) (kM_call (mSd E)) := have hE := mOk E
  ⟨os_il_n (j := 1) (by decide +kernel) rfl, os_i2l (by decide +kernel), os_lconst (n := 0) (by decide +kernel) (by decide +kernel), os_ldc2 (idx := 78) (by decide +kernel) (tb_in klM_78), os_call hE (pc := 6) (idx := 47) (by decide +kernel) (cwT_s cM_in inM mlM_47 stM_in (by decide +kernel) (by decide)), os_is (by decide +kernel) (by decide), os_iconst (n := 0) (by decide +kernel) (by decide +kernel), os_is (by decide +kernel) (by decide), os_il (by decide +kernel), os_ifeq (off := 45) (by decide +kernel) (by decide), os_il (by decide +kernel), os_il_n (j := 1) (by decide +kernel) rfl, os_call hE (pc := 22) (idx := 80) (by decide +kernel) (cwT_s cM_arity inM mlM_80 stM_arity (by decide +kernel) (by decide)), os_icge (off := 36) (by decide +kernel) (by decide), os_al_n (j := 0) (by decide +kernel) rfl, os_il (by decide +kernel), os_ifne (off := 7) (by decide +kernel) (by decide), os_il_n (j := 2) (by decide +kernel) rfl, os_go (off := 15) (by decide +kernel) (by decide), os_il (by decide +kernel), os_iconst (n := 1) (by decide +kernel) (by decide +kernel), os_icne (off := 7) (by decide +kernel) (by decide), os_il_n (j := 3) (by decide +kernel) rfl, os_go (off := 5) (by decide +kernel) (by decide), os_il (by decide +kernel), os_callv hE (pc := 50) (idx := 84) (ci := 4) (by decide +kernel) rfl mrc (cwT_v cM_isExpression inM mlM_84 imM_isExpression seM_isExpression (by decide +kernel) (by decide)), os_is (by decide +kernel) (by decide), os_inc (n := 1) (by decide +kernel) (by decide +kernel) (by decide), os_go (off := -44) (by decide +kernel) (by decide), os_il (by decide +kernel), os_ifne (off := 5) (by decide +kernel) (by decide), os_iconst (n := -1) (by decide +kernel) (by decide +kernel), os_reti hE (by decide +kernel) rfl, os_al_n (j := 0) (by decide +kernel) rfl, os_bipush (n := 6) (by decide +kernel) (by decide +kernel), os_il_n (j := 1) (by decide +kernel) rfl, os_i2l (by decide +kernel), os_callv hE (pc := 73) (idx := 66) (ci := 4) (by decide +kernel) rfl mrc (cwT_v cM_add inM mlM_66 imM_add seM_add (by decide +kernel) (by decide)), os_is (by decide +kernel) (by decide), os_il (by decide +kernel), os_iflt (off := 38) (by decide +kernel) (by decide), os_al_n (j := 0) (by decide +kernel) rfl, os_get (idx := 20) (f := 5) (ci := 4) (C := "FunctionRowsModel") (T := FM) (N := 17) (by decide +kernel) rfl (fun w h => tb_in (fiM w h)) (by decide) (tb_in lkM_20) glM5, os_iconst (n := 3) (by decide +kernel) (by decide +kernel), os_il (by decide +kernel), os_imul (by decide +kernel), os_il_n (j := 2) (by decide +kernel) rfl, os_iast hE (t0 := 1) (by decide +kernel) rfl mceI mwrI mokI, os_al_n (j := 0) (by decide +kernel) rfl, os_get (idx := 20) (f := 5) (ci := 4) (C := "FunctionRowsModel") (T := FM) (N := 17) (by decide +kernel) rfl (fun w h => tb_in (fiM w h)) (by decide) (tb_in lkM_20) glM5, os_iconst (n := 3) (by decide +kernel) (by decide +kernel), os_il (by decide +kernel), os_imul (by decide +kernel), os_iconst (n := 1) (by decide +kernel) (by decide +kernel), os_iadd (by decide +kernel), os_il_n (j := 3) (by decide +kernel) rfl, os_iast hE (t0 := 1) (by decide +kernel) rfl mceI mwrI mokI, os_al_n (j := 0) (by decide +kernel) rfl, os_get (idx := 20) (f := 5) (ci := 4) (C := "FunctionRowsModel") (T := FM) (N := 17) (by decide +kernel) rfl (fun w h => tb_in (fiM w h)) (by decide) (tb_in lkM_20) glM5, os_iconst (n := 3) (by decide +kernel) (by decide +kernel), os_il (by decide +kernel), os_imul (by decide +kernel), os_iconst (n := 2) (by decide +kernel) (by decide +kernel), os_iadd (by decide +kernel), os_il (by decide +kernel), os_iast hE (t0 := 1) (by decide +kernel) rfl mceI mwrI mokI, os_il (by decide +kernel), os_reti hE (by decide +kernel) rfl⟩
def kM_placeOf (P : MethodName × List Cond × Room → List qm_v → mG → Option qm_v → mG → Prop) : List (Nat × qm_op mG) := [(0, o_il 3), (1, o_is 4), (3, o_il 4), (5, o_al 0), (6, o_il 1), (7, o_callv 0 2 (P mM_length)), (10, o_icgt 33), (13, o_al 0), (14, o_il 1), (15, o_il 2), (16, o_il 4), (18, o_callv 0 4 (P mM_stands)), (21, o_ifeq 27), (24, o_il 4), (26, o_reti), (27, o_inc 4 (1)), (30, o_go 3), (33, o_ic (-1)), (34, o_reti)]
set_option maxRecDepth 20000 in
theorem sM_placeOf (E : mEnv) : qm_cok (mK E (rmL 3) prog_10_method_27_code 5 "FunctionRowsModel" (wsT yM_placeOf prog_10_method_27_code 5 (some .int)) (some .int)) (kM_placeOf (mSd E)) := have hE := mOk E
  ⟨os_il_n (j := 3) (by decide +kernel) rfl, os_is (by decide +kernel) (by decide), os_il (by decide +kernel), os_al_n (j := 0) (by decide +kernel) rfl, os_il_n (j := 1) (by decide +kernel) rfl, os_callv hE (pc := 7) (idx := 100) (ci := 4) (by decide +kernel) rfl mrc (cwT_v cM_length inM mlM_100 imM_length seM_length (by decide +kernel) (by decide)), os_icgt (off := 23) (by decide +kernel) (by decide), os_al_n (j := 0) (by decide +kernel) rfl, os_il_n (j := 1) (by decide +kernel) rfl, os_il_n (j := 2) (by decide +kernel) rfl, os_il (by decide +kernel), os_callv hE (pc := 18) (idx := 107) (ci := 4) (by decide +kernel) rfl mrc (cwT_v cM_stands inM mlM_107 imM_stands seM_stands (by decide +kernel) (by decide)), os_ifeq (off := 6) (by decide +kernel) (by decide), os_il (by decide +kernel), os_reti hE (by decide +kernel) rfl, os_inc (n := 1) (by decide +kernel) (by decide +kernel) (by decide), os_go (off := -27) (by decide +kernel) (by decide), os_iconst (n := -1) (by decide +kernel) (by decide +kernel), os_reti hE (by decide +kernel) rfl⟩
def kM_truths (P : MethodName × List Cond × Room → List qm_v → mG → Option qm_v → mG → Prop) : List (Nat × qm_op mG) := [(0, o_al 0), (1, o_il 3), (2, o_callv 0 2 (P mM_truth)), (5, o_is 5), (7, o_il 2), (8, o_ifne 15), (11, o_ic (0)), (12, o_go 21), (15, o_al 0), (16, o_il 4), (18, o_callv 0 2 (P mM_truth)), (21, o_is 6), (23, o_il 2), (24, o_sw [(0, 56), (1, 77), (2, 116), (3, 155)] 170), (56, o_al 0), (57, o_il 1), (58, o_il 5), (60, o_ifge 67), (63, o_ic (-1)), (64, o_go 71), (67, o_ic (1)), (68, o_il 5), (70, o_isub), (71, o_callv 0 3 (P mM_setTruth)), (74, o_go 182), (77, o_al 0), (78, o_il 1), (79, o_il 5), (81, o_ifeq 89), (84, o_il 6), (86, o_ifne 93), (89, o_ic (0)), (90, o_go 110), (93, o_il 5), (95, o_ic (1)), (96, o_icne 109), (99, o_il 6), (101, o_ic (1)), (102, o_icne 109), (105, o_ic (1)), (106, o_go 110), (109, o_ic (-1)), (110, o_callv 0 3 (P mM_setTruth)), (113, o_go 182), (116, o_al 0), (117, o_il 1), (118, o_il 5), (120, o_ic (1)), (121, o_iceq 130), (124, o_il 6), (126, o_ic (1)), (127, o_icne 134), (130, o_ic (1)), (131, o_go 149), (134, o_il 5), (136, o_ifne 148), (139, o_il 6), (141, o_ifne 148), (144, o_ic (0)), (145, o_go 149), (148, o_ic (-1)), (149, o_callv 0 3 (P mM_setTruth)), (152, o_go 182), (155, o_al 0), (156, o_il 1), (157, o_al 0), (158, o_il 3), (159, o_il 4), (161, o_callv 0 3 (P mM_same)), (164, o_callv 0 3 (P mM_setTruth)), (167, o_go 182), (170, o_al 0), (171, o_il 1), (172, o_al 0), (173, o_il 3), (174, o_il 4), (176, o_callv 0 3 (P mM_less)), (179, o_callv 0 3 (P mM_setTruth)), (182, o_ret0)]
set_option maxRecDepth 20000 in
theorem sM_truths (E : mEnv) : qm_cok (mK E (rmL 3) prog_10_method_29_code 7 "FunctionRowsModel" (wsT yM_truths prog_10_method_29_code 7 none) none) (kM_truths (mSd E)) := have hE := mOk E
  ⟨os_al_n (j := 0) (by decide +kernel) rfl, os_il_n (j := 3) (by decide +kernel) rfl, os_callv hE (pc := 2) (idx := 135) (ci := 4) (by decide +kernel) rfl mrc (cwT_v cM_truth inM mlM_135 imM_truth seM_truth (by decide +kernel) (by decide)), os_is (by decide +kernel) (by decide), os_il_n (j := 2) (by decide +kernel) rfl, os_ifne (off := 7) (by decide +kernel) (by decide), os_iconst (n := 0) (by decide +kernel) (by decide +kernel), os_go (off := 9) (by decide +kernel) (by decide), os_al_n (j := 0) (by decide +kernel) rfl, os_il (by decide +kernel), os_callv hE (pc := 18) (idx := 135) (ci := 4) (by decide +kernel) rfl mrc (cwT_v cM_truth inM mlM_135 imM_truth seM_truth (by decide +kernel) (by decide)), os_is (by decide +kernel) (by decide), os_il_n (j := 2) (by decide +kernel) rfl, os_table (len := 32) (dflt := 146) (lo := 0) (hi := 3) (offs := #[32, 53, 92, 131]) (by decide +kernel) (by decide) (by decide) (by decide +kernel) (by decide +kernel), os_al_n (j := 0) (by decide +kernel) rfl, os_il_n (j := 1) (by decide +kernel) rfl, os_il (by decide +kernel), os_ifge (off := 7) (by decide +kernel) (by decide), os_iconst (n := -1) (by decide +kernel) (by decide +kernel), os_go (off := 7) (by decide +kernel) (by decide), os_iconst (n := 1) (by decide +kernel) (by decide +kernel), os_il (by decide +kernel), os_isub (by decide +kernel), os_callv hE (pc := 71) (idx := 138) (ci := 4) (by decide +kernel) rfl mrc (cwT_v cM_setTruth inM mlM_138 imM_setTruth seM_setTruth (by decide +kernel) (by decide)), os_go (off := 108) (by decide +kernel) (by decide), os_al_n (j := 0) (by decide +kernel) rfl, os_il_n (j := 1) (by decide +kernel) rfl, os_il (by decide +kernel), os_ifeq (off := 8) (by decide +kernel) (by decide), os_il (by decide +kernel), os_ifne (off := 7) (by decide +kernel) (by decide), os_iconst (n := 0) (by decide +kernel) (by decide +kernel), os_go (off := 20) (by decide +kernel) (by decide), os_il (by decide +kernel), os_iconst (n := 1) (by decide +kernel) (by decide +kernel), os_icne (off := 13) (by decide +kernel) (by decide), os_il (by decide +kernel), os_iconst (n := 1) (by decide +kernel) (by decide +kernel), os_icne (off := 7) (by decide +kernel) (by decide), os_iconst (n := 1) (by decide +kernel) (by decide +kernel), os_go (off := 4) (by decide +kernel) (by decide), os_iconst (n := -1) (by decide +kernel) (by decide +kernel), os_callv hE (pc := 110) (idx := 138) (ci := 4) (by decide +kernel) rfl mrc (cwT_v cM_setTruth inM mlM_138 imM_setTruth seM_setTruth (by decide +kernel) (by decide)), os_go (off := 69) (by decide +kernel) (by decide), os_al_n (j := 0) (by decide +kernel) rfl, os_il_n (j := 1) (by decide +kernel) rfl, os_il (by decide +kernel), os_iconst (n := 1) (by decide +kernel) (by decide +kernel), os_iceq (off := 9) (by decide +kernel) (by decide), os_il (by decide +kernel), os_iconst (n := 1) (by decide +kernel) (by decide +kernel), os_icne (off := 7) (by decide +kernel) (by decide), os_iconst (n := 1) (by decide +kernel) (by decide +kernel), os_go (off := 18) (by decide +kernel) (by decide), os_il (by decide +kernel), os_ifne (off := 12) (by decide +kernel) (by decide), os_il (by decide +kernel), os_ifne (off := 7) (by decide +kernel) (by decide), os_iconst (n := 0) (by decide +kernel) (by decide +kernel), os_go (off := 4) (by decide +kernel) (by decide), os_iconst (n := -1) (by decide +kernel) (by decide +kernel), os_callv hE (pc := 149) (idx := 138) (ci := 4) (by decide +kernel) rfl mrc (cwT_v cM_setTruth inM mlM_138 imM_setTruth seM_setTruth (by decide +kernel) (by decide)), os_go (off := 30) (by decide +kernel) (by decide), os_al_n (j := 0) (by decide +kernel) rfl, os_il_n (j := 1) (by decide +kernel) rfl, os_al_n (j := 0) (by decide +kernel) rfl, os_il_n (j := 3) (by decide +kernel) rfl, os_il (by decide +kernel), os_callv hE (pc := 161) (idx := 141) (ci := 4) (by decide +kernel) rfl mrc (cwT_v cM_same inM mlM_141 imM_same seM_same (by decide +kernel) (by decide)), os_callv hE (pc := 164) (idx := 138) (ci := 4) (by decide +kernel) rfl mrc (cwT_v cM_setTruth inM mlM_138 imM_setTruth seM_setTruth (by decide +kernel) (by decide)), os_go (off := 15) (by decide +kernel) (by decide), os_al_n (j := 0) (by decide +kernel) rfl, os_il_n (j := 1) (by decide +kernel) rfl, os_al_n (j := 0) (by decide +kernel) rfl, os_il_n (j := 3) (by decide +kernel) rfl, os_il (by decide +kernel), os_callv hE (pc := 176) (idx := 144) (ci := 4) (by decide +kernel) rfl mrc (cwT_v cM_less inM mlM_144 imM_less seM_less (by decide +kernel) (by decide)), os_callv hE (pc := 179) (idx := 138) (ci := 4) (by decide +kernel) rfl mrc (cwT_v cM_setTruth inM mlM_138 imM_setTruth seM_setTruth (by decide +kernel) (by decide)), os_ret0 hE (by decide +kernel) rfl⟩
def kM_arithmetic (P : MethodName × List Cond × Room → List qm_v → mG → Option qm_v → mG → Prop) : List (Nat × qm_op mG) := [(0, o_il 2), (1, o_sw [(5, 32), (6, 44), (7, 56), (8, 118)] 137), (32, o_al 0), (33, o_il 1), (34, o_ll 3), (35, o_ll 5), (37, o_ladd), (38, o_callv 0 3 (P mM_setWhole)), (41, o_go 153), (44, o_al 0), (45, o_il 1), (46, o_ll 3), (47, o_ll 5), (49, o_lsub), (50, o_callv 0 3 (P mM_setWhole)), (53, o_go 153), (56, o_ll 3), (57, o_lc 0), (58, o_lcge 67), (62, o_ll 3), (63, o_lneg), (64, o_go 68), (67, o_ll 3), (68, o_ls 7), (70, o_ll 5), (72, o_lc 0), (73, o_lcge 83), (77, o_ll 5), (79, o_lneg), (80, o_go 85), (83, o_ll 5), (85, o_ls 9), (87, o_ll 7), (89, o_lc 0), (90, o_lceq 106), (94, o_ll 9), (96, o_lc (1000000000000000)), (99, o_ll 7), (101, o_ldiv), (102, o_lcgt 153), (106, o_al 0), (107, o_il 1), (108, o_ll 3), (109, o_ll 5), (111, o_lmul), (112, o_callv 0 3 (P mM_setWhole)), (115, o_go 153), (118, o_ll 5), (120, o_lc 0), (121, o_lceq 153), (125, o_al 0), (126, o_il 1), (127, o_ll 3), (128, o_ll 5), (130, o_ldiv), (131, o_callv 0 3 (P mM_setWhole)), (134, o_go 153), (137, o_ll 5), (139, o_lc 0), (140, o_lceq 153), (144, o_al 0), (145, o_il 1), (146, o_ll 3), (147, o_ll 5), (149, o_lrem), (150, o_callv 0 3 (P mM_setWhole)), (153, o_ret0)]
set_option maxRecDepth 20000 in
theorem sM_arithmetic (E : mEnv) : qm_cok (mK E (rmL 3) prog_10_method_30_code 11 "FunctionRowsModel" (wsT yM_arithmetic prog_10_method_30_code 11 none) none) (kM_arithmetic (mSd E)) := have hE := mOk E
  ⟨os_il_n (j := 2) (by decide +kernel) rfl, os_table (len := 31) (dflt := 136) (lo := 5) (hi := 8) (offs := #[31, 43, 55, 117]) (by decide +kernel) (by decide) (by decide) (by decide +kernel) (by decide +kernel), os_al_n (j := 0) (by decide +kernel) rfl, os_il_n (j := 1) (by decide +kernel) rfl, os_ll_n (j := 3) (by decide +kernel) rfl, os_ll (by decide +kernel), os_ladd (by decide +kernel), os_callv hE (pc := 38) (idx := 147) (ci := 4) (by decide +kernel) rfl mrc (cwT_v cM_setWhole inM mlM_147 imM_setWhole seM_setWhole (by decide +kernel) (by decide)), os_go (off := 112) (by decide +kernel) (by decide), os_al_n (j := 0) (by decide +kernel) rfl, os_il_n (j := 1) (by decide +kernel) rfl, os_ll_n (j := 3) (by decide +kernel) rfl, os_ll (by decide +kernel), os_lsub (by decide +kernel), os_callv hE (pc := 50) (idx := 147) (ci := 4) (by decide +kernel) rfl mrc (cwT_v cM_setWhole inM mlM_147 imM_setWhole seM_setWhole (by decide +kernel) (by decide)), os_go (off := 100) (by decide +kernel) (by decide), os_ll_n (j := 3) (by decide +kernel) rfl, os_lconst (n := 0) (by decide +kernel) (by decide +kernel), os_lcge (off := 8) (by decide +kernel) (by decide +kernel) (by decide), os_ll_n (j := 3) (by decide +kernel) rfl, os_lneg (by decide +kernel), os_go (off := 4) (by decide +kernel) (by decide), os_ll_n (j := 3) (by decide +kernel) rfl, os_ls (by decide +kernel) (by decide), os_ll (by decide +kernel), os_lconst (n := 0) (by decide +kernel) (by decide +kernel), os_lcge (off := 9) (by decide +kernel) (by decide +kernel) (by decide), os_ll (by decide +kernel), os_lneg (by decide +kernel), os_go (off := 5) (by decide +kernel) (by decide), os_ll (by decide +kernel), os_ls (by decide +kernel) (by decide), os_ll (by decide +kernel), os_lconst (n := 0) (by decide +kernel) (by decide +kernel), os_lceq (off := 15) (by decide +kernel) (by decide +kernel) (by decide), os_ll (by decide +kernel), os_ldc2 (idx := 72) (by decide +kernel) (tb_in klM_72), os_ll (by decide +kernel), os_ldiv (by decide +kernel), os_lcgt (off := 50) (by decide +kernel) (by decide +kernel) (by decide), os_al_n (j := 0) (by decide +kernel) rfl, os_il_n (j := 1) (by decide +kernel) rfl, os_ll_n (j := 3) (by decide +kernel) rfl, os_ll (by decide +kernel), os_lmul (by decide +kernel), os_callv hE (pc := 112) (idx := 147) (ci := 4) (by decide +kernel) rfl mrc (cwT_v cM_setWhole inM mlM_147 imM_setWhole seM_setWhole (by decide +kernel) (by decide)), os_go (off := 38) (by decide +kernel) (by decide), os_ll (by decide +kernel), os_lconst (n := 0) (by decide +kernel) (by decide +kernel), os_lceq (off := 31) (by decide +kernel) (by decide +kernel) (by decide), os_al_n (j := 0) (by decide +kernel) rfl, os_il_n (j := 1) (by decide +kernel) rfl, os_ll_n (j := 3) (by decide +kernel) rfl, os_ll (by decide +kernel), os_ldiv (by decide +kernel), os_callv hE (pc := 131) (idx := 147) (ci := 4) (by decide +kernel) rfl mrc (cwT_v cM_setWhole inM mlM_147 imM_setWhole seM_setWhole (by decide +kernel) (by decide)), os_go (off := 19) (by decide +kernel) (by decide), os_ll (by decide +kernel), os_lconst (n := 0) (by decide +kernel) (by decide +kernel), os_lceq (off := 12) (by decide +kernel) (by decide +kernel) (by decide), os_al_n (j := 0) (by decide +kernel) rfl, os_il_n (j := 1) (by decide +kernel) rfl, os_ll_n (j := 3) (by decide +kernel) rfl, os_ll (by decide +kernel), os_lrem (by decide +kernel), os_callv hE (pc := 150) (idx := 147) (ci := 4) (by decide +kernel) rfl mrc (cwT_v cM_setWhole inM mlM_147 imM_setWhole seM_setWhole (by decide +kernel) (by decide)), os_ret0 hE (by decide +kernel) rfl⟩
def kM_texts (P : MethodName × List Cond × Room → List qm_v → mG → Option qm_v → mG → Prop) : List (Nat × qm_op mG) := [(0, o_al 0), (1, o_get 0 rdM8), (4, o_il 3), (5, o_ald 1 miL miR), (6, o_ic (3)), (7, o_iceq 11), (10, o_ret0), (11, o_il 2), (12, o_ic (10)), (14, o_icne 32), (17, o_al 0), (18, o_il 1), (19, o_ic (2)), (20, o_al 0), (21, o_il 3), (22, o_callv 0 2 (P mM_length)), (25, o_i2l), (26, o_callv 0 4 (P mM_set)), (29, o_go 329), (32, o_il 2), (33, o_ic (11)), (35, o_icne 148), (38, o_al 0), (39, o_get 0 rdM8), (42, o_il 4), (44, o_ald 1 miL miR), (45, o_ic (2)), (46, o_icne 329), (49, o_al 0), (50, o_get 0 rdM8), (53, o_il 5), (55, o_ald 1 miL miR), (56, o_ic (2)), (57, o_icne 329), (60, o_lc 1), (61, o_al 0), (62, o_get 0 rdM9), (65, o_il 4), (67, o_lald 3 mlL mlR), (68, o_lmax), (71, o_ls 6), (73, o_al 0), (74, o_il 3), (75, o_callv 0 2 (P mM_length)), (78, o_i2l), (79, o_al 0), (80, o_get 0 rdM9), (83, o_il 4), (85, o_lald 3 mlL mlR), (86, o_al 0), (87, o_get 0 rdM9), (90, o_il 5), (92, o_lald 3 mlL mlR), (93, o_ladd), (94, o_lc 1), (95, o_lsub), (96, o_lmin), (99, o_ls 8), (101, o_al 0), (102, o_il 1), (103, o_il 3), (104, o_ll 6), (106, o_ll 8), (108, o_lcle 116), (112, o_ic (0)), (113, o_go 121), (116, o_ll 6), (118, o_l2i), (119, o_ic (1)), (120, o_isub), (121, o_ll 6), (123, o_ll 8), (125, o_lcle 133), (129, o_ic (0)), (130, o_go 136), (133, o_ll 8), (135, o_l2i), (136, o_al 0), (137, o_get 0 rdM10), (140, o_il 3), (141, o_ald 1 miL miR), (142, o_callv 0 6 (P mM_setPart)), (145, o_go 329), (148, o_il 2), (149, o_ic (14)), (151, o_icne 220), (154, o_al 0), (155, o_get 0 rdM8), (158, o_il 4), (160, o_ald 1 miL miR), (161, o_ic (3)), (162, o_icne 329), (165, o_al 0), (166, o_il 1), (167, o_ic (3)), (168, o_lc 0), (169, o_callv 0 4 (P mM_set)), (172, o_al 0), (173, o_il 1), (174, o_il 3), (175, o_callv 0 3 (P mM_sayAll)), (178, o_al 0), (179, o_il 1), (180, o_il 4), (182, o_callv 0 3 (P mM_sayAll)), (185, o_al 0), (186, o_get 0 rdM10), (189, o_il 1), (190, o_al 0), (191, o_get 0 rdM10), (194, o_il 3), (195, o_ald 1 miL miR), (196, o_al 0), (197, o_get 0 rdM10), (200, o_il 4), (202, o_ald 1 miL miR), (203, o_icne 215), (206, o_al 0), (207, o_get 0 rdM10), (210, o_il 3), (211, o_ald 1 miL miR), (212, o_go 216), (215, o_ic (0)), (216, o_ast 1 miL miW), (217, o_go 329), (220, o_al 0), (221, o_il 1), (222, o_il 3), (223, o_ic (0)), (224, o_al 0), (225, o_il 3), (226, o_callv 0 2 (P mM_length)), (229, o_al 0), (230, o_get 0 rdM10), (233, o_il 3), (234, o_ald 1 miL miR), (235, o_callv 0 6 (P mM_setPart)), (238, o_ic (0)), (239, o_is 6), (241, o_il 6), (243, o_al 0), (244, o_il 1), (245, o_callv 0 2 (P mM_length)), (248, o_icge 329), (251, o_al 0), (252, o_il 1), (253, o_il 6), (255, o_callv 0 3 (P mM_byteAt)), (258, o_is 7), (260, o_il 2), (261, o_ic (12)), (263, o_icne 281), (266, o_il 7), (268, o_i2l), (269, o_lc (97)), (272, o_lc (122)), (275, o_call 3 (P mM_in)), (278, o_go 293), (281, o_il 7), (283, o_i2l), (284, o_lc (65)), (287, o_lc (90)), (290, o_call 3 (P mM_in)), (293, o_is 8), (295, o_al 0), (296, o_get 0 rdM11), (299, o_ic (24)), (301, o_il 1), (302, o_imul), (303, o_il 6), (305, o_iadd), (306, o_il 8), (308, o_ifeq 319), (311, o_il 7), (313, o_ic (32)), (315, o_ixor), (316, o_go 321), (319, o_il 7), (321, o_i2b), (322, o_ast 2 mbL mbW), (323, o_inc 6 (1)), (326, o_go 241), (329, o_ret0)]
set_option maxRecDepth 20000 in
theorem sM_texts (E : mEnv) : qm_cok (mK E (rmL 3) prog_10_method_31_code 10 "FunctionRowsModel" (wsT yM_texts prog_10_method_31_code 10 none) none) (kM_texts (mSd E)) := have hE := mOk E
  ⟨os_al_n (j := 0) (by decide +kernel) rfl, os_get (idx := 30) (f := 8) (ci := 4) (C := "FunctionRowsModel") (T := FM) (N := 17) (by decide +kernel) rfl (fun w h => tb_in (fiM w h)) (by decide) (tb_in lkM_30) glM8, os_il_n (j := 3) (by decide +kernel) rfl, os_iald (t0 := 1) (by decide +kernel) rfl mceI, os_iconst (n := 3) (by decide +kernel) (by decide +kernel), os_iceq (off := 4) (by decide +kernel) (by decide), os_ret0 hE (by decide +kernel) rfl, os_il_n (j := 2) (by decide +kernel) rfl, os_bipush (n := 10) (by decide +kernel) (by decide +kernel), os_icne (off := 18) (by decide +kernel) (by decide), os_al_n (j := 0) (by decide +kernel) rfl, os_il_n (j := 1) (by decide +kernel) rfl, os_iconst (n := 2) (by decide +kernel) (by decide +kernel), os_al_n (j := 0) (by decide +kernel) rfl, os_il_n (j := 3) (by decide +kernel) rfl, os_callv hE (pc := 22) (idx := 100) (ci := 4) (by decide +kernel) rfl mrc (cwT_v cM_length inM mlM_100 imM_length seM_length (by decide +kernel) (by decide)), os_i2l (by decide +kernel), os_callv hE (pc := 26) (idx := 88) (ci := 4) (by decide +kernel) rfl mrc (cwT_v cM_set inM mlM_88 imM_set seM_set (by decide +kernel) (by decide)), os_go (off := 300) (by decide +kernel) (by decide), os_il_n (j := 2) (by decide +kernel) rfl, os_bipush (n := 11) (by decide +kernel) (by decide +kernel), os_icne (off := 113) (by decide +kernel) (by decide), os_al_n (j := 0) (by decide +kernel) rfl, os_get (idx := 30) (f := 8) (ci := 4) (C := "FunctionRowsModel") (T := FM) (N := 17) (by decide +kernel) rfl (fun w h => tb_in (fiM w h)) (by decide) (tb_in lkM_30) glM8, os_il (by decide +kernel), os_iald (t0 := 1) (by decide +kernel) rfl mceI, os_iconst (n := 2) (by decide +kernel) (by decide +kernel), os_icne (off := 283) (by decide +kernel) (by decide), os_al_n (j := 0) (by decide +kernel) rfl, os_get (idx := 30) (f := 8) (ci := 4) (C := "FunctionRowsModel") (T := FM) (N := 17) (by decide +kernel) rfl (fun w h => tb_in (fiM w h)) (by decide) (tb_in lkM_30) glM8, os_il (by decide +kernel), os_iald (t0 := 1) (by decide +kernel) rfl mceI, os_iconst (n := 2) (by decide +kernel) (by decide +kernel), os_icne (off := 272) (by decide +kernel) (by decide), os_lconst (n := 1) (by decide +kernel) (by decide +kernel), os_al_n (j := 0) (by decide +kernel) rfl, os_get (idx := 33) (f := 9) (ci := 4) (C := "FunctionRowsModel") (T := FM) (N := 17) (by decide +kernel) rfl (fun w h => tb_in (fiM w h)) (by decide) (tb_in lkM_33) glM9, os_il (by decide +kernel), os_lald (t0 := 2) (by decide +kernel) rfl mceL, os_lmax (idx := 151) (by decide +kernel) (tb_in mlM_151) (tb_in ms_lmax) (tb_in mi_math) (tb_in mc_lmax) (by decide) (by decide), os_ls (by decide +kernel) (by decide), os_al_n (j := 0) (by decide +kernel) rfl, os_il_n (j := 3) (by decide +kernel) rfl, os_callv hE (pc := 75) (idx := 100) (ci := 4) (by decide +kernel) rfl mrc (cwT_v cM_length inM mlM_100 imM_length seM_length (by decide +kernel) (by decide)), os_i2l (by decide +kernel), os_al_n (j := 0) (by decide +kernel) rfl, os_get (idx := 33) (f := 9) (ci := 4) (C := "FunctionRowsModel") (T := FM) (N := 17) (by decide +kernel) rfl (fun w h => tb_in (fiM w h)) (by decide) (tb_in lkM_33) glM9, os_il (by decide +kernel), os_lald (t0 := 2) (by decide +kernel) rfl mceL, os_al_n (j := 0) (by decide +kernel) rfl, os_get (idx := 33) (f := 9) (ci := 4) (C := "FunctionRowsModel") (T := FM) (N := 17) (by decide +kernel) rfl (fun w h => tb_in (fiM w h)) (by decide) (tb_in lkM_33) glM9, os_il (by decide +kernel), os_lald (t0 := 2) (by decide +kernel) rfl mceL, os_ladd (by decide +kernel), os_lconst (n := 1) (by decide +kernel) (by decide +kernel), os_lsub (by decide +kernel), os_lmin (idx := 157) (by decide +kernel) (tb_in mlM_157) (tb_in ms_lmin) (tb_in mi_math) (tb_in mc_lmin) (by decide) (by decide), os_ls (by decide +kernel) (by decide), os_al_n (j := 0) (by decide +kernel) rfl, os_il_n (j := 1) (by decide +kernel) rfl, os_il_n (j := 3) (by decide +kernel) rfl, os_ll (by decide +kernel), os_ll (by decide +kernel), os_lcle (off := 7) (by decide +kernel) (by decide +kernel) (by decide), os_iconst (n := 0) (by decide +kernel) (by decide +kernel), os_go (off := 8) (by decide +kernel) (by decide), os_ll (by decide +kernel), os_l2i (by decide +kernel), os_iconst (n := 1) (by decide +kernel) (by decide +kernel), os_isub (by decide +kernel), os_ll (by decide +kernel), os_ll (by decide +kernel), os_lcle (off := 7) (by decide +kernel) (by decide +kernel) (by decide), os_iconst (n := 0) (by decide +kernel) (by decide +kernel), os_go (off := 6) (by decide +kernel) (by decide), os_ll (by decide +kernel), os_l2i (by decide +kernel), os_al_n (j := 0) (by decide +kernel) rfl, os_get (idx := 36) (f := 10) (ci := 4) (C := "FunctionRowsModel") (T := FM) (N := 17) (by decide +kernel) rfl (fun w h => tb_in (fiM w h)) (by decide) (tb_in lkM_36) glM10, os_il_n (j := 3) (by decide +kernel) rfl, os_iald (t0 := 1) (by decide +kernel) rfl mceI, os_callv hE (pc := 142) (idx := 160) (ci := 4) (by decide +kernel) rfl mrc (cwT_v cM_setPart inM mlM_160 imM_setPart seM_setPart (by decide +kernel) (by decide)), os_go (off := 184) (by decide +kernel) (by decide), os_il_n (j := 2) (by decide +kernel) rfl, os_bipush (n := 14) (by decide +kernel) (by decide +kernel), os_icne (off := 69) (by decide +kernel) (by decide), os_al_n (j := 0) (by decide +kernel) rfl, os_get (idx := 30) (f := 8) (ci := 4) (C := "FunctionRowsModel") (T := FM) (N := 17) (by decide +kernel) rfl (fun w h => tb_in (fiM w h)) (by decide) (tb_in lkM_30) glM8, os_il (by decide +kernel), os_iald (t0 := 1) (by decide +kernel) rfl mceI, os_iconst (n := 3) (by decide +kernel) (by decide +kernel), os_icne (off := 167) (by decide +kernel) (by decide), os_al_n (j := 0) (by decide +kernel) rfl, os_il_n (j := 1) (by decide +kernel) rfl, os_iconst (n := 3) (by decide +kernel) (by decide +kernel), os_lconst (n := 0) (by decide +kernel) (by decide +kernel), os_callv hE (pc := 169) (idx := 88) (ci := 4) (by decide +kernel) rfl mrc (cwT_v cM_set inM mlM_88 imM_set seM_set (by decide +kernel) (by decide)), os_al_n (j := 0) (by decide +kernel) rfl, os_il_n (j := 1) (by decide +kernel) rfl, os_il_n (j := 3) (by decide +kernel) rfl, os_callv hE (pc := 175) (idx := 163) (ci := 4) (by decide +kernel) rfl mrc (cwT_v cM_sayAll inM mlM_163 imM_sayAll seM_sayAll (by decide +kernel) (by decide)), os_al_n (j := 0) (by decide +kernel) rfl, os_il_n (j := 1) (by decide +kernel) rfl, os_il (by decide +kernel), os_callv hE (pc := 182) (idx := 163) (ci := 4) (by decide +kernel) rfl mrc (cwT_v cM_sayAll inM mlM_163 imM_sayAll seM_sayAll (by decide +kernel) (by decide)), os_al_n (j := 0) (by decide +kernel) rfl, os_get (idx := 36) (f := 10) (ci := 4) (C := "FunctionRowsModel") (T := FM) (N := 17) (by decide +kernel) rfl (fun w h => tb_in (fiM w h)) (by decide) (tb_in lkM_36) glM10, os_il_n (j := 1) (by decide +kernel) rfl, os_al_n (j := 0) (by decide +kernel) rfl, os_get (idx := 36) (f := 10) (ci := 4) (C := "FunctionRowsModel") (T := FM) (N := 17) (by decide +kernel) rfl (fun w h => tb_in (fiM w h)) (by decide) (tb_in lkM_36) glM10, os_il_n (j := 3) (by decide +kernel) rfl, os_iald (t0 := 1) (by decide +kernel) rfl mceI, os_al_n (j := 0) (by decide +kernel) rfl, os_get (idx := 36) (f := 10) (ci := 4) (C := "FunctionRowsModel") (T := FM) (N := 17) (by decide +kernel) rfl (fun w h => tb_in (fiM w h)) (by decide) (tb_in lkM_36) glM10, os_il (by decide +kernel), os_iald (t0 := 1) (by decide +kernel) rfl mceI, os_icne (off := 12) (by decide +kernel) (by decide), os_al_n (j := 0) (by decide +kernel) rfl, os_get (idx := 36) (f := 10) (ci := 4) (C := "FunctionRowsModel") (T := FM) (N := 17) (by decide +kernel) rfl (fun w h => tb_in (fiM w h)) (by decide) (tb_in lkM_36) glM10, os_il_n (j := 3) (by decide +kernel) rfl, os_iald (t0 := 1) (by decide +kernel) rfl mceI, os_go (off := 4) (by decide +kernel) (by decide), os_iconst (n := 0) (by decide +kernel) (by decide +kernel), os_iast hE (t0 := 1) (by decide +kernel) rfl mceI mwrI mokI, os_go (off := 112) (by decide +kernel) (by decide), os_al_n (j := 0) (by decide +kernel) rfl, os_il_n (j := 1) (by decide +kernel) rfl, os_il_n (j := 3) (by decide +kernel) rfl, os_iconst (n := 0) (by decide +kernel) (by decide +kernel), os_al_n (j := 0) (by decide +kernel) rfl, os_il_n (j := 3) (by decide +kernel) rfl, os_callv hE (pc := 226) (idx := 100) (ci := 4) (by decide +kernel) rfl mrc (cwT_v cM_length inM mlM_100 imM_length seM_length (by decide +kernel) (by decide)), os_al_n (j := 0) (by decide +kernel) rfl, os_get (idx := 36) (f := 10) (ci := 4) (C := "FunctionRowsModel") (T := FM) (N := 17) (by decide +kernel) rfl (fun w h => tb_in (fiM w h)) (by decide) (tb_in lkM_36) glM10, os_il_n (j := 3) (by decide +kernel) rfl, os_iald (t0 := 1) (by decide +kernel) rfl mceI, os_callv hE (pc := 235) (idx := 160) (ci := 4) (by decide +kernel) rfl mrc (cwT_v cM_setPart inM mlM_160 imM_setPart seM_setPart (by decide +kernel) (by decide)), os_iconst (n := 0) (by decide +kernel) (by decide +kernel), os_is (by decide +kernel) (by decide), os_il (by decide +kernel), os_al_n (j := 0) (by decide +kernel) rfl, os_il_n (j := 1) (by decide +kernel) rfl, os_callv hE (pc := 245) (idx := 100) (ci := 4) (by decide +kernel) rfl mrc (cwT_v cM_length inM mlM_100 imM_length seM_length (by decide +kernel) (by decide)), os_icge (off := 81) (by decide +kernel) (by decide), os_al_n (j := 0) (by decide +kernel) rfl, os_il_n (j := 1) (by decide +kernel) rfl, os_il (by decide +kernel), os_callv hE (pc := 255) (idx := 103) (ci := 4) (by decide +kernel) rfl mrc (cwT_v cM_byteAt inM mlM_103 imM_byteAt seM_byteAt (by decide +kernel) (by decide)), os_is (by decide +kernel) (by decide), os_il_n (j := 2) (by decide +kernel) rfl, os_bipush (n := 12) (by decide +kernel) (by decide +kernel), os_icne (off := 18) (by decide +kernel) (by decide), os_il (by decide +kernel), os_i2l (by decide +kernel), os_ldc2 (idx := 166) (by decide +kernel) (tb_in klM_166), os_ldc2 (idx := 168) (by decide +kernel) (tb_in klM_168), os_call hE (pc := 275) (idx := 47) (by decide +kernel) (cwT_s cM_in inM mlM_47 stM_in (by decide +kernel) (by decide)), os_go (off := 15) (by decide +kernel) (by decide), os_il (by decide +kernel), os_i2l (by decide +kernel), os_ldc2 (idx := 170) (by decide +kernel) (tb_in klM_170), os_ldc2 (idx := 172) (by decide +kernel) (tb_in klM_172), os_call hE (pc := 290) (idx := 47) (by decide +kernel) (cwT_s cM_in inM mlM_47 stM_in (by decide +kernel) (by decide)), os_is (by decide +kernel) (by decide), os_al_n (j := 0) (by decide +kernel) rfl, os_get (idx := 39) (f := 11) (ci := 4) (C := "FunctionRowsModel") (T := FM) (N := 17) (by decide +kernel) rfl (fun w h => tb_in (fiM w h)) (by decide) (tb_in lkM_39) glM11, os_bipush (n := 24) (by decide +kernel) (by decide +kernel), os_il_n (j := 1) (by decide +kernel) rfl, os_imul (by decide +kernel), os_il (by decide +kernel), os_iadd (by decide +kernel), os_il (by decide +kernel), os_ifeq (off := 11) (by decide +kernel) (by decide), os_il (by decide +kernel), os_bipush (n := 32) (by decide +kernel) (by decide +kernel), os_ixor (by decide +kernel), os_go (off := 5) (by decide +kernel) (by decide), os_il (by decide +kernel), os_i2b (by decide +kernel), os_bast hE (t0 := 0) (by decide +kernel) rfl mceB mwrB mokB, os_inc (n := 1) (by decide +kernel) (by decide +kernel) (by decide), os_go (off := -85) (by decide +kernel) (by decide), os_ret0 hE (by decide +kernel) rfl⟩
def kM_words (P : MethodName × List Cond × Room → List qm_v → mG → Option qm_v → mG → Prop) : List (Nat × qm_op mG) := [(0, o_al 0), (1, o_get 0 rdM8), (4, o_il 2), (5, o_ald 1 miL miR), (6, o_ifne 10), (9, o_ret0), (10, o_al 0), (11, o_il 1), (12, o_ic (3)), (13, o_lc 0), (14, o_callv 0 4 (P mM_set)), (17, o_al 0), (18, o_get 0 rdM8), (21, o_il 2), (22, o_ald 1 miL miR), (23, o_ic (3)), (24, o_icne 36), (27, o_al 0), (28, o_il 1), (29, o_il 2), (30, o_callv 0 3 (P mM_sayAll)), (33, o_go 169), (36, o_al 0), (37, o_get 0 rdM8), (40, o_il 2), (41, o_ald 1 miL miR), (42, o_ic (1)), (43, o_icne 141), (46, o_al 0), (47, o_get 0 rdM9), (50, o_il 2), (51, o_lald 3 mlL mlR), (52, o_lc 1), (53, o_lcne 61), (57, o_ic (1)), (58, o_go 62), (61, o_ic (0)), (62, o_is 3), (63, o_al 0), (64, o_il 1), (65, o_il 3), (66, o_ifeq 74), (69, o_ic (116)), (71, o_go 76), (74, o_ic (102)), (76, o_callv 0 3 (P mM_say)), (79, o_al 0), (80, o_il 1), (81, o_il 3), (82, o_ifeq 90), (85, o_ic (114)), (87, o_go 92), (90, o_ic (97)), (92, o_callv 0 3 (P mM_say)), (95, o_al 0), (96, o_il 1), (97, o_il 3), (98, o_ifeq 106), (101, o_ic (117)), (103, o_go 108), (106, o_ic (108)), (108, o_callv 0 3 (P mM_say)), (111, o_al 0), (112, o_il 1), (113, o_il 3), (114, o_ifeq 122), (117, o_ic (101)), (119, o_go 124), (122, o_ic (115)), (124, o_callv 0 3 (P mM_say)), (127, o_il 3), (128, o_ifne 138), (131, o_al 0), (132, o_il 1), (133, o_ic (101)), (135, o_callv 0 3 (P mM_say)), (138, o_go 169), (141, o_al 0), (142, o_get 0 rdM8), (145, o_il 2), (146, o_ald 1 miL miR), (147, o_ic (4)), (148, o_icne 158), (151, o_al 0), (152, o_il 1), (153, o_ic (35)), (155, o_callv 0 3 (P mM_say)), (158, o_al 0), (159, o_il 1), (160, o_al 0), (161, o_get 0 rdM9), (164, o_il 2), (165, o_lald 3 mlL mlR), (166, o_callv 0 3 (P mM_sayNumber)), (169, o_ret0)]
set_option maxRecDepth 20000 in
theorem sM_words (E : mEnv) : qm_cok (mK E (rmL 3) prog_10_method_35_code 4 "FunctionRowsModel" (wsT yM_words prog_10_method_35_code 4 none) none) (kM_words (mSd E)) := have hE := mOk E
  ⟨os_al_n (j := 0) (by decide +kernel) rfl, os_get (idx := 30) (f := 8) (ci := 4) (C := "FunctionRowsModel") (T := FM) (N := 17) (by decide +kernel) rfl (fun w h => tb_in (fiM w h)) (by decide) (tb_in lkM_30) glM8, os_il_n (j := 2) (by decide +kernel) rfl, os_iald (t0 := 1) (by decide +kernel) rfl mceI, os_ifne (off := 4) (by decide +kernel) (by decide), os_ret0 hE (by decide +kernel) rfl, os_al_n (j := 0) (by decide +kernel) rfl, os_il_n (j := 1) (by decide +kernel) rfl, os_iconst (n := 3) (by decide +kernel) (by decide +kernel), os_lconst (n := 0) (by decide +kernel) (by decide +kernel), os_callv hE (pc := 14) (idx := 88) (ci := 4) (by decide +kernel) rfl mrc (cwT_v cM_set inM mlM_88 imM_set seM_set (by decide +kernel) (by decide)), os_al_n (j := 0) (by decide +kernel) rfl, os_get (idx := 30) (f := 8) (ci := 4) (C := "FunctionRowsModel") (T := FM) (N := 17) (by decide +kernel) rfl (fun w h => tb_in (fiM w h)) (by decide) (tb_in lkM_30) glM8, os_il_n (j := 2) (by decide +kernel) rfl, os_iald (t0 := 1) (by decide +kernel) rfl mceI, os_iconst (n := 3) (by decide +kernel) (by decide +kernel), os_icne (off := 12) (by decide +kernel) (by decide), os_al_n (j := 0) (by decide +kernel) rfl, os_il_n (j := 1) (by decide +kernel) rfl, os_il_n (j := 2) (by decide +kernel) rfl, os_callv hE (pc := 30) (idx := 163) (ci := 4) (by decide +kernel) rfl mrc (cwT_v cM_sayAll inM mlM_163 imM_sayAll seM_sayAll (by decide +kernel) (by decide)), os_go (off := 136) (by decide +kernel) (by decide), os_al_n (j := 0) (by decide +kernel) rfl, os_get (idx := 30) (f := 8) (ci := 4) (C := "FunctionRowsModel") (T := FM) (N := 17) (by decide +kernel) rfl (fun w h => tb_in (fiM w h)) (by decide) (tb_in lkM_30) glM8, os_il_n (j := 2) (by decide +kernel) rfl, os_iald (t0 := 1) (by decide +kernel) rfl mceI, os_iconst (n := 1) (by decide +kernel) (by decide +kernel), os_icne (off := 98) (by decide +kernel) (by decide), os_al_n (j := 0) (by decide +kernel) rfl, os_get (idx := 33) (f := 9) (ci := 4) (C := "FunctionRowsModel") (T := FM) (N := 17) (by decide +kernel) rfl (fun w h => tb_in (fiM w h)) (by decide) (tb_in lkM_33) glM9, os_il_n (j := 2) (by decide +kernel) rfl, os_lald (t0 := 2) (by decide +kernel) rfl mceL, os_lconst (n := 1) (by decide +kernel) (by decide +kernel), os_lcne (off := 7) (by decide +kernel) (by decide +kernel) (by decide), os_iconst (n := 1) (by decide +kernel) (by decide +kernel), os_go (off := 4) (by decide +kernel) (by decide), os_iconst (n := 0) (by decide +kernel) (by decide +kernel), os_is_n (j := 3) (by decide +kernel) rfl (by decide), os_al_n (j := 0) (by decide +kernel) rfl, os_il_n (j := 1) (by decide +kernel) rfl, os_il_n (j := 3) (by decide +kernel) rfl, os_ifeq (off := 8) (by decide +kernel) (by decide), os_bipush (n := 116) (by decide +kernel) (by decide +kernel), os_go (off := 5) (by decide +kernel) (by decide), os_bipush (n := 102) (by decide +kernel) (by decide +kernel), os_callv hE (pc := 76) (idx := 94) (ci := 4) (by decide +kernel) rfl mrc (cwT_v cM_say inM mlM_94 imM_say seM_say (by decide +kernel) (by decide)), os_al_n (j := 0) (by decide +kernel) rfl, os_il_n (j := 1) (by decide +kernel) rfl, os_il_n (j := 3) (by decide +kernel) rfl, os_ifeq (off := 8) (by decide +kernel) (by decide), os_bipush (n := 114) (by decide +kernel) (by decide +kernel), os_go (off := 5) (by decide +kernel) (by decide), os_bipush (n := 97) (by decide +kernel) (by decide +kernel), os_callv hE (pc := 92) (idx := 94) (ci := 4) (by decide +kernel) rfl mrc (cwT_v cM_say inM mlM_94 imM_say seM_say (by decide +kernel) (by decide)), os_al_n (j := 0) (by decide +kernel) rfl, os_il_n (j := 1) (by decide +kernel) rfl, os_il_n (j := 3) (by decide +kernel) rfl, os_ifeq (off := 8) (by decide +kernel) (by decide), os_bipush (n := 117) (by decide +kernel) (by decide +kernel), os_go (off := 5) (by decide +kernel) (by decide), os_bipush (n := 108) (by decide +kernel) (by decide +kernel), os_callv hE (pc := 108) (idx := 94) (ci := 4) (by decide +kernel) rfl mrc (cwT_v cM_say inM mlM_94 imM_say seM_say (by decide +kernel) (by decide)), os_al_n (j := 0) (by decide +kernel) rfl, os_il_n (j := 1) (by decide +kernel) rfl, os_il_n (j := 3) (by decide +kernel) rfl, os_ifeq (off := 8) (by decide +kernel) (by decide), os_bipush (n := 101) (by decide +kernel) (by decide +kernel), os_go (off := 5) (by decide +kernel) (by decide), os_bipush (n := 115) (by decide +kernel) (by decide +kernel), os_callv hE (pc := 124) (idx := 94) (ci := 4) (by decide +kernel) rfl mrc (cwT_v cM_say inM mlM_94 imM_say seM_say (by decide +kernel) (by decide)), os_il_n (j := 3) (by decide +kernel) rfl, os_ifne (off := 10) (by decide +kernel) (by decide), os_al_n (j := 0) (by decide +kernel) rfl, os_il_n (j := 1) (by decide +kernel) rfl, os_bipush (n := 101) (by decide +kernel) (by decide +kernel), os_callv hE (pc := 135) (idx := 94) (ci := 4) (by decide +kernel) rfl mrc (cwT_v cM_say inM mlM_94 imM_say seM_say (by decide +kernel) (by decide)), os_go (off := 31) (by decide +kernel) (by decide), os_al_n (j := 0) (by decide +kernel) rfl, os_get (idx := 30) (f := 8) (ci := 4) (C := "FunctionRowsModel") (T := FM) (N := 17) (by decide +kernel) rfl (fun w h => tb_in (fiM w h)) (by decide) (tb_in lkM_30) glM8, os_il_n (j := 2) (by decide +kernel) rfl, os_iald (t0 := 1) (by decide +kernel) rfl mceI, os_iconst (n := 4) (by decide +kernel) (by decide +kernel), os_icne (off := 10) (by decide +kernel) (by decide), os_al_n (j := 0) (by decide +kernel) rfl, os_il_n (j := 1) (by decide +kernel) rfl, os_bipush (n := 35) (by decide +kernel) (by decide +kernel), os_callv hE (pc := 155) (idx := 94) (ci := 4) (by decide +kernel) rfl mrc (cwT_v cM_say inM mlM_94 imM_say seM_say (by decide +kernel) (by decide)), os_al_n (j := 0) (by decide +kernel) rfl, os_il_n (j := 1) (by decide +kernel) rfl, os_al_n (j := 0) (by decide +kernel) rfl, os_get (idx := 33) (f := 9) (ci := 4) (C := "FunctionRowsModel") (T := FM) (N := 17) (by decide +kernel) rfl (fun w h => tb_in (fiM w h)) (by decide) (tb_in lkM_33) glM9, os_il_n (j := 2) (by decide +kernel) rfl, os_lald (t0 := 2) (by decide +kernel) rfl mceL, os_callv hE (pc := 166) (idx := 190) (ci := 4) (by decide +kernel) rfl mrc (cwT_v cM_sayNumber inM mlM_190 imM_sayNumber seM_sayNumber (by decide +kernel) (by decide)), os_ret0 hE (by decide +kernel) rfl⟩
def kM_isItem (P : MethodName × List Cond × Room → List qm_v → mG → Option qm_v → mG → Prop) : List (Nat × qm_op mG) := [(0, o_al 0), (1, o_callv 0 1 (P mM_here)), (4, o_is 1), (5, o_il 1), (6, o_ifeq 37), (9, o_il 1), (10, o_ic (94)), (12, o_iceq 37), (15, o_il 1), (16, o_ic (93)), (18, o_iceq 37), (21, o_il 1), (22, o_ic (45)), (24, o_iceq 37), (27, o_il 1), (28, o_ic (92)), (30, o_iceq 37), (33, o_ic (1)), (34, o_go 38), (37, o_ic (0)), (38, o_retz)]
set_option maxRecDepth 20000 in
theorem sM_isItem (E : mEnv) : qm_cok (mK E (rmL 3) prog_10_method_44_code 2 "FunctionRowsModel" (wsT yM_isItem prog_10_method_44_code 2 (some .boolean)) (some .boolean)) (kM_isItem (mSd E)) := have hE := mOk E
  ⟨os_al_n (j := 0) (by decide +kernel) rfl, os_callv hE (pc := 1) (idx := 216) (ci := 4) (by decide +kernel) rfl mrc (cwT_v cM_here inM mlM_216 imM_here seM_here (by decide +kernel) (by decide)), os_is_n (j := 1) (by decide +kernel) rfl (by decide), os_il_n (j := 1) (by decide +kernel) rfl, os_ifeq (off := 31) (by decide +kernel) (by decide), os_il_n (j := 1) (by decide +kernel) rfl, os_bipush (n := 94) (by decide +kernel) (by decide +kernel), os_iceq (off := 25) (by decide +kernel) (by decide), os_il_n (j := 1) (by decide +kernel) rfl, os_bipush (n := 93) (by decide +kernel) (by decide +kernel), os_iceq (off := 19) (by decide +kernel) (by decide), os_il_n (j := 1) (by decide +kernel) rfl, os_bipush (n := 45) (by decide +kernel) (by decide +kernel), os_iceq (off := 13) (by decide +kernel) (by decide), os_il_n (j := 1) (by decide +kernel) rfl, os_bipush (n := 92) (by decide +kernel) (by decide +kernel), os_iceq (off := 7) (by decide +kernel) (by decide), os_iconst (n := 1) (by decide +kernel) (by decide +kernel), os_go (off := 4) (by decide +kernel) (by decide), os_iconst (n := 0) (by decide +kernel) (by decide +kernel), os_retz hE (by decide +kernel) rfl⟩
def kM_uses (P : MethodName × List Cond × Room → List qm_v → mG → Option qm_v → mG → Prop) : List (Nat × qm_op mG) := [(0, o_al 0), (1, o_il 1), (2, o_callv 0 2 (P mM_isExpression)), (5, o_ifne 10), (8, o_ic (-1)), (9, o_reti), (10, o_ic (0)), (11, o_is 2), (12, o_il 2), (13, o_il 1), (14, o_icgt 109), (17, o_al 0), (18, o_get 0 rdM16), (21, o_il 2), (22, o_al 0), (23, o_get 0 rdM3), (26, o_il 2), (27, o_ald 1 miL miR), (28, o_ic (5)), (29, o_icne 44), (32, o_ic (1)), (33, o_al 0), (34, o_get 0 rdM4), (37, o_il 2), (38, o_lald 3 mlL mlR), (39, o_l2i), (40, o_ishl), (41, o_go 45), (44, o_ic (0)), (45, o_ast 1 miL miW), (46, o_ic (0)), (47, o_is 3), (48, o_al 0), (49, o_get 0 rdM3), (52, o_il 2), (53, o_ald 1 miL miR), (54, o_ic (6)), (56, o_icne 103), (59, o_il 3), (60, o_al 0), (61, o_get 0 rdM4), (64, o_il 2), (65, o_lald 3 mlL mlR), (66, o_l2i), (67, o_call 1 (P mM_arity)), (70, o_icge 103), (73, o_al 0), (74, o_get 0 rdM16), (77, o_il 2), (78, o_stk f_dup2), (79, o_ald 1 miL miR), (80, o_al 0), (81, o_get 0 rdM16), (84, o_al 0), (85, o_get 0 rdM5), (88, o_ic (3)), (89, o_il 2), (90, o_imul), (91, o_il 3), (92, o_iadd), (93, o_ald 1 miL miR), (94, o_ald 1 miL miR), (95, o_ior), (96, o_ast 1 miL miW), (97, o_inc 3 (1)), (100, o_go 48), (103, o_inc 2 (1)), (106, o_go 12), (109, o_al 0), (110, o_get 0 rdM16), (113, o_il 1), (114, o_ald 1 miL miR), (115, o_reti)]
set_option maxRecDepth 20000 in
theorem sM_uses (E : mEnv) : qm_cok (mK E (rmL 3) prog_10_method_52_code 4 "FunctionRowsModel" (wsT yM_uses prog_10_method_52_code 4 (some .int)) (some .int)) (kM_uses (mSd E)) := have hE := mOk E
  ⟨os_al_n (j := 0) (by decide +kernel) rfl, os_il_n (j := 1) (by decide +kernel) rfl, os_callv hE (pc := 2) (idx := 84) (ci := 4) (by decide +kernel) rfl mrc (cwT_v cM_isExpression inM mlM_84 imM_isExpression seM_isExpression (by decide +kernel) (by decide)), os_ifne (off := 5) (by decide +kernel) (by decide), os_iconst (n := -1) (by decide +kernel) (by decide +kernel), os_reti hE (by decide +kernel) rfl, os_iconst (n := 0) (by decide +kernel) (by decide +kernel), os_is_n (j := 2) (by decide +kernel) rfl (by decide), os_il_n (j := 2) (by decide +kernel) rfl, os_il_n (j := 1) (by decide +kernel) rfl, os_icgt (off := 95) (by decide +kernel) (by decide), os_al_n (j := 0) (by decide +kernel) rfl, os_get (idx := 42) (f := 16) (ci := 4) (C := "FunctionRowsModel") (T := FM) (N := 17) (by decide +kernel) rfl (fun w h => tb_in (fiM w h)) (by decide) (tb_in lkM_42) glM16, os_il_n (j := 2) (by decide +kernel) rfl, os_al_n (j := 0) (by decide +kernel) rfl, os_get (idx := 13) (f := 3) (ci := 4) (C := "FunctionRowsModel") (T := FM) (N := 17) (by decide +kernel) rfl (fun w h => tb_in (fiM w h)) (by decide) (tb_in lkM_13) glM3, os_il_n (j := 2) (by decide +kernel) rfl, os_iald (t0 := 1) (by decide +kernel) rfl mceI, os_iconst (n := 5) (by decide +kernel) (by decide +kernel), os_icne (off := 15) (by decide +kernel) (by decide), os_iconst (n := 1) (by decide +kernel) (by decide +kernel), os_al_n (j := 0) (by decide +kernel) rfl, os_get (idx := 16) (f := 4) (ci := 4) (C := "FunctionRowsModel") (T := FM) (N := 17) (by decide +kernel) rfl (fun w h => tb_in (fiM w h)) (by decide) (tb_in lkM_16) glM4, os_il_n (j := 2) (by decide +kernel) rfl, os_lald (t0 := 2) (by decide +kernel) rfl mceL, os_l2i (by decide +kernel), os_ishl (by decide +kernel), os_go (off := 4) (by decide +kernel) (by decide), os_iconst (n := 0) (by decide +kernel) (by decide +kernel), os_iast hE (t0 := 1) (by decide +kernel) rfl mceI mwrI mokI, os_iconst (n := 0) (by decide +kernel) (by decide +kernel), os_is_n (j := 3) (by decide +kernel) rfl (by decide), os_al_n (j := 0) (by decide +kernel) rfl, os_get (idx := 13) (f := 3) (ci := 4) (C := "FunctionRowsModel") (T := FM) (N := 17) (by decide +kernel) rfl (fun w h => tb_in (fiM w h)) (by decide) (tb_in lkM_13) glM3, os_il_n (j := 2) (by decide +kernel) rfl, os_iald (t0 := 1) (by decide +kernel) rfl mceI, os_bipush (n := 6) (by decide +kernel) (by decide +kernel), os_icne (off := 47) (by decide +kernel) (by decide), os_il_n (j := 3) (by decide +kernel) rfl, os_al_n (j := 0) (by decide +kernel) rfl, os_get (idx := 16) (f := 4) (ci := 4) (C := "FunctionRowsModel") (T := FM) (N := 17) (by decide +kernel) rfl (fun w h => tb_in (fiM w h)) (by decide) (tb_in lkM_16) glM4, os_il_n (j := 2) (by decide +kernel) rfl, os_lald (t0 := 2) (by decide +kernel) rfl mceL, os_l2i (by decide +kernel), os_call hE (pc := 67) (idx := 80) (by decide +kernel) (cwT_s cM_arity inM mlM_80 stM_arity (by decide +kernel) (by decide)), os_icge (off := 33) (by decide +kernel) (by decide), os_al_n (j := 0) (by decide +kernel) rfl, os_get (idx := 42) (f := 16) (ci := 4) (C := "FunctionRowsModel") (T := FM) (N := 17) (by decide +kernel) rfl (fun w h => tb_in (fiM w h)) (by decide) (tb_in lkM_42) glM16, os_il_n (j := 2) (by decide +kernel) rfl, os_dup2 (by decide +kernel), os_iald (t0 := 1) (by decide +kernel) rfl mceI, os_al_n (j := 0) (by decide +kernel) rfl, os_get (idx := 42) (f := 16) (ci := 4) (C := "FunctionRowsModel") (T := FM) (N := 17) (by decide +kernel) rfl (fun w h => tb_in (fiM w h)) (by decide) (tb_in lkM_42) glM16, os_al_n (j := 0) (by decide +kernel) rfl, os_get (idx := 20) (f := 5) (ci := 4) (C := "FunctionRowsModel") (T := FM) (N := 17) (by decide +kernel) rfl (fun w h => tb_in (fiM w h)) (by decide) (tb_in lkM_20) glM5, os_iconst (n := 3) (by decide +kernel) (by decide +kernel), os_il_n (j := 2) (by decide +kernel) rfl, os_imul (by decide +kernel), os_il_n (j := 3) (by decide +kernel) rfl, os_iadd (by decide +kernel), os_iald (t0 := 1) (by decide +kernel) rfl mceI, os_iald (t0 := 1) (by decide +kernel) rfl mceI, os_ior (by decide +kernel), os_iast hE (t0 := 1) (by decide +kernel) rfl mceI mwrI mokI, os_inc (n := 1) (by decide +kernel) (by decide +kernel) (by decide), os_go (off := -52) (by decide +kernel) (by decide), os_inc (n := 1) (by decide +kernel) (by decide +kernel) (by decide), os_go (off := -94) (by decide +kernel) (by decide), os_al_n (j := 0) (by decide +kernel) rfl, os_get (idx := 42) (f := 16) (ci := 4) (C := "FunctionRowsModel") (T := FM) (N := 17) (by decide +kernel) rfl (fun w h => tb_in (fiM w h)) (by decide) (tb_in lkM_42) glM16, os_il_n (j := 1) (by decide +kernel) rfl, os_iald (t0 := 1) (by decide +kernel) rfl mceI, os_reti hE (by decide +kernel) rfl⟩
def kM_depth (P : MethodName × List Cond × Room → List qm_v → mG → Option qm_v → mG → Prop) : List (Nat × qm_op mG) := [(0, o_al 0), (1, o_il 1), (2, o_callv 0 2 (P mM_isExpression)), (5, o_ifne 10), (8, o_ic (-1)), (9, o_reti), (10, o_ic (0)), (11, o_is 2), (12, o_il 2), (13, o_il 1), (14, o_icgt 95), (17, o_al 0), (18, o_get 0 rdM16), (21, o_il 2), (22, o_ic (0)), (23, o_ast 1 miL miW), (24, o_ic (0)), (25, o_is 3), (26, o_al 0), (27, o_get 0 rdM3), (30, o_il 2), (31, o_ald 1 miL miR), (32, o_ic (6)), (34, o_icne 89), (37, o_il 3), (38, o_al 0), (39, o_get 0 rdM4), (42, o_il 2), (43, o_lald 3 mlL mlR), (44, o_l2i), (45, o_call 1 (P mM_arity)), (48, o_icge 89), (51, o_al 0), (52, o_get 0 rdM16), (55, o_il 2), (56, o_al 0), (57, o_get 0 rdM16), (60, o_il 2), (61, o_ald 1 miL miR), (62, o_al 0), (63, o_get 0 rdM16), (66, o_al 0), (67, o_get 0 rdM5), (70, o_ic (3)), (71, o_il 2), (72, o_imul), (73, o_il 3), (74, o_iadd), (75, o_ald 1 miL miR), (76, o_ald 1 miL miR), (77, o_ic (1)), (78, o_iadd), (79, o_imax), (82, o_ast 1 miL miW), (83, o_inc 3 (1)), (86, o_go 26), (89, o_inc 2 (1)), (92, o_go 12), (95, o_al 0), (96, o_get 0 rdM16), (99, o_il 1), (100, o_ald 1 miL miR), (101, o_reti)]
set_option maxRecDepth 20000 in
theorem sM_depth (E : mEnv) : qm_cok (mK E (rmL 3) prog_10_method_53_code 4 "FunctionRowsModel" (wsT yM_depth prog_10_method_53_code 4 (some .int)) (some .int)) (kM_depth (mSd E)) := have hE := mOk E
  ⟨os_al_n (j := 0) (by decide +kernel) rfl, os_il_n (j := 1) (by decide +kernel) rfl, os_callv hE (pc := 2) (idx := 84) (ci := 4) (by decide +kernel) rfl mrc (cwT_v cM_isExpression inM mlM_84 imM_isExpression seM_isExpression (by decide +kernel) (by decide)), os_ifne (off := 5) (by decide +kernel) (by decide), os_iconst (n := -1) (by decide +kernel) (by decide +kernel), os_reti hE (by decide +kernel) rfl, os_iconst (n := 0) (by decide +kernel) (by decide +kernel), os_is_n (j := 2) (by decide +kernel) rfl (by decide), os_il_n (j := 2) (by decide +kernel) rfl, os_il_n (j := 1) (by decide +kernel) rfl, os_icgt (off := 81) (by decide +kernel) (by decide), os_al_n (j := 0) (by decide +kernel) rfl, os_get (idx := 42) (f := 16) (ci := 4) (C := "FunctionRowsModel") (T := FM) (N := 17) (by decide +kernel) rfl (fun w h => tb_in (fiM w h)) (by decide) (tb_in lkM_42) glM16, os_il_n (j := 2) (by decide +kernel) rfl, os_iconst (n := 0) (by decide +kernel) (by decide +kernel), os_iast hE (t0 := 1) (by decide +kernel) rfl mceI mwrI mokI, os_iconst (n := 0) (by decide +kernel) (by decide +kernel), os_is_n (j := 3) (by decide +kernel) rfl (by decide), os_al_n (j := 0) (by decide +kernel) rfl, os_get (idx := 13) (f := 3) (ci := 4) (C := "FunctionRowsModel") (T := FM) (N := 17) (by decide +kernel) rfl (fun w h => tb_in (fiM w h)) (by decide) (tb_in lkM_13) glM3, os_il_n (j := 2) (by decide +kernel) rfl, os_iald (t0 := 1) (by decide +kernel) rfl mceI, os_bipush (n := 6) (by decide +kernel) (by decide +kernel), os_icne (off := 55) (by decide +kernel) (by decide), os_il_n (j := 3) (by decide +kernel) rfl, os_al_n (j := 0) (by decide +kernel) rfl, os_get (idx := 16) (f := 4) (ci := 4) (C := "FunctionRowsModel") (T := FM) (N := 17) (by decide +kernel) rfl (fun w h => tb_in (fiM w h)) (by decide) (tb_in lkM_16) glM4, os_il_n (j := 2) (by decide +kernel) rfl, os_lald (t0 := 2) (by decide +kernel) rfl mceL, os_l2i (by decide +kernel), os_call hE (pc := 45) (idx := 80) (by decide +kernel) (cwT_s cM_arity inM mlM_80 stM_arity (by decide +kernel) (by decide)), os_icge (off := 41) (by decide +kernel) (by decide), os_al_n (j := 0) (by decide +kernel) rfl, os_get (idx := 42) (f := 16) (ci := 4) (C := "FunctionRowsModel") (T := FM) (N := 17) (by decide +kernel) rfl (fun w h => tb_in (fiM w h)) (by decide) (tb_in lkM_42) glM16, os_il_n (j := 2) (by decide +kernel) rfl, os_al_n (j := 0) (by decide +kernel) rfl, os_get (idx := 42) (f := 16) (ci := 4) (C := "FunctionRowsModel") (T := FM) (N := 17) (by decide +kernel) rfl (fun w h => tb_in (fiM w h)) (by decide) (tb_in lkM_42) glM16, os_il_n (j := 2) (by decide +kernel) rfl, os_iald (t0 := 1) (by decide +kernel) rfl mceI, os_al_n (j := 0) (by decide +kernel) rfl, os_get (idx := 42) (f := 16) (ci := 4) (C := "FunctionRowsModel") (T := FM) (N := 17) (by decide +kernel) rfl (fun w h => tb_in (fiM w h)) (by decide) (tb_in lkM_42) glM16, os_al_n (j := 0) (by decide +kernel) rfl, os_get (idx := 20) (f := 5) (ci := 4) (C := "FunctionRowsModel") (T := FM) (N := 17) (by decide +kernel) rfl (fun w h => tb_in (fiM w h)) (by decide) (tb_in lkM_20) glM5, os_iconst (n := 3) (by decide +kernel) (by decide +kernel), os_il_n (j := 2) (by decide +kernel) rfl, os_imul (by decide +kernel), os_il_n (j := 3) (by decide +kernel) rfl, os_iadd (by decide +kernel), os_iald (t0 := 1) (by decide +kernel) rfl mceI, os_iald (t0 := 1) (by decide +kernel) rfl mceI, os_iconst (n := 1) (by decide +kernel) (by decide +kernel), os_iadd (by decide +kernel), os_imax (idx := 243) (by decide +kernel) (tb_in mlM_243) (tb_in ms_imax) (tb_in mi_math) (tb_in mc_imax) (by decide) (by decide), os_iast hE (t0 := 1) (by decide +kernel) rfl mceI mwrI mokI, os_inc (n := 1) (by decide +kernel) (by decide +kernel) (by decide), os_go (off := -60) (by decide +kernel) (by decide), os_inc (n := 1) (by decide +kernel) (by decide +kernel) (by decide), os_go (off := -80) (by decide +kernel) (by decide), os_al_n (j := 0) (by decide +kernel) rfl, os_get (idx := 42) (f := 16) (ci := 4) (C := "FunctionRowsModel") (T := FM) (N := 17) (by decide +kernel) rfl (fun w h => tb_in (fiM w h)) (by decide) (tb_in lkM_42) glM16, os_il_n (j := 1) (by decide +kernel) rfl, os_iald (t0 := 1) (by decide +kernel) rfl mceI, os_reti hE (by decide +kernel) rfl⟩
def kM_places (P : MethodName × List Cond × Room → List qm_v → mG → Option qm_v → mG → Prop) : List (Nat × qm_op mG) := [(0, o_al 0), (1, o_il 3), (2, o_il 4), (4, o_ic (0)), (5, o_callv 0 4 (P mM_placeOf)), (8, o_is 5), (10, o_il 2), (11, o_sw [(15, 40), (16, 59), (17, 84), (18, 120)] 156), (40, o_al 0), (41, o_il 1), (42, o_ic (1)), (43, o_il 5), (45, o_iflt 52), (48, o_lc 1), (49, o_go 53), (52, o_lc 0), (53, o_callv 0 4 (P mM_set)), (56, o_go 209), (59, o_al 0), (60, o_il 1), (61, o_ic (1)), (62, o_al 0), (63, o_il 3), (64, o_il 4), (66, o_ic (0)), (67, o_callv 0 4 (P mM_stands)), (70, o_ifeq 77), (73, o_lc 1), (74, o_go 78), (77, o_lc 0), (78, o_callv 0 4 (P mM_set)), (81, o_go 209), (84, o_al 0), (85, o_il 1), (86, o_ic (1)), (87, o_al 0), (88, o_il 3), (89, o_il 4), (91, o_al 0), (92, o_il 3), (93, o_callv 0 2 (P mM_length)), (96, o_al 0), (97, o_il 4), (99, o_callv 0 2 (P mM_length)), (102, o_isub), (103, o_callv 0 4 (P mM_stands)), (106, o_ifeq 113), (109, o_lc 1), (110, o_go 114), (113, o_lc 0), (114, o_callv 0 4 (P mM_set)), (117, o_go 209), (120, o_al 0), (121, o_il 1), (122, o_il 3), (123, o_ic (0)), (124, o_il 5), (126, o_ifge 133), (129, o_ic (0)), (130, o_go 135), (133, o_il 5), (135, o_il 5), (137, o_ifge 144), (140, o_ic (0)), (141, o_go 150), (144, o_al 0), (145, o_get 0 rdM10), (148, o_il 3), (149, o_ald 1 miL miR), (150, o_callv 0 6 (P mM_setPart)), (153, o_go 209), (156, o_al 0), (157, o_il 1), (158, o_il 3), (159, o_il 5), (161, o_ifge 168), (164, o_ic (0)), (165, o_go 177), (168, o_il 5), (170, o_al 0), (171, o_il 4), (173, o_callv 0 2 (P mM_length)), (176, o_iadd), (177, o_il 5), (179, o_ifge 186), (182, o_ic (0)), (183, o_go 191), (186, o_al 0), (187, o_il 3), (188, o_callv 0 2 (P mM_length)), (191, o_il 5), (193, o_ifge 200), (196, o_ic (0)), (197, o_go 206), (200, o_al 0), (201, o_get 0 rdM10), (204, o_il 3), (205, o_ald 1 miL miR), (206, o_callv 0 6 (P mM_setPart)), (209, o_ret0)]
set_option maxRecDepth 20000 in
theorem sM_places (E : mEnv) : qm_cok (mK E (rmL 4) prog_10_method_32_code 6 "FunctionRowsModel" (wsT yM_places prog_10_method_32_code 6 none) none) (kM_places (mSd E)) := have hE := mOk E
  ⟨os_al_n (j := 0) (by decide +kernel) rfl, os_il_n (j := 3) (by decide +kernel) rfl, os_il (by decide +kernel), os_iconst (n := 0) (by decide +kernel) (by decide +kernel), os_callv hE (pc := 5) (idx := 174) (ci := 4) (by decide +kernel) rfl mrc (cwT_v cM_placeOf inM mlM_174 imM_placeOf seM_placeOf (by decide +kernel) (by decide)), os_is (by decide +kernel) (by decide), os_il_n (j := 2) (by decide +kernel) rfl, os_table (len := 29) (dflt := 145) (lo := 15) (hi := 18) (offs := #[29, 48, 73, 109]) (by decide +kernel) (by decide) (by decide) (by decide +kernel) (by decide +kernel), os_al_n (j := 0) (by decide +kernel) rfl, os_il_n (j := 1) (by decide +kernel) rfl, os_iconst (n := 1) (by decide +kernel) (by decide +kernel), os_il (by decide +kernel), os_iflt (off := 7) (by decide +kernel) (by decide), os_lconst (n := 1) (by decide +kernel) (by decide +kernel), os_go (off := 4) (by decide +kernel) (by decide), os_lconst (n := 0) (by decide +kernel) (by decide +kernel), os_callv hE (pc := 53) (idx := 88) (ci := 4) (by decide +kernel) rfl mrc (cwT_v cM_set inM mlM_88 imM_set seM_set (by decide +kernel) (by decide)), os_go (off := 153) (by decide +kernel) (by decide), os_al_n (j := 0) (by decide +kernel) rfl, os_il_n (j := 1) (by decide +kernel) rfl, os_iconst (n := 1) (by decide +kernel) (by decide +kernel), os_al_n (j := 0) (by decide +kernel) rfl, os_il_n (j := 3) (by decide +kernel) rfl, os_il (by decide +kernel), os_iconst (n := 0) (by decide +kernel) (by decide +kernel), os_callv hE (pc := 67) (idx := 107) (ci := 4) (by decide +kernel) rfl mrc (cwT_v cM_stands inM mlM_107 imM_stands seM_stands (by decide +kernel) (by decide)), os_ifeq (off := 7) (by decide +kernel) (by decide), os_lconst (n := 1) (by decide +kernel) (by decide +kernel), os_go (off := 4) (by decide +kernel) (by decide), os_lconst (n := 0) (by decide +kernel) (by decide +kernel), os_callv hE (pc := 78) (idx := 88) (ci := 4) (by decide +kernel) rfl mrc (cwT_v cM_set inM mlM_88 imM_set seM_set (by decide +kernel) (by decide)), os_go (off := 128) (by decide +kernel) (by decide), os_al_n (j := 0) (by decide +kernel) rfl, os_il_n (j := 1) (by decide +kernel) rfl, os_iconst (n := 1) (by decide +kernel) (by decide +kernel), os_al_n (j := 0) (by decide +kernel) rfl, os_il_n (j := 3) (by decide +kernel) rfl, os_il (by decide +kernel), os_al_n (j := 0) (by decide +kernel) rfl, os_il_n (j := 3) (by decide +kernel) rfl, os_callv hE (pc := 93) (idx := 100) (ci := 4) (by decide +kernel) rfl mrc (cwT_v cM_length inM mlM_100 imM_length seM_length (by decide +kernel) (by decide)), os_al_n (j := 0) (by decide +kernel) rfl, os_il (by decide +kernel), os_callv hE (pc := 99) (idx := 100) (ci := 4) (by decide +kernel) rfl mrc (cwT_v cM_length inM mlM_100 imM_length seM_length (by decide +kernel) (by decide)), os_isub (by decide +kernel), os_callv hE (pc := 103) (idx := 107) (ci := 4) (by decide +kernel) rfl mrc (cwT_v cM_stands inM mlM_107 imM_stands seM_stands (by decide +kernel) (by decide)), os_ifeq (off := 7) (by decide +kernel) (by decide), os_lconst (n := 1) (by decide +kernel) (by decide +kernel), os_go (off := 4) (by decide +kernel) (by decide), os_lconst (n := 0) (by decide +kernel) (by decide +kernel), os_callv hE (pc := 114) (idx := 88) (ci := 4) (by decide +kernel) rfl mrc (cwT_v cM_set inM mlM_88 imM_set seM_set (by decide +kernel) (by decide)), os_go (off := 92) (by decide +kernel) (by decide), os_al_n (j := 0) (by decide +kernel) rfl, os_il_n (j := 1) (by decide +kernel) rfl, os_il_n (j := 3) (by decide +kernel) rfl, os_iconst (n := 0) (by decide +kernel) (by decide +kernel), os_il (by decide +kernel), os_ifge (off := 7) (by decide +kernel) (by decide), os_iconst (n := 0) (by decide +kernel) (by decide +kernel), os_go (off := 5) (by decide +kernel) (by decide), os_il (by decide +kernel), os_il (by decide +kernel), os_ifge (off := 7) (by decide +kernel) (by decide), os_iconst (n := 0) (by decide +kernel) (by decide +kernel), os_go (off := 9) (by decide +kernel) (by decide), os_al_n (j := 0) (by decide +kernel) rfl, os_get (idx := 36) (f := 10) (ci := 4) (C := "FunctionRowsModel") (T := FM) (N := 17) (by decide +kernel) rfl (fun w h => tb_in (fiM w h)) (by decide) (tb_in lkM_36) glM10, os_il_n (j := 3) (by decide +kernel) rfl, os_iald (t0 := 1) (by decide +kernel) rfl mceI, os_callv hE (pc := 150) (idx := 160) (ci := 4) (by decide +kernel) rfl mrc (cwT_v cM_setPart inM mlM_160 imM_setPart seM_setPart (by decide +kernel) (by decide)), os_go (off := 56) (by decide +kernel) (by decide), os_al_n (j := 0) (by decide +kernel) rfl, os_il_n (j := 1) (by decide +kernel) rfl, os_il_n (j := 3) (by decide +kernel) rfl, os_il (by decide +kernel), os_ifge (off := 7) (by decide +kernel) (by decide), os_iconst (n := 0) (by decide +kernel) (by decide +kernel), os_go (off := 12) (by decide +kernel) (by decide), os_il (by decide +kernel), os_al_n (j := 0) (by decide +kernel) rfl, os_il (by decide +kernel), os_callv hE (pc := 173) (idx := 100) (ci := 4) (by decide +kernel) rfl mrc (cwT_v cM_length inM mlM_100 imM_length seM_length (by decide +kernel) (by decide)), os_iadd (by decide +kernel), os_il (by decide +kernel), os_ifge (off := 7) (by decide +kernel) (by decide), os_iconst (n := 0) (by decide +kernel) (by decide +kernel), os_go (off := 8) (by decide +kernel) (by decide), os_al_n (j := 0) (by decide +kernel) rfl, os_il_n (j := 3) (by decide +kernel) rfl, os_callv hE (pc := 188) (idx := 100) (ci := 4) (by decide +kernel) rfl mrc (cwT_v cM_length inM mlM_100 imM_length seM_length (by decide +kernel) (by decide)), os_il (by decide +kernel), os_ifge (off := 7) (by decide +kernel) (by decide), os_iconst (n := 0) (by decide +kernel) (by decide +kernel), os_go (off := 9) (by decide +kernel) (by decide), os_al_n (j := 0) (by decide +kernel) rfl, os_get (idx := 36) (f := 10) (ci := 4) (C := "FunctionRowsModel") (T := FM) (N := 17) (by decide +kernel) rfl (fun w h => tb_in (fiM w h)) (by decide) (tb_in lkM_36) glM10, os_il_n (j := 3) (by decide +kernel) rfl, os_iald (t0 := 1) (by decide +kernel) rfl mceI, os_callv hE (pc := 206) (idx := 160) (ci := 4) (by decide +kernel) rfl mrc (cwT_v cM_setPart inM mlM_160 imM_setPart seM_setPart (by decide +kernel) (by decide)), os_ret0 hE (by decide +kernel) rfl⟩
def kM_others (P : MethodName × List Cond × Room → List qm_v → mG → Option qm_v → mG → Prop) : List (Nat × qm_op mG) := [(0, o_il 2), (1, o_sw [(20, 40), (21, 85), (22, 110), (23, 143), (24, 166), (25, 199)] 208), (40, o_al 0), (41, o_get 0 rdM8), (44, o_il 3), (45, o_ald 1 miL miR), (46, o_ic (3)), (47, o_icne 214), (50, o_al 0), (51, o_il 1), (52, o_ic (3)), (53, o_lc 0), (54, o_callv 0 4 (P mM_set)), (57, o_al 0), (58, o_get 0 rdM10), (61, o_il 3), (62, o_ald 1 miL miR), (63, o_ifle 214), (66, o_al 0), (67, o_il 1), (68, o_ic (97)), (70, o_al 0), (71, o_get 0 rdM10), (74, o_il 3), (75, o_ald 1 miL miR), (76, o_iadd), (77, o_ic (1)), (78, o_isub), (79, o_callv 0 3 (P mM_say)), (82, o_go 214), (85, o_al 0), (86, o_get 0 rdM8), (89, o_il 3), (90, o_ald 1 miL miR), (91, o_ifeq 214), (94, o_al 0), (95, o_il 1), (96, o_ic (2)), (97, o_al 0), (98, o_get 0 rdM8), (101, o_il 3), (102, o_ald 1 miL miR), (103, o_i2l), (104, o_callv 0 4 (P mM_set)), (107, o_go 214), (110, o_al 0), (111, o_il 3), (112, o_callv 0 2 (P mM_truth)), (115, o_is 6), (117, o_il 6), (119, o_iflt 214), (122, o_al 0), (123, o_il 6), (125, o_ic (1)), (126, o_icne 134), (129, o_il 4), (131, o_go 136), (134, o_il 5), (136, o_il 1), (137, o_callv 0 3 (P mM_copy)), (140, o_go 214), (143, o_al 0), (144, o_al 0), (145, o_get 0 rdM8), (148, o_il 3), (149, o_ald 1 miL miR), (150, o_ifeq 157), (153, o_il 3), (154, o_go 159), (157, o_il 4), (159, o_il 1), (160, o_callv 0 3 (P mM_copy)), (163, o_go 214), (166, o_al 0), (167, o_get 0 rdM3), (170, o_il 3), (171, o_ald 1 miL miR), (172, o_ic (5)), (173, o_icne 214), (176, o_al 0), (177, o_il 1), (178, o_ic (1)), (179, o_al 0), (180, o_get 0 rdM8), (183, o_il 3), (184, o_ald 1 miL miR), (185, o_ifeq 192), (188, o_lc 1), (189, o_go 193), (192, o_lc 0), (193, o_callv 0 4 (P mM_set)), (196, o_go 214), (199, o_al 0), (200, o_il 1), (201, o_il 3), (202, o_callv 0 3 (P mM_asNumber)), (205, o_go 214), (208, o_al 0), (209, o_il 1), (210, o_il 3), (211, o_callv 0 3 (P mM_words)), (214, o_ret0)]
set_option maxRecDepth 20000 in
theorem sM_others (E : mEnv) : qm_cok (mK E (rmL 4) prog_10_method_33_code 7 "FunctionRowsModel" (wsT yM_others prog_10_method_33_code 7 none) none) (kM_others (mSd E)) := have hE := mOk E
  ⟨os_il_n (j := 2) (by decide +kernel) rfl, os_table (len := 39) (dflt := 207) (lo := 20) (hi := 25) (offs := #[39, 84, 109, 142, 165, 198]) (by decide +kernel) (by decide) (by decide) (by decide +kernel) (by decide +kernel), os_al_n (j := 0) (by decide +kernel) rfl, os_get (idx := 30) (f := 8) (ci := 4) (C := "FunctionRowsModel") (T := FM) (N := 17) (by decide +kernel) rfl (fun w h => tb_in (fiM w h)) (by decide) (tb_in lkM_30) glM8, os_il_n (j := 3) (by decide +kernel) rfl, os_iald (t0 := 1) (by decide +kernel) rfl mceI, os_iconst (n := 3) (by decide +kernel) (by decide +kernel), os_icne (off := 167) (by decide +kernel) (by decide), os_al_n (j := 0) (by decide +kernel) rfl, os_il_n (j := 1) (by decide +kernel) rfl, os_iconst (n := 3) (by decide +kernel) (by decide +kernel), os_lconst (n := 0) (by decide +kernel) (by decide +kernel), os_callv hE (pc := 54) (idx := 88) (ci := 4) (by decide +kernel) rfl mrc (cwT_v cM_set inM mlM_88 imM_set seM_set (by decide +kernel) (by decide)), os_al_n (j := 0) (by decide +kernel) rfl, os_get (idx := 36) (f := 10) (ci := 4) (C := "FunctionRowsModel") (T := FM) (N := 17) (by decide +kernel) rfl (fun w h => tb_in (fiM w h)) (by decide) (tb_in lkM_36) glM10, os_il_n (j := 3) (by decide +kernel) rfl, os_iald (t0 := 1) (by decide +kernel) rfl mceI, os_ifle (off := 151) (by decide +kernel) (by decide), os_al_n (j := 0) (by decide +kernel) rfl, os_il_n (j := 1) (by decide +kernel) rfl, os_bipush (n := 97) (by decide +kernel) (by decide +kernel), os_al_n (j := 0) (by decide +kernel) rfl, os_get (idx := 36) (f := 10) (ci := 4) (C := "FunctionRowsModel") (T := FM) (N := 17) (by decide +kernel) rfl (fun w h => tb_in (fiM w h)) (by decide) (tb_in lkM_36) glM10, os_il_n (j := 3) (by decide +kernel) rfl, os_iald (t0 := 1) (by decide +kernel) rfl mceI, os_iadd (by decide +kernel), os_iconst (n := 1) (by decide +kernel) (by decide +kernel), os_isub (by decide +kernel), os_callv hE (pc := 79) (idx := 94) (ci := 4) (by decide +kernel) rfl mrc (cwT_v cM_say inM mlM_94 imM_say seM_say (by decide +kernel) (by decide)), os_go (off := 132) (by decide +kernel) (by decide), os_al_n (j := 0) (by decide +kernel) rfl, os_get (idx := 30) (f := 8) (ci := 4) (C := "FunctionRowsModel") (T := FM) (N := 17) (by decide +kernel) rfl (fun w h => tb_in (fiM w h)) (by decide) (tb_in lkM_30) glM8, os_il_n (j := 3) (by decide +kernel) rfl, os_iald (t0 := 1) (by decide +kernel) rfl mceI, os_ifeq (off := 123) (by decide +kernel) (by decide), os_al_n (j := 0) (by decide +kernel) rfl, os_il_n (j := 1) (by decide +kernel) rfl, os_iconst (n := 2) (by decide +kernel) (by decide +kernel), os_al_n (j := 0) (by decide +kernel) rfl, os_get (idx := 30) (f := 8) (ci := 4) (C := "FunctionRowsModel") (T := FM) (N := 17) (by decide +kernel) rfl (fun w h => tb_in (fiM w h)) (by decide) (tb_in lkM_30) glM8, os_il_n (j := 3) (by decide +kernel) rfl, os_iald (t0 := 1) (by decide +kernel) rfl mceI, os_i2l (by decide +kernel), os_callv hE (pc := 104) (idx := 88) (ci := 4) (by decide +kernel) rfl mrc (cwT_v cM_set inM mlM_88 imM_set seM_set (by decide +kernel) (by decide)), os_go (off := 107) (by decide +kernel) (by decide), os_al_n (j := 0) (by decide +kernel) rfl, os_il_n (j := 3) (by decide +kernel) rfl, os_callv hE (pc := 112) (idx := 135) (ci := 4) (by decide +kernel) rfl mrc (cwT_v cM_truth inM mlM_135 imM_truth seM_truth (by decide +kernel) (by decide)), os_is (by decide +kernel) (by decide), os_il (by decide +kernel), os_iflt (off := 95) (by decide +kernel) (by decide), os_al_n (j := 0) (by decide +kernel) rfl, os_il (by decide +kernel), os_iconst (n := 1) (by decide +kernel) (by decide +kernel), os_icne (off := 8) (by decide +kernel) (by decide), os_il (by decide +kernel), os_go (off := 5) (by decide +kernel) (by decide), os_il (by decide +kernel), os_il_n (j := 1) (by decide +kernel) rfl, os_callv hE (pc := 137) (idx := 111) (ci := 4) (by decide +kernel) rfl mrc (cwT_v cM_copy inM mlM_111 imM_copy seM_copy (by decide +kernel) (by decide)), os_go (off := 74) (by decide +kernel) (by decide), os_al_n (j := 0) (by decide +kernel) rfl, os_al_n (j := 0) (by decide +kernel) rfl, os_get (idx := 30) (f := 8) (ci := 4) (C := "FunctionRowsModel") (T := FM) (N := 17) (by decide +kernel) rfl (fun w h => tb_in (fiM w h)) (by decide) (tb_in lkM_30) glM8, os_il_n (j := 3) (by decide +kernel) rfl, os_iald (t0 := 1) (by decide +kernel) rfl mceI, os_ifeq (off := 7) (by decide +kernel) (by decide), os_il_n (j := 3) (by decide +kernel) rfl, os_go (off := 5) (by decide +kernel) (by decide), os_il (by decide +kernel), os_il_n (j := 1) (by decide +kernel) rfl, os_callv hE (pc := 160) (idx := 111) (ci := 4) (by decide +kernel) rfl mrc (cwT_v cM_copy inM mlM_111 imM_copy seM_copy (by decide +kernel) (by decide)), os_go (off := 51) (by decide +kernel) (by decide), os_al_n (j := 0) (by decide +kernel) rfl, os_get (idx := 13) (f := 3) (ci := 4) (C := "FunctionRowsModel") (T := FM) (N := 17) (by decide +kernel) rfl (fun w h => tb_in (fiM w h)) (by decide) (tb_in lkM_13) glM3, os_il_n (j := 3) (by decide +kernel) rfl, os_iald (t0 := 1) (by decide +kernel) rfl mceI, os_iconst (n := 5) (by decide +kernel) (by decide +kernel), os_icne (off := 41) (by decide +kernel) (by decide), os_al_n (j := 0) (by decide +kernel) rfl, os_il_n (j := 1) (by decide +kernel) rfl, os_iconst (n := 1) (by decide +kernel) (by decide +kernel), os_al_n (j := 0) (by decide +kernel) rfl, os_get (idx := 30) (f := 8) (ci := 4) (C := "FunctionRowsModel") (T := FM) (N := 17) (by decide +kernel) rfl (fun w h => tb_in (fiM w h)) (by decide) (tb_in lkM_30) glM8, os_il_n (j := 3) (by decide +kernel) rfl, os_iald (t0 := 1) (by decide +kernel) rfl mceI, os_ifeq (off := 7) (by decide +kernel) (by decide), os_lconst (n := 1) (by decide +kernel) (by decide +kernel), os_go (off := 4) (by decide +kernel) (by decide), os_lconst (n := 0) (by decide +kernel) (by decide +kernel), os_callv hE (pc := 193) (idx := 88) (ci := 4) (by decide +kernel) rfl mrc (cwT_v cM_set inM mlM_88 imM_set seM_set (by decide +kernel) (by decide)), os_go (off := 18) (by decide +kernel) (by decide), os_al_n (j := 0) (by decide +kernel) rfl, os_il_n (j := 1) (by decide +kernel) rfl, os_il_n (j := 3) (by decide +kernel) rfl, os_callv hE (pc := 202) (idx := 178) (ci := 4) (by decide +kernel) rfl mrc (cwT_v cM_asNumber inM mlM_178 imM_asNumber seM_asNumber (by decide +kernel) (by decide)), os_go (off := 9) (by decide +kernel) (by decide), os_al_n (j := 0) (by decide +kernel) rfl, os_il_n (j := 1) (by decide +kernel) rfl, os_il_n (j := 3) (by decide +kernel) rfl, os_callv hE (pc := 211) (idx := 181) (ci := 4) (by decide +kernel) rfl mrc (cwT_v cM_words inM mlM_181 imM_words seM_words (by decide +kernel) (by decide)), os_ret0 hE (by decide +kernel) rfl⟩
def kM_items (P : MethodName × List Cond × Room → List qm_v → mG → Option qm_v → mG → Prop) : List (Nat × qm_op mG) := [(0, o_al 0), (1, o_callv 0 1 (P mM_here)), (4, o_ic (94)), (6, o_icne 13), (9, o_ic (1)), (10, o_go 14), (13, o_ic (0)), (14, o_is 2), (15, o_al 0), (16, o_stk f_dup), (17, o_get 0 rdM13), (20, o_il 2), (21, o_ifeq 28), (24, o_ic (1)), (25, o_go 29), (28, o_ic (0)), (29, o_iadd), (30, o_put 0 wrM13), (33, o_ic (0)), (34, o_is 3), (35, o_al 0), (36, o_al 0), (37, o_get 0 rdM14), (40, o_ifne 50), (43, o_al 0), (44, o_callv 0 1 (P mM_isItem)), (47, o_ifne 54), (50, o_ic (1)), (51, o_go 55), (54, o_ic (0)), (55, o_put 0 wrM14), (58, o_al 0), (59, o_get 0 rdM14), (62, o_ifne 215), (65, o_al 0), (66, o_callv 0 1 (P mM_here)), (69, o_ic (93)), (71, o_iceq 215), (74, o_al 0), (75, o_al 0), (76, o_callv 0 1 (P mM_isItem)), (79, o_ifne 86), (82, o_ic (1)), (83, o_go 87), (86, o_ic (0)), (87, o_put 0 wrM14), (90, o_al 0), (91, o_callv 0 1 (P mM_here)), (94, o_is 4), (96, o_al 0), (97, o_stk f_dup), (98, o_get 0 rdM13), (101, o_ic (1)), (102, o_iadd), (103, o_put 0 wrM13), (106, o_il 4), (108, o_is 5), (110, o_al 0), (111, o_get 0 rdM14), (114, o_ifne 177), (117, o_al 0), (118, o_callv 0 1 (P mM_here)), (121, o_ic (45)), (123, o_icne 177), (126, o_al 0), (127, o_stk f_dup), (128, o_get 0 rdM13), (131, o_ic (1)), (132, o_iadd), (133, o_put 0 wrM13), (136, o_al 0), (137, o_al 0), (138, o_callv 0 1 (P mM_isItem)), (141, o_ifeq 153), (144, o_al 0), (145, o_callv 0 1 (P mM_here)), (148, o_il 4), (150, o_icge 157), (153, o_ic (1)), (154, o_go 158), (157, o_ic (0)), (158, o_put 0 wrM14), (161, o_al 0), (162, o_callv 0 1 (P mM_here)), (165, o_is 5), (167, o_al 0), (168, o_stk f_dup), (169, o_get 0 rdM13), (172, o_ic (1)), (173, o_iadd), (174, o_put 0 wrM13), (177, o_il 4), (179, o_is 6), (181, o_il 6), (183, o_il 5), (185, o_icgt 212), (188, o_al 0), (189, o_get 0 rdM14), (192, o_ifne 212), (195, o_il 3), (196, o_al 0), (197, o_il 1), (198, o_ic (0)), (199, o_il 6), (201, o_callv 0 4 (P mM_step)), (204, o_ior), (205, o_is 3), (206, o_inc 6 (1)), (209, o_go 181), (212, o_go 58), (215, o_al 0), (216, o_stk f_dup), (217, o_get 0 rdM13), (220, o_ic (1)), (221, o_iadd), (222, o_put 0 wrM13), (225, o_il 2), (226, o_ifeq 243), (229, o_al 0), (230, o_il 1), (231, o_ic (1)), (232, o_ic (0)), (233, o_callv 0 4 (P mM_step)), (236, o_il 3), (237, o_ic (-1)), (238, o_ixor), (239, o_iand), (240, o_go 244), (243, o_il 3), (244, o_reti)]
set_option maxRecDepth 20000 in
theorem sM_items (E : mEnv) : qm_cok (mK E (rmL 4) prog_10_method_45_code 7 "FunctionRowsModel" (wsT yM_items prog_10_method_45_code 7 (some .int)) (some .int)) (kM_items (mSd E)) := have hE := mOk E
  ⟨os_al_n (j := 0) (by decide +kernel) rfl, os_callv hE (pc := 1) (idx := 216) (ci := 4) (by decide +kernel) rfl mrc (cwT_v cM_here inM mlM_216 imM_here seM_here (by decide +kernel) (by decide)), os_bipush (n := 94) (by decide +kernel) (by decide +kernel), os_icne (off := 7) (by decide +kernel) (by decide), os_iconst (n := 1) (by decide +kernel) (by decide +kernel), os_go (off := 4) (by decide +kernel) (by decide), os_iconst (n := 0) (by decide +kernel) (by decide +kernel), os_is_n (j := 2) (by decide +kernel) rfl (by decide), os_al_n (j := 0) (by decide +kernel) rfl, os_dup (by decide +kernel), os_get (idx := 203) (f := 13) (ci := 4) (C := "FunctionRowsModel") (T := FM) (N := 17) (by decide +kernel) rfl (fun w h => tb_in (fiM w h)) (by decide) (tb_in lkM_203) glM13, os_il_n (j := 2) (by decide +kernel) rfl, os_ifeq (off := 7) (by decide +kernel) (by decide), os_iconst (n := 1) (by decide +kernel) (by decide +kernel), os_go (off := 4) (by decide +kernel) (by decide), os_iconst (n := 0) (by decide +kernel) (by decide +kernel), os_iadd (by decide +kernel), os_put hE (idx := 203) (f := 13) (ci := 4) (C := "FunctionRowsModel") (T := FM) (N := 17) (ty0 := ftM) (by decide +kernel) rfl (fun w h => tb_in (fiM w h)) ftM_ok fnM (by decide) (tb_in lkM_203) rfl (by decide +kernel) plM13, os_iconst (n := 0) (by decide +kernel) (by decide +kernel), os_is_n (j := 3) (by decide +kernel) rfl (by decide), os_al_n (j := 0) (by decide +kernel) rfl, os_al_n (j := 0) (by decide +kernel) rfl, os_get (idx := 206) (f := 14) (ci := 4) (C := "FunctionRowsModel") (T := FM) (N := 17) (by decide +kernel) rfl (fun w h => tb_in (fiM w h)) (by decide) (tb_in lkM_206) glM14, os_ifne (off := 10) (by decide +kernel) (by decide), os_al_n (j := 0) (by decide +kernel) rfl, os_callv hE (pc := 44) (idx := 233) (ci := 4) (by decide +kernel) rfl mrc (cwT_v cM_isItem inM mlM_233 imM_isItem seM_isItem (by decide +kernel) (by decide)), os_ifne (off := 7) (by decide +kernel) (by decide), os_iconst (n := 1) (by decide +kernel) (by decide +kernel), os_go (off := 4) (by decide +kernel) (by decide), os_iconst (n := 0) (by decide +kernel) (by decide +kernel), os_put hE (idx := 206) (f := 14) (ci := 4) (C := "FunctionRowsModel") (T := FM) (N := 17) (ty0 := ftM) (by decide +kernel) rfl (fun w h => tb_in (fiM w h)) ftM_ok fnM (by decide) (tb_in lkM_206) rfl (by decide +kernel) plM14, os_al_n (j := 0) (by decide +kernel) rfl, os_get (idx := 206) (f := 14) (ci := 4) (C := "FunctionRowsModel") (T := FM) (N := 17) (by decide +kernel) rfl (fun w h => tb_in (fiM w h)) (by decide) (tb_in lkM_206) glM14, os_ifne (off := 153) (by decide +kernel) (by decide), os_al_n (j := 0) (by decide +kernel) rfl, os_callv hE (pc := 66) (idx := 216) (ci := 4) (by decide +kernel) rfl mrc (cwT_v cM_here inM mlM_216 imM_here seM_here (by decide +kernel) (by decide)), os_bipush (n := 93) (by decide +kernel) (by decide +kernel), os_iceq (off := 144) (by decide +kernel) (by decide), os_al_n (j := 0) (by decide +kernel) rfl, os_al_n (j := 0) (by decide +kernel) rfl, os_callv hE (pc := 76) (idx := 233) (ci := 4) (by decide +kernel) rfl mrc (cwT_v cM_isItem inM mlM_233 imM_isItem seM_isItem (by decide +kernel) (by decide)), os_ifne (off := 7) (by decide +kernel) (by decide), os_iconst (n := 1) (by decide +kernel) (by decide +kernel), os_go (off := 4) (by decide +kernel) (by decide), os_iconst (n := 0) (by decide +kernel) (by decide +kernel), os_put hE (idx := 206) (f := 14) (ci := 4) (C := "FunctionRowsModel") (T := FM) (N := 17) (ty0 := ftM) (by decide +kernel) rfl (fun w h => tb_in (fiM w h)) ftM_ok fnM (by decide) (tb_in lkM_206) rfl (by decide +kernel) plM14, os_al_n (j := 0) (by decide +kernel) rfl, os_callv hE (pc := 91) (idx := 216) (ci := 4) (by decide +kernel) rfl mrc (cwT_v cM_here inM mlM_216 imM_here seM_here (by decide +kernel) (by decide)), os_is (by decide +kernel) (by decide), os_al_n (j := 0) (by decide +kernel) rfl, os_dup (by decide +kernel), os_get (idx := 203) (f := 13) (ci := 4) (C := "FunctionRowsModel") (T := FM) (N := 17) (by decide +kernel) rfl (fun w h => tb_in (fiM w h)) (by decide) (tb_in lkM_203) glM13, os_iconst (n := 1) (by decide +kernel) (by decide +kernel), os_iadd (by decide +kernel), os_put hE (idx := 203) (f := 13) (ci := 4) (C := "FunctionRowsModel") (T := FM) (N := 17) (ty0 := ftM) (by decide +kernel) rfl (fun w h => tb_in (fiM w h)) ftM_ok fnM (by decide) (tb_in lkM_203) rfl (by decide +kernel) plM13, os_il (by decide +kernel), os_is (by decide +kernel) (by decide), os_al_n (j := 0) (by decide +kernel) rfl, os_get (idx := 206) (f := 14) (ci := 4) (C := "FunctionRowsModel") (T := FM) (N := 17) (by decide +kernel) rfl (fun w h => tb_in (fiM w h)) (by decide) (tb_in lkM_206) glM14, os_ifne (off := 63) (by decide +kernel) (by decide), os_al_n (j := 0) (by decide +kernel) rfl, os_callv hE (pc := 118) (idx := 216) (ci := 4) (by decide +kernel) rfl mrc (cwT_v cM_here inM mlM_216 imM_here seM_here (by decide +kernel) (by decide)), os_bipush (n := 45) (by decide +kernel) (by decide +kernel), os_icne (off := 54) (by decide +kernel) (by decide), os_al_n (j := 0) (by decide +kernel) rfl, os_dup (by decide +kernel), os_get (idx := 203) (f := 13) (ci := 4) (C := "FunctionRowsModel") (T := FM) (N := 17) (by decide +kernel) rfl (fun w h => tb_in (fiM w h)) (by decide) (tb_in lkM_203) glM13, os_iconst (n := 1) (by decide +kernel) (by decide +kernel), os_iadd (by decide +kernel), os_put hE (idx := 203) (f := 13) (ci := 4) (C := "FunctionRowsModel") (T := FM) (N := 17) (ty0 := ftM) (by decide +kernel) rfl (fun w h => tb_in (fiM w h)) ftM_ok fnM (by decide) (tb_in lkM_203) rfl (by decide +kernel) plM13, os_al_n (j := 0) (by decide +kernel) rfl, os_al_n (j := 0) (by decide +kernel) rfl, os_callv hE (pc := 138) (idx := 233) (ci := 4) (by decide +kernel) rfl mrc (cwT_v cM_isItem inM mlM_233 imM_isItem seM_isItem (by decide +kernel) (by decide)), os_ifeq (off := 12) (by decide +kernel) (by decide), os_al_n (j := 0) (by decide +kernel) rfl, os_callv hE (pc := 145) (idx := 216) (ci := 4) (by decide +kernel) rfl mrc (cwT_v cM_here inM mlM_216 imM_here seM_here (by decide +kernel) (by decide)), os_il (by decide +kernel), os_icge (off := 7) (by decide +kernel) (by decide), os_iconst (n := 1) (by decide +kernel) (by decide +kernel), os_go (off := 4) (by decide +kernel) (by decide), os_iconst (n := 0) (by decide +kernel) (by decide +kernel), os_put hE (idx := 206) (f := 14) (ci := 4) (C := "FunctionRowsModel") (T := FM) (N := 17) (ty0 := ftM) (by decide +kernel) rfl (fun w h => tb_in (fiM w h)) ftM_ok fnM (by decide) (tb_in lkM_206) rfl (by decide +kernel) plM14, os_al_n (j := 0) (by decide +kernel) rfl, os_callv hE (pc := 162) (idx := 216) (ci := 4) (by decide +kernel) rfl mrc (cwT_v cM_here inM mlM_216 imM_here seM_here (by decide +kernel) (by decide)), os_is (by decide +kernel) (by decide), os_al_n (j := 0) (by decide +kernel) rfl, os_dup (by decide +kernel), os_get (idx := 203) (f := 13) (ci := 4) (C := "FunctionRowsModel") (T := FM) (N := 17) (by decide +kernel) rfl (fun w h => tb_in (fiM w h)) (by decide) (tb_in lkM_203) glM13, os_iconst (n := 1) (by decide +kernel) (by decide +kernel), os_iadd (by decide +kernel), os_put hE (idx := 203) (f := 13) (ci := 4) (C := "FunctionRowsModel") (T := FM) (N := 17) (ty0 := ftM) (by decide +kernel) rfl (fun w h => tb_in (fiM w h)) ftM_ok fnM (by decide) (tb_in lkM_203) rfl (by decide +kernel) plM13, os_il (by decide +kernel), os_is (by decide +kernel) (by decide), os_il (by decide +kernel), os_il (by decide +kernel), os_icgt (off := 27) (by decide +kernel) (by decide), os_al_n (j := 0) (by decide +kernel) rfl, os_get (idx := 206) (f := 14) (ci := 4) (C := "FunctionRowsModel") (T := FM) (N := 17) (by decide +kernel) rfl (fun w h => tb_in (fiM w h)) (by decide) (tb_in lkM_206) glM14, os_ifne (off := 20) (by decide +kernel) (by decide), os_il_n (j := 3) (by decide +kernel) rfl, os_al_n (j := 0) (by decide +kernel) rfl, os_il_n (j := 1) (by decide +kernel) rfl, os_iconst (n := 0) (by decide +kernel) (by decide +kernel), os_il (by decide +kernel), os_callv hE (pc := 201) (idx := 226) (ci := 4) (by decide +kernel) rfl mrc (cwT_v cM_step inM mlM_226 imM_step seM_step (by decide +kernel) (by decide)), os_ior (by decide +kernel), os_is_n (j := 3) (by decide +kernel) rfl (by decide), os_inc (n := 1) (by decide +kernel) (by decide +kernel) (by decide), os_go (off := -28) (by decide +kernel) (by decide), os_go (off := -154) (by decide +kernel) (by decide), os_al_n (j := 0) (by decide +kernel) rfl, os_dup (by decide +kernel), os_get (idx := 203) (f := 13) (ci := 4) (C := "FunctionRowsModel") (T := FM) (N := 17) (by decide +kernel) rfl (fun w h => tb_in (fiM w h)) (by decide) (tb_in lkM_203) glM13, os_iconst (n := 1) (by decide +kernel) (by decide +kernel), os_iadd (by decide +kernel), os_put hE (idx := 203) (f := 13) (ci := 4) (C := "FunctionRowsModel") (T := FM) (N := 17) (ty0 := ftM) (by decide +kernel) rfl (fun w h => tb_in (fiM w h)) ftM_ok fnM (by decide) (tb_in lkM_203) rfl (by decide +kernel) plM13, os_il_n (j := 2) (by decide +kernel) rfl, os_ifeq (off := 17) (by decide +kernel) (by decide), os_al_n (j := 0) (by decide +kernel) rfl, os_il_n (j := 1) (by decide +kernel) rfl, os_iconst (n := 1) (by decide +kernel) (by decide +kernel), os_iconst (n := 0) (by decide +kernel) (by decide +kernel), os_callv hE (pc := 233) (idx := 226) (ci := 4) (by decide +kernel) rfl mrc (cwT_v cM_step inM mlM_226 imM_step seM_step (by decide +kernel) (by decide)), os_il_n (j := 3) (by decide +kernel) rfl, os_iconst (n := -1) (by decide +kernel) (by decide +kernel), os_ixor (by decide +kernel), os_iand (by decide +kernel), os_go (off := 4) (by decide +kernel) (by decide), os_il_n (j := 3) (by decide +kernel) rfl, os_reti hE (by decide +kernel) rfl⟩
def kM_alternatives (v : Nat) (P : MethodName × List Cond × Room → List qm_v → mG → Option qm_v → mG → Prop) : List (Nat × qm_op mG) := [(0, o_al 0), (1, o_il 1), (2, o_callv 0 2 (P (mM_pieces (v + 3)))), (5, o_is 2), (6, o_al 0), (7, o_get 0 rdM14), (10, o_ifne 43), (13, o_al 0), (14, o_callv 0 1 (P mM_here)), (17, o_ic (124)), (19, o_icne 43), (22, o_al 0), (23, o_stk f_dup), (24, o_get 0 rdM13), (27, o_ic (1)), (28, o_iadd), (29, o_put 0 wrM13), (32, o_il 2), (33, o_al 0), (34, o_il 1), (35, o_callv 0 2 (P (mM_pieces (v + 3)))), (38, o_ior), (39, o_is 2), (40, o_go 6), (43, o_il 2), (44, o_reti)]
set_option maxRecDepth 20000 in
theorem sM_alternatives (E : mEnv) (v : Nat) (hv : 4 ≤ v) : qm_cok (mK E (rmL (v + 4)) prog_10_method_39_code 3 "FunctionRowsModel" (wsT yM_alternatives prog_10_method_39_code 3 (some .int)) (some .int)) (kM_alternatives v (mSd E)) := have hE := mOk E
  ⟨os_al_n (j := 0) (by decide +kernel) rfl, os_il_n (j := 1) (by decide +kernel) rfl, os_callv hE (pc := 2) (idx := 213) (ci := 4) (by decide +kernel) rfl mrc (cwT_v cM_pieces inM mlM_213 imM_pieces seM_pieces (by decide +kernel) ⟨by omega, by decide⟩), os_is_n (j := 2) (by decide +kernel) rfl (by decide), os_al_n (j := 0) (by decide +kernel) rfl, os_get (idx := 206) (f := 14) (ci := 4) (C := "FunctionRowsModel") (T := FM) (N := 17) (by decide +kernel) rfl (fun w h => tb_in (fiM w h)) (by decide) (tb_in lkM_206) glM14, os_ifne (off := 33) (by decide +kernel) (by decide), os_al_n (j := 0) (by decide +kernel) rfl, os_callv hE (pc := 14) (idx := 216) (ci := 4) (by decide +kernel) rfl mrc (cwT_v cM_here inM mlM_216 imM_here seM_here (by decide +kernel) ⟨by omega, by decide⟩), os_bipush (n := 124) (by decide +kernel) (by decide +kernel), os_icne (off := 24) (by decide +kernel) (by decide), os_al_n (j := 0) (by decide +kernel) rfl, os_dup (by decide +kernel), os_get (idx := 203) (f := 13) (ci := 4) (C := "FunctionRowsModel") (T := FM) (N := 17) (by decide +kernel) rfl (fun w h => tb_in (fiM w h)) (by decide) (tb_in lkM_203) glM13, os_iconst (n := 1) (by decide +kernel) (by decide +kernel), os_iadd (by decide +kernel), os_put hE (idx := 203) (f := 13) (ci := 4) (C := "FunctionRowsModel") (T := FM) (N := 17) (ty0 := ftM) (by decide +kernel) rfl (fun w h => tb_in (fiM w h)) ftM_ok fnM (by decide) (tb_in lkM_203) rfl (by decide +kernel) plM13, os_il_n (j := 2) (by decide +kernel) rfl, os_al_n (j := 0) (by decide +kernel) rfl, os_il_n (j := 1) (by decide +kernel) rfl, os_callv hE (pc := 35) (idx := 213) (ci := 4) (by decide +kernel) rfl mrc (cwT_v cM_pieces inM mlM_213 imM_pieces seM_pieces (by decide +kernel) ⟨by omega, by decide⟩), os_ior (by decide +kernel), os_is_n (j := 2) (by decide +kernel) rfl (by decide), os_go (off := -34) (by decide +kernel) (by decide), os_il_n (j := 2) (by decide +kernel) rfl, os_reti hE (by decide +kernel) rfl⟩
def kM_pieces (v : Nat) (P : MethodName × List Cond × Room → List qm_v → mG → Option qm_v → mG → Prop) : List (Nat × qm_op mG) := [(0, o_il 1), (1, o_is 2), (2, o_al 0), (3, o_get 0 rdM14), (6, o_ifne 104), (9, o_al 0), (10, o_callv 0 1 (P mM_here)), (13, o_ifeq 104), (16, o_al 0), (17, o_callv 0 1 (P mM_here)), (20, o_ic (124)), (22, o_iceq 104), (25, o_al 0), (26, o_callv 0 1 (P mM_here)), (29, o_ic (41)), (31, o_iceq 104), (34, o_al 0), (35, o_callv 0 1 (P mM_here)), (38, o_ic (94)), (40, o_icne 60), (43, o_al 0), (44, o_stk f_dup), (45, o_get 0 rdM13), (48, o_ic (1)), (49, o_iadd), (50, o_put 0 wrM13), (53, o_il 2), (54, o_ic (1)), (55, o_iand), (56, o_is 2), (57, o_go 2), (60, o_al 0), (61, o_callv 0 1 (P mM_here)), (64, o_ic (36)), (66, o_icne 95), (69, o_al 0), (70, o_stk f_dup), (71, o_get 0 rdM13), (74, o_ic (1)), (75, o_iadd), (76, o_put 0 wrM13), (79, o_il 2), (80, o_ic (1)), (81, o_al 0), (82, o_al 0), (83, o_get 0 rdM15), (86, o_callv 0 2 (P mM_length)), (89, o_ishl), (90, o_iand), (91, o_is 2), (92, o_go 2), (95, o_al 0), (96, o_il 2), (97, o_callv 0 2 (P (mM_piece (v + 2)))), (100, o_is 2), (101, o_go 2), (104, o_il 2), (105, o_reti)]
set_option maxRecDepth 20000 in
theorem sM_pieces (E : mEnv) (v : Nat) (hv : 4 ≤ v) : qm_cok (mK E (rmL (v + 3)) prog_10_method_40_code 3 "FunctionRowsModel" (wsT yM_pieces prog_10_method_40_code 3 (some .int)) (some .int)) (kM_pieces v (mSd E)) := have hE := mOk E
  ⟨os_il_n (j := 1) (by decide +kernel) rfl, os_is_n (j := 2) (by decide +kernel) rfl (by decide), os_al_n (j := 0) (by decide +kernel) rfl, os_get (idx := 206) (f := 14) (ci := 4) (C := "FunctionRowsModel") (T := FM) (N := 17) (by decide +kernel) rfl (fun w h => tb_in (fiM w h)) (by decide) (tb_in lkM_206) glM14, os_ifne (off := 98) (by decide +kernel) (by decide), os_al_n (j := 0) (by decide +kernel) rfl, os_callv hE (pc := 10) (idx := 216) (ci := 4) (by decide +kernel) rfl mrc (cwT_v cM_here inM mlM_216 imM_here seM_here (by decide +kernel) ⟨by omega, by decide⟩), os_ifeq (off := 91) (by decide +kernel) (by decide), os_al_n (j := 0) (by decide +kernel) rfl, os_callv hE (pc := 17) (idx := 216) (ci := 4) (by decide +kernel) rfl mrc (cwT_v cM_here inM mlM_216 imM_here seM_here (by decide +kernel) ⟨by omega, by decide⟩), os_bipush (n := 124) (by decide +kernel) (by decide +kernel), os_iceq (off := 82) (by decide +kernel) (by decide), os_al_n (j := 0) (by decide +kernel) rfl, os_callv hE (pc := 26) (idx := 216) (ci := 4) (by decide +kernel) rfl mrc (cwT_v cM_here inM mlM_216 imM_here seM_here (by decide +kernel) ⟨by omega, by decide⟩), os_bipush (n := 41) (by decide +kernel) (by decide +kernel), os_iceq (off := 73) (by decide +kernel) (by decide), os_al_n (j := 0) (by decide +kernel) rfl, os_callv hE (pc := 35) (idx := 216) (ci := 4) (by decide +kernel) rfl mrc (cwT_v cM_here inM mlM_216 imM_here seM_here (by decide +kernel) ⟨by omega, by decide⟩), os_bipush (n := 94) (by decide +kernel) (by decide +kernel), os_icne (off := 20) (by decide +kernel) (by decide), os_al_n (j := 0) (by decide +kernel) rfl, os_dup (by decide +kernel), os_get (idx := 203) (f := 13) (ci := 4) (C := "FunctionRowsModel") (T := FM) (N := 17) (by decide +kernel) rfl (fun w h => tb_in (fiM w h)) (by decide) (tb_in lkM_203) glM13, os_iconst (n := 1) (by decide +kernel) (by decide +kernel), os_iadd (by decide +kernel), os_put hE (idx := 203) (f := 13) (ci := 4) (C := "FunctionRowsModel") (T := FM) (N := 17) (ty0 := ftM) (by decide +kernel) rfl (fun w h => tb_in (fiM w h)) ftM_ok fnM (by decide) (tb_in lkM_203) rfl (by decide +kernel) plM13, os_il_n (j := 2) (by decide +kernel) rfl, os_iconst (n := 1) (by decide +kernel) (by decide +kernel), os_iand (by decide +kernel), os_is_n (j := 2) (by decide +kernel) rfl (by decide), os_go (off := -55) (by decide +kernel) (by decide), os_al_n (j := 0) (by decide +kernel) rfl, os_callv hE (pc := 61) (idx := 216) (ci := 4) (by decide +kernel) rfl mrc (cwT_v cM_here inM mlM_216 imM_here seM_here (by decide +kernel) ⟨by omega, by decide⟩), os_bipush (n := 36) (by decide +kernel) (by decide +kernel), os_icne (off := 29) (by decide +kernel) (by decide), os_al_n (j := 0) (by decide +kernel) rfl, os_dup (by decide +kernel), os_get (idx := 203) (f := 13) (ci := 4) (C := "FunctionRowsModel") (T := FM) (N := 17) (by decide +kernel) rfl (fun w h => tb_in (fiM w h)) (by decide) (tb_in lkM_203) glM13, os_iconst (n := 1) (by decide +kernel) (by decide +kernel), os_iadd (by decide +kernel), os_put hE (idx := 203) (f := 13) (ci := 4) (C := "FunctionRowsModel") (T := FM) (N := 17) (ty0 := ftM) (by decide +kernel) rfl (fun w h => tb_in (fiM w h)) ftM_ok fnM (by decide) (tb_in lkM_203) rfl (by decide +kernel) plM13, os_il_n (j := 2) (by decide +kernel) rfl, os_iconst (n := 1) (by decide +kernel) (by decide +kernel), os_al_n (j := 0) (by decide +kernel) rfl, os_al_n (j := 0) (by decide +kernel) rfl, os_get (idx := 200) (f := 15) (ci := 4) (C := "FunctionRowsModel") (T := FM) (N := 17) (by decide +kernel) rfl (fun w h => tb_in (fiM w h)) (by decide) (tb_in lkM_200) glM15, os_callv hE (pc := 86) (idx := 100) (ci := 4) (by decide +kernel) rfl mrc (cwT_v cM_length inM mlM_100 imM_length seM_length (by decide +kernel) ⟨by omega, by decide⟩), os_ishl (by decide +kernel), os_iand (by decide +kernel), os_is_n (j := 2) (by decide +kernel) rfl (by decide), os_go (off := -90) (by decide +kernel) (by decide), os_al_n (j := 0) (by decide +kernel) rfl, os_il_n (j := 2) (by decide +kernel) rfl, os_callv hE (pc := 97) (idx := 220) (ci := 4) (by decide +kernel) rfl mrc (cwT_v cM_piece inM mlM_220 imM_piece seM_piece (by decide +kernel) ⟨by omega, by decide⟩), os_is_n (j := 2) (by decide +kernel) rfl (by decide), os_go (off := -99) (by decide +kernel) (by decide), os_il_n (j := 2) (by decide +kernel) rfl, os_reti hE (by decide +kernel) rfl⟩
def kM_piece (v : Nat) (P : MethodName × List Cond × Room → List qm_v → mG → Option qm_v → mG → Prop) : List (Nat × qm_op mG) := [(0, o_al 0), (1, o_get 0 rdM13), (4, o_is 2), (5, o_al 0), (6, o_il 1), (7, o_callv 0 2 (P (mM_atom (v + 1)))), (10, o_is 3), (11, o_al 0), (12, o_callv 0 1 (P mM_here)), (15, o_is 4), (17, o_al 0), (18, o_get 0 rdM14), (21, o_ifne 45), (24, o_il 4), (26, o_ic (42)), (28, o_iceq 47), (31, o_il 4), (33, o_ic (43)), (35, o_iceq 47), (38, o_il 4), (40, o_ic (63)), (42, o_iceq 47), (45, o_il 3), (46, o_reti), (47, o_al 0), (48, o_get 0 rdM13), (51, o_ic (1)), (52, o_iadd), (53, o_is 5), (55, o_il 4), (57, o_ic (43)), (59, o_icne 66), (62, o_il 3), (63, o_go 69), (66, o_il 1), (67, o_il 3), (68, o_ior), (69, o_is 6), (71, o_il 4), (73, o_ic (63)), (75, o_iceq 82), (78, o_ic (1)), (79, o_go 83), (82, o_ic (0)), (83, o_is 7), (85, o_il 7), (87, o_ifeq 127), (90, o_al 0), (91, o_il 2), (92, o_put 0 wrM13), (95, o_il 6), (97, o_al 0), (98, o_il 6), (100, o_callv 0 2 (P (mM_atom (v + 1)))), (103, o_ior), (104, o_is 8), (106, o_il 8), (108, o_il 6), (110, o_iceq 117), (113, o_ic (1)), (114, o_go 118), (117, o_ic (0)), (118, o_is 7), (120, o_il 8), (122, o_is 6), (124, o_go 85), (127, o_al 0), (128, o_il 5), (130, o_put 0 wrM13), (133, o_il 6), (135, o_reti)]
set_option maxRecDepth 20000 in
theorem sM_piece (E : mEnv) (v : Nat) (hv : 4 ≤ v) : qm_cok (mK E (rmL (v + 2)) prog_10_method_41_code 9 "FunctionRowsModel" (wsT yM_piece prog_10_method_41_code 9 (some .int)) (some .int)) (kM_piece v (mSd E)) := have hE := mOk E
  ⟨os_al_n (j := 0) (by decide +kernel) rfl, os_get (idx := 203) (f := 13) (ci := 4) (C := "FunctionRowsModel") (T := FM) (N := 17) (by decide +kernel) rfl (fun w h => tb_in (fiM w h)) (by decide) (tb_in lkM_203) glM13, os_is_n (j := 2) (by decide +kernel) rfl (by decide), os_al_n (j := 0) (by decide +kernel) rfl, os_il_n (j := 1) (by decide +kernel) rfl, os_callv hE (pc := 7) (idx := 223) (ci := 4) (by decide +kernel) rfl mrc (cwT_v cM_atom inM mlM_223 imM_atom seM_atom (by decide +kernel) ⟨by omega, by decide⟩), os_is_n (j := 3) (by decide +kernel) rfl (by decide), os_al_n (j := 0) (by decide +kernel) rfl, os_callv hE (pc := 12) (idx := 216) (ci := 4) (by decide +kernel) rfl mrc (cwT_v cM_here inM mlM_216 imM_here seM_here (by decide +kernel) ⟨by omega, by decide⟩), os_is (by decide +kernel) (by decide), os_al_n (j := 0) (by decide +kernel) rfl, os_get (idx := 206) (f := 14) (ci := 4) (C := "FunctionRowsModel") (T := FM) (N := 17) (by decide +kernel) rfl (fun w h => tb_in (fiM w h)) (by decide) (tb_in lkM_206) glM14, os_ifne (off := 24) (by decide +kernel) (by decide), os_il (by decide +kernel), os_bipush (n := 42) (by decide +kernel) (by decide +kernel), os_iceq (off := 19) (by decide +kernel) (by decide), os_il (by decide +kernel), os_bipush (n := 43) (by decide +kernel) (by decide +kernel), os_iceq (off := 12) (by decide +kernel) (by decide), os_il (by decide +kernel), os_bipush (n := 63) (by decide +kernel) (by decide +kernel), os_iceq (off := 5) (by decide +kernel) (by decide), os_il_n (j := 3) (by decide +kernel) rfl, os_reti hE (by decide +kernel) rfl, os_al_n (j := 0) (by decide +kernel) rfl, os_get (idx := 203) (f := 13) (ci := 4) (C := "FunctionRowsModel") (T := FM) (N := 17) (by decide +kernel) rfl (fun w h => tb_in (fiM w h)) (by decide) (tb_in lkM_203) glM13, os_iconst (n := 1) (by decide +kernel) (by decide +kernel), os_iadd (by decide +kernel), os_is (by decide +kernel) (by decide), os_il (by decide +kernel), os_bipush (n := 43) (by decide +kernel) (by decide +kernel), os_icne (off := 7) (by decide +kernel) (by decide), os_il_n (j := 3) (by decide +kernel) rfl, os_go (off := 6) (by decide +kernel) (by decide), os_il_n (j := 1) (by decide +kernel) rfl, os_il_n (j := 3) (by decide +kernel) rfl, os_ior (by decide +kernel), os_is (by decide +kernel) (by decide), os_il (by decide +kernel), os_bipush (n := 63) (by decide +kernel) (by decide +kernel), os_iceq (off := 7) (by decide +kernel) (by decide), os_iconst (n := 1) (by decide +kernel) (by decide +kernel), os_go (off := 4) (by decide +kernel) (by decide), os_iconst (n := 0) (by decide +kernel) (by decide +kernel), os_is (by decide +kernel) (by decide), os_il (by decide +kernel), os_ifeq (off := 40) (by decide +kernel) (by decide), os_al_n (j := 0) (by decide +kernel) rfl, os_il_n (j := 2) (by decide +kernel) rfl, os_put hE (idx := 203) (f := 13) (ci := 4) (C := "FunctionRowsModel") (T := FM) (N := 17) (ty0 := ftM) (by decide +kernel) rfl (fun w h => tb_in (fiM w h)) ftM_ok fnM (by decide) (tb_in lkM_203) rfl (by decide +kernel) plM13, os_il (by decide +kernel), os_al_n (j := 0) (by decide +kernel) rfl, os_il (by decide +kernel), os_callv hE (pc := 100) (idx := 223) (ci := 4) (by decide +kernel) rfl mrc (cwT_v cM_atom inM mlM_223 imM_atom seM_atom (by decide +kernel) ⟨by omega, by decide⟩), os_ior (by decide +kernel), os_is (by decide +kernel) (by decide), os_il (by decide +kernel), os_il (by decide +kernel), os_iceq (off := 7) (by decide +kernel) (by decide), os_iconst (n := 1) (by decide +kernel) (by decide +kernel), os_go (off := 4) (by decide +kernel) (by decide), os_iconst (n := 0) (by decide +kernel) (by decide +kernel), os_is (by decide +kernel) (by decide), os_il (by decide +kernel), os_is (by decide +kernel) (by decide), os_go (off := -39) (by decide +kernel) (by decide), os_al_n (j := 0) (by decide +kernel) rfl, os_il (by decide +kernel), os_put hE (idx := 203) (f := 13) (ci := 4) (C := "FunctionRowsModel") (T := FM) (N := 17) (ty0 := ftM) (by decide +kernel) rfl (fun w h => tb_in (fiM w h)) ftM_ok fnM (by decide) (tb_in lkM_203) rfl (by decide +kernel) plM13, os_il (by decide +kernel), os_reti hE (by decide +kernel) rfl⟩
def kM_atom (v : Nat) (P : MethodName × List Cond × Room → List qm_v → mG → Option qm_v → mG → Prop) : List (Nat × qm_op mG) := [(0, o_al 0), (1, o_callv 0 1 (P mM_here)), (4, o_is 2), (5, o_al 0), (6, o_stk f_dup), (7, o_get 0 rdM13), (10, o_ic (1)), (11, o_iadd), (12, o_put 0 wrM13), (15, o_il 2), (16, o_sw [(0, 211), (40, 116), (41, 211), (42, 211), (43, 211), (46, 108), (63, 211), (91, 205), (92, 159), (93, 211)] 218), (108, o_al 0), (109, o_il 1), (110, o_ic (1)), (111, o_ic (0)), (112, o_callv 0 4 (P mM_step)), (115, o_reti), (116, o_al 0), (117, o_il 1), (118, o_callv 0 2 (P (mM_alternatives (v)))), (121, o_is 3), (122, o_al 0), (123, o_al 0), (124, o_get 0 rdM14), (127, o_ifne 139), (130, o_al 0), (131, o_callv 0 1 (P mM_here)), (134, o_ic (41)), (136, o_iceq 143), (139, o_ic (1)), (140, o_go 144), (143, o_ic (0)), (144, o_put 0 wrM14), (147, o_al 0), (148, o_stk f_dup), (149, o_get 0 rdM13), (152, o_ic (1)), (153, o_iadd), (154, o_put 0 wrM13), (157, o_il 3), (158, o_reti), (159, o_al 0), (160, o_callv 0 1 (P mM_here)), (163, o_is 4), (165, o_al 0), (166, o_al 0), (167, o_get 0 rdM14), (170, o_ifne 178), (173, o_il 4), (175, o_ifne 182), (178, o_ic (1)), (179, o_go 183), (182, o_ic (0)), (183, o_put 0 wrM14), (186, o_al 0), (187, o_stk f_dup), (188, o_get 0 rdM13), (191, o_ic (1)), (192, o_iadd), (193, o_put 0 wrM13), (196, o_al 0), (197, o_il 1), (198, o_ic (0)), (199, o_il 4), (201, o_callv 0 4 (P mM_step)), (204, o_reti), (205, o_al 0), (206, o_il 1), (207, o_callv 0 2 (P mM_items)), (210, o_reti), (211, o_al 0), (212, o_ic (1)), (213, o_put 0 wrM14), (216, o_ic (0)), (217, o_reti), (218, o_al 0), (219, o_il 1), (220, o_ic (0)), (221, o_il 2), (222, o_callv 0 4 (P mM_step)), (225, o_reti)]
set_option maxRecDepth 20000 in
theorem sM_atom (E : mEnv) (v : Nat) (hv : 4 ≤ v) : qm_cok (mK E (rmL (v + 1)) prog_10_method_43_code 5 "FunctionRowsModel" (wsT yM_atom prog_10_method_43_code 5 (some .int)) (some .int)) (kM_atom v (mSd E)) := have hE := mOk E
  ⟨os_al_n (j := 0) (by decide +kernel) rfl, os_callv hE (pc := 1) (idx := 216) (ci := 4) (by decide +kernel) rfl mrc (cwT_v cM_here inM mlM_216 imM_here seM_here (by decide +kernel) ⟨by omega, by decide⟩), os_is_n (j := 2) (by decide +kernel) rfl (by decide), os_al_n (j := 0) (by decide +kernel) rfl, os_dup (by decide +kernel), os_get (idx := 203) (f := 13) (ci := 4) (C := "FunctionRowsModel") (T := FM) (N := 17) (by decide +kernel) rfl (fun w h => tb_in (fiM w h)) (by decide) (tb_in lkM_203) glM13, os_iconst (n := 1) (by decide +kernel) (by decide +kernel), os_iadd (by decide +kernel), os_put hE (idx := 203) (f := 13) (ci := 4) (C := "FunctionRowsModel") (T := FM) (N := 17) (ty0 := ftM) (by decide +kernel) rfl (fun w h => tb_in (fiM w h)) ftM_ok fnM (by decide) (tb_in lkM_203) rfl (by decide +kernel) plM13, os_il_n (j := 2) (by decide +kernel) rfl, os_look (len := 92) (dflt := 202) (ps := #[(0, 195), (40, 100), (41, 195), (42, 195), (43, 195), (46, 92), (63, 195), (91, 189), (92, 143), (93, 195)]) (by decide +kernel) (by decide +kernel) (by decide) (by decide +kernel) (by decide +kernel), os_al_n (j := 0) (by decide +kernel) rfl, os_il_n (j := 1) (by decide +kernel) rfl, os_iconst (n := 1) (by decide +kernel) (by decide +kernel), os_iconst (n := 0) (by decide +kernel) (by decide +kernel), os_callv hE (pc := 112) (idx := 226) (ci := 4) (by decide +kernel) rfl mrc (cwT_v cM_step inM mlM_226 imM_step seM_step (by decide +kernel) ⟨by omega, by decide⟩), os_reti hE (by decide +kernel) rfl, os_al_n (j := 0) (by decide +kernel) rfl, os_il_n (j := 1) (by decide +kernel) rfl, os_callv hE (pc := 118) (idx := 210) (ci := 4) (by decide +kernel) rfl mrc (cwT_v cM_alternatives inM mlM_210 imM_alternatives seM_alternatives (by decide +kernel) ⟨by omega, by decide⟩), os_is_n (j := 3) (by decide +kernel) rfl (by decide), os_al_n (j := 0) (by decide +kernel) rfl, os_al_n (j := 0) (by decide +kernel) rfl, os_get (idx := 206) (f := 14) (ci := 4) (C := "FunctionRowsModel") (T := FM) (N := 17) (by decide +kernel) rfl (fun w h => tb_in (fiM w h)) (by decide) (tb_in lkM_206) glM14, os_ifne (off := 12) (by decide +kernel) (by decide), os_al_n (j := 0) (by decide +kernel) rfl, os_callv hE (pc := 131) (idx := 216) (ci := 4) (by decide +kernel) rfl mrc (cwT_v cM_here inM mlM_216 imM_here seM_here (by decide +kernel) ⟨by omega, by decide⟩), os_bipush (n := 41) (by decide +kernel) (by decide +kernel), os_iceq (off := 7) (by decide +kernel) (by decide), os_iconst (n := 1) (by decide +kernel) (by decide +kernel), os_go (off := 4) (by decide +kernel) (by decide), os_iconst (n := 0) (by decide +kernel) (by decide +kernel), os_put hE (idx := 206) (f := 14) (ci := 4) (C := "FunctionRowsModel") (T := FM) (N := 17) (ty0 := ftM) (by decide +kernel) rfl (fun w h => tb_in (fiM w h)) ftM_ok fnM (by decide) (tb_in lkM_206) rfl (by decide +kernel) plM14, os_al_n (j := 0) (by decide +kernel) rfl, os_dup (by decide +kernel), os_get (idx := 203) (f := 13) (ci := 4) (C := "FunctionRowsModel") (T := FM) (N := 17) (by decide +kernel) rfl (fun w h => tb_in (fiM w h)) (by decide) (tb_in lkM_203) glM13, os_iconst (n := 1) (by decide +kernel) (by decide +kernel), os_iadd (by decide +kernel), os_put hE (idx := 203) (f := 13) (ci := 4) (C := "FunctionRowsModel") (T := FM) (N := 17) (ty0 := ftM) (by decide +kernel) rfl (fun w h => tb_in (fiM w h)) ftM_ok fnM (by decide) (tb_in lkM_203) rfl (by decide +kernel) plM13, os_il_n (j := 3) (by decide +kernel) rfl, os_reti hE (by decide +kernel) rfl, os_al_n (j := 0) (by decide +kernel) rfl, os_callv hE (pc := 160) (idx := 216) (ci := 4) (by decide +kernel) rfl mrc (cwT_v cM_here inM mlM_216 imM_here seM_here (by decide +kernel) ⟨by omega, by decide⟩), os_is (by decide +kernel) (by decide), os_al_n (j := 0) (by decide +kernel) rfl, os_al_n (j := 0) (by decide +kernel) rfl, os_get (idx := 206) (f := 14) (ci := 4) (C := "FunctionRowsModel") (T := FM) (N := 17) (by decide +kernel) rfl (fun w h => tb_in (fiM w h)) (by decide) (tb_in lkM_206) glM14, os_ifne (off := 8) (by decide +kernel) (by decide), os_il (by decide +kernel), os_ifne (off := 7) (by decide +kernel) (by decide), os_iconst (n := 1) (by decide +kernel) (by decide +kernel), os_go (off := 4) (by decide +kernel) (by decide), os_iconst (n := 0) (by decide +kernel) (by decide +kernel), os_put hE (idx := 206) (f := 14) (ci := 4) (C := "FunctionRowsModel") (T := FM) (N := 17) (ty0 := ftM) (by decide +kernel) rfl (fun w h => tb_in (fiM w h)) ftM_ok fnM (by decide) (tb_in lkM_206) rfl (by decide +kernel) plM14, os_al_n (j := 0) (by decide +kernel) rfl, os_dup (by decide +kernel), os_get (idx := 203) (f := 13) (ci := 4) (C := "FunctionRowsModel") (T := FM) (N := 17) (by decide +kernel) rfl (fun w h => tb_in (fiM w h)) (by decide) (tb_in lkM_203) glM13, os_iconst (n := 1) (by decide +kernel) (by decide +kernel), os_iadd (by decide +kernel), os_put hE (idx := 203) (f := 13) (ci := 4) (C := "FunctionRowsModel") (T := FM) (N := 17) (ty0 := ftM) (by decide +kernel) rfl (fun w h => tb_in (fiM w h)) ftM_ok fnM (by decide) (tb_in lkM_203) rfl (by decide +kernel) plM13, os_al_n (j := 0) (by decide +kernel) rfl, os_il_n (j := 1) (by decide +kernel) rfl, os_iconst (n := 0) (by decide +kernel) (by decide +kernel), os_il (by decide +kernel), os_callv hE (pc := 201) (idx := 226) (ci := 4) (by decide +kernel) rfl mrc (cwT_v cM_step inM mlM_226 imM_step seM_step (by decide +kernel) ⟨by omega, by decide⟩), os_reti hE (by decide +kernel) rfl, os_al_n (j := 0) (by decide +kernel) rfl, os_il_n (j := 1) (by decide +kernel) rfl, os_callv hE (pc := 207) (idx := 230) (ci := 4) (by decide +kernel) rfl mrc (cwT_v cM_items inM mlM_230 imM_items seM_items (by decide +kernel) ⟨by omega, by decide⟩), os_reti hE (by decide +kernel) rfl, os_al_n (j := 0) (by decide +kernel) rfl, os_iconst (n := 1) (by decide +kernel) (by decide +kernel), os_put hE (idx := 206) (f := 14) (ci := 4) (C := "FunctionRowsModel") (T := FM) (N := 17) (ty0 := ftM) (by decide +kernel) rfl (fun w h => tb_in (fiM w h)) ftM_ok fnM (by decide) (tb_in lkM_206) rfl (by decide +kernel) plM14, os_iconst (n := 0) (by decide +kernel) (by decide +kernel), os_reti hE (by decide +kernel) rfl, os_al_n (j := 0) (by decide +kernel) rfl, os_il_n (j := 1) (by decide +kernel) rfl, os_iconst (n := 0) (by decide +kernel) (by decide +kernel), os_il_n (j := 2) (by decide +kernel) rfl, os_callv hE (pc := 222) (idx := 226) (ci := 4) (by decide +kernel) rfl mrc (cwT_v cM_step inM mlM_226 imM_step seM_step (by decide +kernel) ⟨by omega, by decide⟩), os_reti hE (by decide +kernel) rfl⟩
def kM_goes (P : MethodName × List Cond × Room → List qm_v → mG → Option qm_v → mG → Prop) : List (Nat × qm_op mG) := [(0, o_al 0), (1, o_il 3), (2, o_put 0 wrM12), (5, o_al 0), (6, o_il 2), (7, o_put 0 wrM15), (10, o_al 0), (11, o_ic (0)), (12, o_put 0 wrM13), (15, o_al 0), (16, o_ic (0)), (17, o_put 0 wrM14), (20, o_al 0), (21, o_ic (1)), (22, o_al 0), (23, o_il 2), (24, o_callv 0 2 (P mM_length)), (27, o_ic (1)), (28, o_iadd), (29, o_ishl), (30, o_ic (1)), (31, o_isub), (32, o_callv 0 2 (P (mM_alternatives 108))), (35, o_is 4), (37, o_al 0), (38, o_get 0 rdM14), (41, o_ifne 72), (44, o_al 0), (45, o_get 0 rdM13), (48, o_al 0), (49, o_il 3), (50, o_callv 0 2 (P mM_length)), (53, o_icne 72), (56, o_al 0), (57, o_il 1), (58, o_ic (1)), (59, o_il 4), (61, o_ifeq 68), (64, o_lc 1), (65, o_go 69), (68, o_lc 0), (69, o_callv 0 4 (P mM_set)), (72, o_ret0)]
set_option maxRecDepth 20000 in
theorem sM_goes (E : mEnv) : qm_cok (mK E (rmL 109) prog_10_method_37_code 5 "FunctionRowsModel" (wsT yM_goes prog_10_method_37_code 5 none) none) (kM_goes (mSd E)) := have hE := mOk E
  ⟨os_al_n (j := 0) (by decide +kernel) rfl, os_il_n (j := 3) (by decide +kernel) rfl, os_put hE (idx := 197) (f := 12) (ci := 4) (C := "FunctionRowsModel") (T := FM) (N := 17) (ty0 := ftM) (by decide +kernel) rfl (fun w h => tb_in (fiM w h)) ftM_ok fnM (by decide) (tb_in lkM_197) rfl (by decide +kernel) plM12, os_al_n (j := 0) (by decide +kernel) rfl, os_il_n (j := 2) (by decide +kernel) rfl, os_put hE (idx := 200) (f := 15) (ci := 4) (C := "FunctionRowsModel") (T := FM) (N := 17) (ty0 := ftM) (by decide +kernel) rfl (fun w h => tb_in (fiM w h)) ftM_ok fnM (by decide) (tb_in lkM_200) rfl (by decide +kernel) plM15, os_al_n (j := 0) (by decide +kernel) rfl, os_iconst (n := 0) (by decide +kernel) (by decide +kernel), os_put hE (idx := 203) (f := 13) (ci := 4) (C := "FunctionRowsModel") (T := FM) (N := 17) (ty0 := ftM) (by decide +kernel) rfl (fun w h => tb_in (fiM w h)) ftM_ok fnM (by decide) (tb_in lkM_203) rfl (by decide +kernel) plM13, os_al_n (j := 0) (by decide +kernel) rfl, os_iconst (n := 0) (by decide +kernel) (by decide +kernel), os_put hE (idx := 206) (f := 14) (ci := 4) (C := "FunctionRowsModel") (T := FM) (N := 17) (ty0 := ftM) (by decide +kernel) rfl (fun w h => tb_in (fiM w h)) ftM_ok fnM (by decide) (tb_in lkM_206) rfl (by decide +kernel) plM14, os_al_n (j := 0) (by decide +kernel) rfl, os_iconst (n := 1) (by decide +kernel) (by decide +kernel), os_al_n (j := 0) (by decide +kernel) rfl, os_il_n (j := 2) (by decide +kernel) rfl, os_callv hE (pc := 24) (idx := 100) (ci := 4) (by decide +kernel) rfl mrc (cwT_v cM_length inM mlM_100 imM_length seM_length (by decide +kernel) (by decide)), os_iconst (n := 1) (by decide +kernel) (by decide +kernel), os_iadd (by decide +kernel), os_ishl (by decide +kernel), os_iconst (n := 1) (by decide +kernel) (by decide +kernel), os_isub (by decide +kernel), os_callv hE (pc := 32) (idx := 210) (ci := 4) (by decide +kernel) rfl mrc (cwT_v cM_alternatives inM mlM_210 imM_alternatives seM_alternatives (by decide +kernel) (by decide)), os_is (by decide +kernel) (by decide), os_al_n (j := 0) (by decide +kernel) rfl, os_get (idx := 206) (f := 14) (ci := 4) (C := "FunctionRowsModel") (T := FM) (N := 17) (by decide +kernel) rfl (fun w h => tb_in (fiM w h)) (by decide) (tb_in lkM_206) glM14, os_ifne (off := 31) (by decide +kernel) (by decide), os_al_n (j := 0) (by decide +kernel) rfl, os_get (idx := 203) (f := 13) (ci := 4) (C := "FunctionRowsModel") (T := FM) (N := 17) (by decide +kernel) rfl (fun w h => tb_in (fiM w h)) (by decide) (tb_in lkM_203) glM13, os_al_n (j := 0) (by decide +kernel) rfl, os_il_n (j := 3) (by decide +kernel) rfl, os_callv hE (pc := 50) (idx := 100) (ci := 4) (by decide +kernel) rfl mrc (cwT_v cM_length inM mlM_100 imM_length seM_length (by decide +kernel) (by decide)), os_icne (off := 19) (by decide +kernel) (by decide), os_al_n (j := 0) (by decide +kernel) rfl, os_il_n (j := 1) (by decide +kernel) rfl, os_iconst (n := 1) (by decide +kernel) (by decide +kernel), os_il (by decide +kernel), os_ifeq (off := 7) (by decide +kernel) (by decide), os_lconst (n := 1) (by decide +kernel) (by decide +kernel), os_go (off := 4) (by decide +kernel) (by decide), os_lconst (n := 0) (by decide +kernel) (by decide +kernel), os_callv hE (pc := 69) (idx := 88) (ci := 4) (by decide +kernel) rfl mrc (cwT_v cM_set inM mlM_88 imM_set seM_set (by decide +kernel) (by decide)), os_ret0 hE (by decide +kernel) rfl⟩
def kM_last (P : MethodName × List Cond × Room → List qm_v → mG → Option qm_v → mG → Prop) : List (Nat × qm_op mG) := [(0, o_il 2), (1, o_ic (29)), (3, o_icne 61), (6, o_al 0), (7, o_il 3), (8, o_il 4), (10, o_callv 0 3 (P mM_same)), (13, o_is 6), (15, o_al 0), (16, o_il 3), (17, o_il 5), (19, o_callv 0 3 (P mM_same)), (22, o_is 7), (24, o_al 0), (25, o_il 1), (26, o_il 6), (28, o_ic (1)), (29, o_iceq 38), (32, o_il 7), (34, o_ic (1)), (35, o_icne 42), (38, o_ic (1)), (39, o_go 57), (42, o_il 6), (44, o_iflt 52), (47, o_il 7), (49, o_ifge 56), (52, o_ic (-1)), (53, o_go 57), (56, o_ic (0)), (57, o_callv 0 3 (P mM_setTruth)), (60, o_ret0), (61, o_al 0), (62, o_get 0 rdM8), (65, o_il 3), (66, o_ald 1 miL miR), (67, o_ic (3)), (68, o_icne 92), (71, o_al 0), (72, o_get 0 rdM8), (75, o_il 4), (77, o_ald 1 miL miR), (78, o_ic (3)), (79, o_icne 92), (82, o_al 0), (83, o_get 0 rdM10), (86, o_il 4), (88, o_ald 1 miL miR), (89, o_ifeq 93), (92, o_ret0), (93, o_il 2), (94, o_ic (27)), (96, o_icne 108), (99, o_al 0), (100, o_il 1), (101, o_il 3), (102, o_il 4), (104, o_callv 0 4 (P mM_goes)), (107, o_ret0), (108, o_al 0), (109, o_get 0 rdM8), (112, o_il 5), (114, o_ald 1 miL miR), (115, o_ic (3)), (116, o_icne 138), (119, o_al 0), (120, o_get 0 rdM10), (123, o_il 5), (125, o_ald 1 miL miR), (126, o_ifne 138), (129, o_al 0), (130, o_il 4), (132, o_callv 0 2 (P mM_length)), (135, o_ifne 139), (138, o_ret0), (139, o_al 0), (140, o_il 1), (141, o_ic (3)), (142, o_lc 0), (143, o_callv 0 4 (P mM_set)), (146, o_ic (0)), (147, o_is 6), (149, o_il 6), (151, o_al 0), (152, o_il 3), (153, o_callv 0 2 (P mM_length)), (156, o_icge 210), (159, o_al 0), (160, o_il 3), (161, o_il 4), (163, o_il 6), (165, o_callv 0 4 (P mM_stands)), (168, o_ifeq 192), (171, o_al 0), (172, o_il 1), (173, o_il 5), (175, o_callv 0 3 (P mM_sayAll)), (178, o_il 6), (180, o_al 0), (181, o_il 4), (183, o_callv 0 2 (P mM_length)), (186, o_iadd), (187, o_is 6), (189, o_go 149), (192, o_al 0), (193, o_il 1), (194, o_al 0), (195, o_il 3), (196, o_il 6), (198, o_callv 0 3 (P mM_byteAt)), (201, o_callv 0 3 (P mM_say)), (204, o_inc 6 (1)), (207, o_go 149), (210, o_al 0), (211, o_get 0 rdM10), (214, o_il 1), (215, o_al 0), (216, o_get 0 rdM10), (219, o_il 3), (220, o_ald 1 miL miR), (221, o_ast 1 miL miW), (222, o_ret0)]
set_option maxRecDepth 20000 in
theorem sM_last (E : mEnv) : qm_cok (mK E (rmL 110) prog_10_method_36_code 8 "FunctionRowsModel" (wsT yM_last prog_10_method_36_code 8 none) none) (kM_last (mSd E)) := have hE := mOk E
  ⟨os_il_n (j := 2) (by decide +kernel) rfl, os_bipush (n := 29) (by decide +kernel) (by decide +kernel), os_icne (off := 58) (by decide +kernel) (by decide), os_al_n (j := 0) (by decide +kernel) rfl, os_il_n (j := 3) (by decide +kernel) rfl, os_il (by decide +kernel), os_callv hE (pc := 10) (idx := 141) (ci := 4) (by decide +kernel) rfl mrc (cwT_v cM_same inM mlM_141 imM_same seM_same (by decide +kernel) (by decide)), os_is (by decide +kernel) (by decide), os_al_n (j := 0) (by decide +kernel) rfl, os_il_n (j := 3) (by decide +kernel) rfl, os_il (by decide +kernel), os_callv hE (pc := 19) (idx := 141) (ci := 4) (by decide +kernel) rfl mrc (cwT_v cM_same inM mlM_141 imM_same seM_same (by decide +kernel) (by decide)), os_is (by decide +kernel) (by decide), os_al_n (j := 0) (by decide +kernel) rfl, os_il_n (j := 1) (by decide +kernel) rfl, os_il (by decide +kernel), os_iconst (n := 1) (by decide +kernel) (by decide +kernel), os_iceq (off := 9) (by decide +kernel) (by decide), os_il (by decide +kernel), os_iconst (n := 1) (by decide +kernel) (by decide +kernel), os_icne (off := 7) (by decide +kernel) (by decide), os_iconst (n := 1) (by decide +kernel) (by decide +kernel), os_go (off := 18) (by decide +kernel) (by decide), os_il (by decide +kernel), os_iflt (off := 8) (by decide +kernel) (by decide), os_il (by decide +kernel), os_ifge (off := 7) (by decide +kernel) (by decide), os_iconst (n := -1) (by decide +kernel) (by decide +kernel), os_go (off := 4) (by decide +kernel) (by decide), os_iconst (n := 0) (by decide +kernel) (by decide +kernel), os_callv hE (pc := 57) (idx := 138) (ci := 4) (by decide +kernel) rfl mrc (cwT_v cM_setTruth inM mlM_138 imM_setTruth seM_setTruth (by decide +kernel) (by decide)), os_ret0 hE (by decide +kernel) rfl, os_al_n (j := 0) (by decide +kernel) rfl, os_get (idx := 30) (f := 8) (ci := 4) (C := "FunctionRowsModel") (T := FM) (N := 17) (by decide +kernel) rfl (fun w h => tb_in (fiM w h)) (by decide) (tb_in lkM_30) glM8, os_il_n (j := 3) (by decide +kernel) rfl, os_iald (t0 := 1) (by decide +kernel) rfl mceI, os_iconst (n := 3) (by decide +kernel) (by decide +kernel), os_icne (off := 24) (by decide +kernel) (by decide), os_al_n (j := 0) (by decide +kernel) rfl, os_get (idx := 30) (f := 8) (ci := 4) (C := "FunctionRowsModel") (T := FM) (N := 17) (by decide +kernel) rfl (fun w h => tb_in (fiM w h)) (by decide) (tb_in lkM_30) glM8, os_il (by decide +kernel), os_iald (t0 := 1) (by decide +kernel) rfl mceI, os_iconst (n := 3) (by decide +kernel) (by decide +kernel), os_icne (off := 13) (by decide +kernel) (by decide), os_al_n (j := 0) (by decide +kernel) rfl, os_get (idx := 36) (f := 10) (ci := 4) (C := "FunctionRowsModel") (T := FM) (N := 17) (by decide +kernel) rfl (fun w h => tb_in (fiM w h)) (by decide) (tb_in lkM_36) glM10, os_il (by decide +kernel), os_iald (t0 := 1) (by decide +kernel) rfl mceI, os_ifeq (off := 4) (by decide +kernel) (by decide), os_ret0 hE (by decide +kernel) rfl, os_il_n (j := 2) (by decide +kernel) rfl, os_bipush (n := 27) (by decide +kernel) (by decide +kernel), os_icne (off := 12) (by decide +kernel) (by decide), os_al_n (j := 0) (by decide +kernel) rfl, os_il_n (j := 1) (by decide +kernel) rfl, os_il_n (j := 3) (by decide +kernel) rfl, os_il (by decide +kernel), os_callv hE (pc := 104) (idx := 193) (ci := 4) (by decide +kernel) rfl mrc (cwT_v cM_goes inM mlM_193 imM_goes seM_goes (by decide +kernel) (by decide)), os_ret0 hE (by decide +kernel) rfl, os_al_n (j := 0) (by decide +kernel) rfl, os_get (idx := 30) (f := 8) (ci := 4) (C := "FunctionRowsModel") (T := FM) (N := 17) (by decide +kernel) rfl (fun w h => tb_in (fiM w h)) (by decide) (tb_in lkM_30) glM8, os_il (by decide +kernel), os_iald (t0 := 1) (by decide +kernel) rfl mceI, os_iconst (n := 3) (by decide +kernel) (by decide +kernel), os_icne (off := 22) (by decide +kernel) (by decide), os_al_n (j := 0) (by decide +kernel) rfl, os_get (idx := 36) (f := 10) (ci := 4) (C := "FunctionRowsModel") (T := FM) (N := 17) (by decide +kernel) rfl (fun w h => tb_in (fiM w h)) (by decide) (tb_in lkM_36) glM10, os_il (by decide +kernel), os_iald (t0 := 1) (by decide +kernel) rfl mceI, os_ifne (off := 12) (by decide +kernel) (by decide), os_al_n (j := 0) (by decide +kernel) rfl, os_il (by decide +kernel), os_callv hE (pc := 132) (idx := 100) (ci := 4) (by decide +kernel) rfl mrc (cwT_v cM_length inM mlM_100 imM_length seM_length (by decide +kernel) (by decide)), os_ifne (off := 4) (by decide +kernel) (by decide), os_ret0 hE (by decide +kernel) rfl, os_al_n (j := 0) (by decide +kernel) rfl, os_il_n (j := 1) (by decide +kernel) rfl, os_iconst (n := 3) (by decide +kernel) (by decide +kernel), os_lconst (n := 0) (by decide +kernel) (by decide +kernel), os_callv hE (pc := 143) (idx := 88) (ci := 4) (by decide +kernel) rfl mrc (cwT_v cM_set inM mlM_88 imM_set seM_set (by decide +kernel) (by decide)), os_iconst (n := 0) (by decide +kernel) (by decide +kernel), os_is (by decide +kernel) (by decide), os_il (by decide +kernel), os_al_n (j := 0) (by decide +kernel) rfl, os_il_n (j := 3) (by decide +kernel) rfl, os_callv hE (pc := 153) (idx := 100) (ci := 4) (by decide +kernel) rfl mrc (cwT_v cM_length inM mlM_100 imM_length seM_length (by decide +kernel) (by decide)), os_icge (off := 54) (by decide +kernel) (by decide), os_al_n (j := 0) (by decide +kernel) rfl, os_il_n (j := 3) (by decide +kernel) rfl, os_il (by decide +kernel), os_il (by decide +kernel), os_callv hE (pc := 165) (idx := 107) (ci := 4) (by decide +kernel) rfl mrc (cwT_v cM_stands inM mlM_107 imM_stands seM_stands (by decide +kernel) (by decide)), os_ifeq (off := 24) (by decide +kernel) (by decide), os_al_n (j := 0) (by decide +kernel) rfl, os_il_n (j := 1) (by decide +kernel) rfl, os_il (by decide +kernel), os_callv hE (pc := 175) (idx := 163) (ci := 4) (by decide +kernel) rfl mrc (cwT_v cM_sayAll inM mlM_163 imM_sayAll seM_sayAll (by decide +kernel) (by decide)), os_il (by decide +kernel), os_al_n (j := 0) (by decide +kernel) rfl, os_il (by decide +kernel), os_callv hE (pc := 183) (idx := 100) (ci := 4) (by decide +kernel) rfl mrc (cwT_v cM_length inM mlM_100 imM_length seM_length (by decide +kernel) (by decide)), os_iadd (by decide +kernel), os_is (by decide +kernel) (by decide), os_go (off := -40) (by decide +kernel) (by decide), os_al_n (j := 0) (by decide +kernel) rfl, os_il_n (j := 1) (by decide +kernel) rfl, os_al_n (j := 0) (by decide +kernel) rfl, os_il_n (j := 3) (by decide +kernel) rfl, os_il (by decide +kernel), os_callv hE (pc := 198) (idx := 103) (ci := 4) (by decide +kernel) rfl mrc (cwT_v cM_byteAt inM mlM_103 imM_byteAt seM_byteAt (by decide +kernel) (by decide)), os_callv hE (pc := 201) (idx := 94) (ci := 4) (by decide +kernel) rfl mrc (cwT_v cM_say inM mlM_94 imM_say seM_say (by decide +kernel) (by decide)), os_inc (n := 1) (by decide +kernel) (by decide +kernel) (by decide), os_go (off := -58) (by decide +kernel) (by decide), os_al_n (j := 0) (by decide +kernel) rfl, os_get (idx := 36) (f := 10) (ci := 4) (C := "FunctionRowsModel") (T := FM) (N := 17) (by decide +kernel) rfl (fun w h => tb_in (fiM w h)) (by decide) (tb_in lkM_36) glM10, os_il_n (j := 1) (by decide +kernel) rfl, os_al_n (j := 0) (by decide +kernel) rfl, os_get (idx := 36) (f := 10) (ci := 4) (C := "FunctionRowsModel") (T := FM) (N := 17) (by decide +kernel) rfl (fun w h => tb_in (fiM w h)) (by decide) (tb_in lkM_36) glM10, os_il_n (j := 3) (by decide +kernel) rfl, os_iald (t0 := 1) (by decide +kernel) rfl mceI, os_iast hE (t0 := 1) (by decide +kernel) rfl mceI mwrI mokI, os_ret0 hE (by decide +kernel) rfl⟩
def kM_reckon (P : MethodName × List Cond × Room → List qm_v → mG → Option qm_v → mG → Prop) : List (Nat × qm_op mG) := [(0, o_al 0), (1, o_get 0 rdM8), (4, o_il 1), (5, o_ic (0)), (6, o_ast 1 miL miW), (7, o_al 0), (8, o_get 0 rdM10), (11, o_il 1), (12, o_ic (0)), (13, o_ast 1 miL miW), (14, o_al 0), (15, o_get 0 rdM3), (18, o_il 1), (19, o_ald 1 miL miR), (20, o_ic (5)), (21, o_icne 40), (24, o_al 0), (25, o_ic (80)), (27, o_al 0), (28, o_get 0 rdM4), (31, o_il 1), (32, o_lald 3 mlL mlR), (33, o_l2i), (34, o_iadd), (35, o_il 1), (36, o_callv 0 3 (P mM_copy)), (39, o_ret0), (40, o_al 0), (41, o_get 0 rdM3), (44, o_il 1), (45, o_ald 1 miL miR), (46, o_ic (6)), (48, o_iceq 117), (51, o_al 0), (52, o_il 1), (53, o_al 0), (54, o_get 0 rdM3), (57, o_il 1), (58, o_ald 1 miL miR), (59, o_al 0), (60, o_get 0 rdM4), (63, o_il 1), (64, o_lald 3 mlL mlR), (65, o_callv 0 4 (P mM_set)), (68, o_al 0), (69, o_get 0 rdM10), (72, o_il 1), (73, o_al 0), (74, o_get 0 rdM6), (77, o_il 1), (78, o_ald 1 miL miR), (79, o_ast 1 miL miW), (80, o_ic (0)), (81, o_is 2), (82, o_il 2), (83, o_ic (24)), (85, o_icge 116), (88, o_al 0), (89, o_get 0 rdM11), (92, o_ic (24)), (94, o_il 1), (95, o_imul), (96, o_il 2), (97, o_iadd), (98, o_al 0), (99, o_get 0 rdM7), (102, o_ic (24)), (104, o_il 1), (105, o_imul), (106, o_il 2), (107, o_iadd), (108, o_ald 2 mbL mbR), (109, o_ast 2 mbL mbW), (110, o_inc 2 (1)), (113, o_go 82), (116, o_ret0), (117, o_al 0), (118, o_get 0 rdM4), (121, o_il 1), (122, o_lald 3 mlL mlR), (123, o_l2i), (124, o_is 2), (125, o_al 0), (126, o_get 0 rdM5), (129, o_ic (3)), (130, o_il 1), (131, o_imul), (132, o_ald 1 miL miR), (133, o_is 3), (134, o_al 0), (135, o_get 0 rdM5), (138, o_ic (3)), (139, o_il 1), (140, o_imul), (141, o_ic (1)), (142, o_iadd), (143, o_ald 1 miL miR), (144, o_is 4), (146, o_al 0), (147, o_get 0 rdM5), (150, o_ic (3)), (151, o_il 1), (152, o_imul), (153, o_ic (2)), (154, o_iadd), (155, o_ald 1 miL miR), (156, o_is 5), (158, o_il 2), (159, o_ic (5)), (160, o_icge 175), (163, o_al 0), (164, o_il 1), (165, o_il 2), (166, o_il 3), (167, o_il 4), (169, o_callv 0 5 (P mM_truths)), (172, o_go 340), (175, o_il 2), (176, o_ic (10)), (178, o_icge 224), (181, o_al 0), (182, o_get 0 rdM8), (185, o_il 3), (186, o_ald 1 miL miR), (187, o_ic (2)), (188, o_icne 340), (191, o_al 0), (192, o_get 0 rdM8), (195, o_il 4), (197, o_ald 1 miL miR), (198, o_ic (2)), (199, o_icne 340), (202, o_al 0), (203, o_il 1), (204, o_il 2), (205, o_al 0), (206, o_get 0 rdM9), (209, o_il 3), (210, o_lald 3 mlL mlR), (211, o_al 0), (212, o_get 0 rdM9), (215, o_il 4), (217, o_lald 3 mlL mlR), (218, o_callv 0 5 (P mM_arithmetic)), (221, o_go 340), (224, o_il 2), (225, o_ic (15)), (227, o_icge 244), (230, o_al 0), (231, o_il 1), (232, o_il 2), (233, o_il 3), (234, o_il 4), (236, o_il 5), (238, o_callv 0 6 (P mM_texts)), (241, o_go 340), (244, o_il 2), (245, o_ic (20)), (247, o_icge 309), (250, o_al 0), (251, o_get 0 rdM8), (254, o_il 3), (255, o_ald 1 miL miR), (256, o_ic (3)), (257, o_icne 340), (260, o_al 0), (261, o_get 0 rdM8), (264, o_il 4), (266, o_ald 1 miL miR), (267, o_ic (3)), (268, o_icne 340), (271, o_al 0), (272, o_get 0 rdM10), (275, o_il 4), (277, o_ald 1 miL miR), (278, o_ifeq 297), (281, o_al 0), (282, o_get 0 rdM10), (285, o_il 4), (287, o_ald 1 miL miR), (288, o_al 0), (289, o_get 0 rdM10), (292, o_il 3), (293, o_ald 1 miL miR), (294, o_icne 340), (297, o_al 0), (298, o_il 1), (299, o_il 2), (300, o_il 3), (301, o_il 4), (303, o_callv 0 5 (P mM_places)), (306, o_go 340), (309, o_il 2), (310, o_ic (27)), (312, o_icge 329), (315, o_al 0), (316, o_il 1), (317, o_il 2), (318, o_il 3), (319, o_il 4), (321, o_il 5), (323, o_callv 0 6 (P mM_others)), (326, o_go 340), (329, o_al 0), (330, o_il 1), (331, o_il 2), (332, o_il 3), (333, o_il 4), (335, o_il 5), (337, o_callv 0 6 (P mM_last)), (340, o_ret0)]
set_option maxRecDepth 20000 in
theorem sM_reckon (E : mEnv) : qm_cok (mK E (rmL 111) prog_10_method_28_code 6 "FunctionRowsModel" (wsT yM_reckon prog_10_method_28_code 6 none) none) (kM_reckon (mSd E)) := have hE := mOk E
  ⟨os_al_n (j := 0) (by decide +kernel) rfl, os_get (idx := 30) (f := 8) (ci := 4) (C := "FunctionRowsModel") (T := FM) (N := 17) (by decide +kernel) rfl (fun w h => tb_in (fiM w h)) (by decide) (tb_in lkM_30) glM8, os_il_n (j := 1) (by decide +kernel) rfl, os_iconst (n := 0) (by decide +kernel) (by decide +kernel), os_iast hE (t0 := 1) (by decide +kernel) rfl mceI mwrI mokI, os_al_n (j := 0) (by decide +kernel) rfl, os_get (idx := 36) (f := 10) (ci := 4) (C := "FunctionRowsModel") (T := FM) (N := 17) (by decide +kernel) rfl (fun w h => tb_in (fiM w h)) (by decide) (tb_in lkM_36) glM10, os_il_n (j := 1) (by decide +kernel) rfl, os_iconst (n := 0) (by decide +kernel) (by decide +kernel), os_iast hE (t0 := 1) (by decide +kernel) rfl mceI mwrI mokI, os_al_n (j := 0) (by decide +kernel) rfl, os_get (idx := 13) (f := 3) (ci := 4) (C := "FunctionRowsModel") (T := FM) (N := 17) (by decide +kernel) rfl (fun w h => tb_in (fiM w h)) (by decide) (tb_in lkM_13) glM3, os_il_n (j := 1) (by decide +kernel) rfl, os_iald (t0 := 1) (by decide +kernel) rfl mceI, os_iconst (n := 5) (by decide +kernel) (by decide +kernel), os_icne (off := 19) (by decide +kernel) (by decide), os_al_n (j := 0) (by decide +kernel) rfl, os_bipush (n := 80) (by decide +kernel) (by decide +kernel), os_al_n (j := 0) (by decide +kernel) rfl, os_get (idx := 16) (f := 4) (ci := 4) (C := "FunctionRowsModel") (T := FM) (N := 17) (by decide +kernel) rfl (fun w h => tb_in (fiM w h)) (by decide) (tb_in lkM_16) glM4, os_il_n (j := 1) (by decide +kernel) rfl, os_lald (t0 := 2) (by decide +kernel) rfl mceL, os_l2i (by decide +kernel), os_iadd (by decide +kernel), os_il_n (j := 1) (by decide +kernel) rfl, os_callv hE (pc := 36) (idx := 111) (ci := 4) (by decide +kernel) rfl mrc (cwT_v cM_copy inM mlM_111 imM_copy seM_copy (by decide +kernel) (by decide)), os_ret0 hE (by decide +kernel) rfl, os_al_n (j := 0) (by decide +kernel) rfl, os_get (idx := 13) (f := 3) (ci := 4) (C := "FunctionRowsModel") (T := FM) (N := 17) (by decide +kernel) rfl (fun w h => tb_in (fiM w h)) (by decide) (tb_in lkM_13) glM3, os_il_n (j := 1) (by decide +kernel) rfl, os_iald (t0 := 1) (by decide +kernel) rfl mceI, os_bipush (n := 6) (by decide +kernel) (by decide +kernel), os_iceq (off := 69) (by decide +kernel) (by decide), os_al_n (j := 0) (by decide +kernel) rfl, os_il_n (j := 1) (by decide +kernel) rfl, os_al_n (j := 0) (by decide +kernel) rfl, os_get (idx := 13) (f := 3) (ci := 4) (C := "FunctionRowsModel") (T := FM) (N := 17) (by decide +kernel) rfl (fun w h => tb_in (fiM w h)) (by decide) (tb_in lkM_13) glM3, os_il_n (j := 1) (by decide +kernel) rfl, os_iald (t0 := 1) (by decide +kernel) rfl mceI, os_al_n (j := 0) (by decide +kernel) rfl, os_get (idx := 16) (f := 4) (ci := 4) (C := "FunctionRowsModel") (T := FM) (N := 17) (by decide +kernel) rfl (fun w h => tb_in (fiM w h)) (by decide) (tb_in lkM_16) glM4, os_il_n (j := 1) (by decide +kernel) rfl, os_lald (t0 := 2) (by decide +kernel) rfl mceL, os_callv hE (pc := 65) (idx := 88) (ci := 4) (by decide +kernel) rfl mrc (cwT_v cM_set inM mlM_88 imM_set seM_set (by decide +kernel) (by decide)), os_al_n (j := 0) (by decide +kernel) rfl, os_get (idx := 36) (f := 10) (ci := 4) (C := "FunctionRowsModel") (T := FM) (N := 17) (by decide +kernel) rfl (fun w h => tb_in (fiM w h)) (by decide) (tb_in lkM_36) glM10, os_il_n (j := 1) (by decide +kernel) rfl, os_al_n (j := 0) (by decide +kernel) rfl, os_get (idx := 23) (f := 6) (ci := 4) (C := "FunctionRowsModel") (T := FM) (N := 17) (by decide +kernel) rfl (fun w h => tb_in (fiM w h)) (by decide) (tb_in lkM_23) glM6, os_il_n (j := 1) (by decide +kernel) rfl, os_iald (t0 := 1) (by decide +kernel) rfl mceI, os_iast hE (t0 := 1) (by decide +kernel) rfl mceI mwrI mokI, os_iconst (n := 0) (by decide +kernel) (by decide +kernel), os_is_n (j := 2) (by decide +kernel) rfl (by decide), os_il_n (j := 2) (by decide +kernel) rfl, os_bipush (n := 24) (by decide +kernel) (by decide +kernel), os_icge (off := 31) (by decide +kernel) (by decide), os_al_n (j := 0) (by decide +kernel) rfl, os_get (idx := 39) (f := 11) (ci := 4) (C := "FunctionRowsModel") (T := FM) (N := 17) (by decide +kernel) rfl (fun w h => tb_in (fiM w h)) (by decide) (tb_in lkM_39) glM11, os_bipush (n := 24) (by decide +kernel) (by decide +kernel), os_il_n (j := 1) (by decide +kernel) rfl, os_imul (by decide +kernel), os_il_n (j := 2) (by decide +kernel) rfl, os_iadd (by decide +kernel), os_al_n (j := 0) (by decide +kernel) rfl, os_get (idx := 26) (f := 7) (ci := 4) (C := "FunctionRowsModel") (T := FM) (N := 17) (by decide +kernel) rfl (fun w h => tb_in (fiM w h)) (by decide) (tb_in lkM_26) glM7, os_bipush (n := 24) (by decide +kernel) (by decide +kernel), os_il_n (j := 1) (by decide +kernel) rfl, os_imul (by decide +kernel), os_il_n (j := 2) (by decide +kernel) rfl, os_iadd (by decide +kernel), os_bald (t0 := 0) (by decide +kernel) rfl mceB, os_bast hE (t0 := 0) (by decide +kernel) rfl mceB mwrB mokB, os_inc (n := 1) (by decide +kernel) (by decide +kernel) (by decide), os_go (off := -31) (by decide +kernel) (by decide), os_ret0 hE (by decide +kernel) rfl, os_al_n (j := 0) (by decide +kernel) rfl, os_get (idx := 16) (f := 4) (ci := 4) (C := "FunctionRowsModel") (T := FM) (N := 17) (by decide +kernel) rfl (fun w h => tb_in (fiM w h)) (by decide) (tb_in lkM_16) glM4, os_il_n (j := 1) (by decide +kernel) rfl, os_lald (t0 := 2) (by decide +kernel) rfl mceL, os_l2i (by decide +kernel), os_is_n (j := 2) (by decide +kernel) rfl (by decide), os_al_n (j := 0) (by decide +kernel) rfl, os_get (idx := 20) (f := 5) (ci := 4) (C := "FunctionRowsModel") (T := FM) (N := 17) (by decide +kernel) rfl (fun w h => tb_in (fiM w h)) (by decide) (tb_in lkM_20) glM5, os_iconst (n := 3) (by decide +kernel) (by decide +kernel), os_il_n (j := 1) (by decide +kernel) rfl, os_imul (by decide +kernel), os_iald (t0 := 1) (by decide +kernel) rfl mceI, os_is_n (j := 3) (by decide +kernel) rfl (by decide), os_al_n (j := 0) (by decide +kernel) rfl, os_get (idx := 20) (f := 5) (ci := 4) (C := "FunctionRowsModel") (T := FM) (N := 17) (by decide +kernel) rfl (fun w h => tb_in (fiM w h)) (by decide) (tb_in lkM_20) glM5, os_iconst (n := 3) (by decide +kernel) (by decide +kernel), os_il_n (j := 1) (by decide +kernel) rfl, os_imul (by decide +kernel), os_iconst (n := 1) (by decide +kernel) (by decide +kernel), os_iadd (by decide +kernel), os_iald (t0 := 1) (by decide +kernel) rfl mceI, os_is (by decide +kernel) (by decide), os_al_n (j := 0) (by decide +kernel) rfl, os_get (idx := 20) (f := 5) (ci := 4) (C := "FunctionRowsModel") (T := FM) (N := 17) (by decide +kernel) rfl (fun w h => tb_in (fiM w h)) (by decide) (tb_in lkM_20) glM5, os_iconst (n := 3) (by decide +kernel) (by decide +kernel), os_il_n (j := 1) (by decide +kernel) rfl, os_imul (by decide +kernel), os_iconst (n := 2) (by decide +kernel) (by decide +kernel), os_iadd (by decide +kernel), os_iald (t0 := 1) (by decide +kernel) rfl mceI, os_is (by decide +kernel) (by decide), os_il_n (j := 2) (by decide +kernel) rfl, os_iconst (n := 5) (by decide +kernel) (by decide +kernel), os_icge (off := 15) (by decide +kernel) (by decide), os_al_n (j := 0) (by decide +kernel) rfl, os_il_n (j := 1) (by decide +kernel) rfl, os_il_n (j := 2) (by decide +kernel) rfl, os_il_n (j := 3) (by decide +kernel) rfl, os_il (by decide +kernel), os_callv hE (pc := 169) (idx := 114) (ci := 4) (by decide +kernel) rfl mrc (cwT_v cM_truths inM mlM_114 imM_truths seM_truths (by decide +kernel) (by decide)), os_go (off := 168) (by decide +kernel) (by decide), os_il_n (j := 2) (by decide +kernel) rfl, os_bipush (n := 10) (by decide +kernel) (by decide +kernel), os_icge (off := 46) (by decide +kernel) (by decide), os_al_n (j := 0) (by decide +kernel) rfl, os_get (idx := 30) (f := 8) (ci := 4) (C := "FunctionRowsModel") (T := FM) (N := 17) (by decide +kernel) rfl (fun w h => tb_in (fiM w h)) (by decide) (tb_in lkM_30) glM8, os_il_n (j := 3) (by decide +kernel) rfl, os_iald (t0 := 1) (by decide +kernel) rfl mceI, os_iconst (n := 2) (by decide +kernel) (by decide +kernel), os_icne (off := 152) (by decide +kernel) (by decide), os_al_n (j := 0) (by decide +kernel) rfl, os_get (idx := 30) (f := 8) (ci := 4) (C := "FunctionRowsModel") (T := FM) (N := 17) (by decide +kernel) rfl (fun w h => tb_in (fiM w h)) (by decide) (tb_in lkM_30) glM8, os_il (by decide +kernel), os_iald (t0 := 1) (by decide +kernel) rfl mceI, os_iconst (n := 2) (by decide +kernel) (by decide +kernel), os_icne (off := 141) (by decide +kernel) (by decide), os_al_n (j := 0) (by decide +kernel) rfl, os_il_n (j := 1) (by decide +kernel) rfl, os_il_n (j := 2) (by decide +kernel) rfl, os_al_n (j := 0) (by decide +kernel) rfl, os_get (idx := 33) (f := 9) (ci := 4) (C := "FunctionRowsModel") (T := FM) (N := 17) (by decide +kernel) rfl (fun w h => tb_in (fiM w h)) (by decide) (tb_in lkM_33) glM9, os_il_n (j := 3) (by decide +kernel) rfl, os_lald (t0 := 2) (by decide +kernel) rfl mceL, os_al_n (j := 0) (by decide +kernel) rfl, os_get (idx := 33) (f := 9) (ci := 4) (C := "FunctionRowsModel") (T := FM) (N := 17) (by decide +kernel) rfl (fun w h => tb_in (fiM w h)) (by decide) (tb_in lkM_33) glM9, os_il (by decide +kernel), os_lald (t0 := 2) (by decide +kernel) rfl mceL, os_callv hE (pc := 218) (idx := 118) (ci := 4) (by decide +kernel) rfl mrc (cwT_v cM_arithmetic inM mlM_118 imM_arithmetic seM_arithmetic (by decide +kernel) (by decide)), os_go (off := 119) (by decide +kernel) (by decide), os_il_n (j := 2) (by decide +kernel) rfl, os_bipush (n := 15) (by decide +kernel) (by decide +kernel), os_icge (off := 17) (by decide +kernel) (by decide), os_al_n (j := 0) (by decide +kernel) rfl, os_il_n (j := 1) (by decide +kernel) rfl, os_il_n (j := 2) (by decide +kernel) rfl, os_il_n (j := 3) (by decide +kernel) rfl, os_il (by decide +kernel), os_il (by decide +kernel), os_callv hE (pc := 238) (idx := 122) (ci := 4) (by decide +kernel) rfl mrc (cwT_v cM_texts inM mlM_122 imM_texts seM_texts (by decide +kernel) (by decide)), os_go (off := 99) (by decide +kernel) (by decide), os_il_n (j := 2) (by decide +kernel) rfl, os_bipush (n := 20) (by decide +kernel) (by decide +kernel), os_icge (off := 62) (by decide +kernel) (by decide), os_al_n (j := 0) (by decide +kernel) rfl, os_get (idx := 30) (f := 8) (ci := 4) (C := "FunctionRowsModel") (T := FM) (N := 17) (by decide +kernel) rfl (fun w h => tb_in (fiM w h)) (by decide) (tb_in lkM_30) glM8, os_il_n (j := 3) (by decide +kernel) rfl, os_iald (t0 := 1) (by decide +kernel) rfl mceI, os_iconst (n := 3) (by decide +kernel) (by decide +kernel), os_icne (off := 83) (by decide +kernel) (by decide), os_al_n (j := 0) (by decide +kernel) rfl, os_get (idx := 30) (f := 8) (ci := 4) (C := "FunctionRowsModel") (T := FM) (N := 17) (by decide +kernel) rfl (fun w h => tb_in (fiM w h)) (by decide) (tb_in lkM_30) glM8, os_il (by decide +kernel), os_iald (t0 := 1) (by decide +kernel) rfl mceI, os_iconst (n := 3) (by decide +kernel) (by decide +kernel), os_icne (off := 72) (by decide +kernel) (by decide), os_al_n (j := 0) (by decide +kernel) rfl, os_get (idx := 36) (f := 10) (ci := 4) (C := "FunctionRowsModel") (T := FM) (N := 17) (by decide +kernel) rfl (fun w h => tb_in (fiM w h)) (by decide) (tb_in lkM_36) glM10, os_il (by decide +kernel), os_iald (t0 := 1) (by decide +kernel) rfl mceI, os_ifeq (off := 19) (by decide +kernel) (by decide), os_al_n (j := 0) (by decide +kernel) rfl, os_get (idx := 36) (f := 10) (ci := 4) (C := "FunctionRowsModel") (T := FM) (N := 17) (by decide +kernel) rfl (fun w h => tb_in (fiM w h)) (by decide) (tb_in lkM_36) glM10, os_il (by decide +kernel), os_iald (t0 := 1) (by decide +kernel) rfl mceI, os_al_n (j := 0) (by decide +kernel) rfl, os_get (idx := 36) (f := 10) (ci := 4) (C := "FunctionRowsModel") (T := FM) (N := 17) (by decide +kernel) rfl (fun w h => tb_in (fiM w h)) (by decide) (tb_in lkM_36) glM10, os_il_n (j := 3) (by decide +kernel) rfl, os_iald (t0 := 1) (by decide +kernel) rfl mceI, os_icne (off := 46) (by decide +kernel) (by decide), os_al_n (j := 0) (by decide +kernel) rfl, os_il_n (j := 1) (by decide +kernel) rfl, os_il_n (j := 2) (by decide +kernel) rfl, os_il_n (j := 3) (by decide +kernel) rfl, os_il (by decide +kernel), os_callv hE (pc := 303) (idx := 126) (ci := 4) (by decide +kernel) rfl mrc (cwT_v cM_places inM mlM_126 imM_places seM_places (by decide +kernel) (by decide)), os_go (off := 34) (by decide +kernel) (by decide), os_il_n (j := 2) (by decide +kernel) rfl, os_bipush (n := 27) (by decide +kernel) (by decide +kernel), os_icge (off := 17) (by decide +kernel) (by decide), os_al_n (j := 0) (by decide +kernel) rfl, os_il_n (j := 1) (by decide +kernel) rfl, os_il_n (j := 2) (by decide +kernel) rfl, os_il_n (j := 3) (by decide +kernel) rfl, os_il (by decide +kernel), os_il (by decide +kernel), os_callv hE (pc := 323) (idx := 129) (ci := 4) (by decide +kernel) rfl mrc (cwT_v cM_others inM mlM_129 imM_others seM_others (by decide +kernel) (by decide)), os_go (off := 14) (by decide +kernel) (by decide), os_al_n (j := 0) (by decide +kernel) rfl, os_il_n (j := 1) (by decide +kernel) rfl, os_il_n (j := 2) (by decide +kernel) rfl, os_il_n (j := 3) (by decide +kernel) rfl, os_il (by decide +kernel), os_il (by decide +kernel), os_callv hE (pc := 337) (idx := 132) (ci := 4) (by decide +kernel) rfl mrc (cwT_v cM_last inM mlM_132 imM_last seM_last (by decide +kernel) (by decide)), os_ret0 hE (by decide +kernel) rfl⟩
def kM_run (P : MethodName × List Cond × Room → List qm_v → mG → Option qm_v → mG → Prop) : List (Nat × qm_op mG) := [(0, o_al 0), (1, o_il 1), (2, o_callv 0 2 (P mM_isExpression)), (5, o_ifne 10), (8, o_ic (-1)), (9, o_reti), (10, o_ic (0)), (11, o_is 2), (12, o_il 2), (13, o_il 1), (14, o_icgt 28), (17, o_al 0), (18, o_il 2), (19, o_callv 0 2 (P mM_reckon)), (22, o_inc 2 (1)), (25, o_go 12), (28, o_al 0), (29, o_il 1), (30, o_ic (88)), (32, o_callv 0 3 (P mM_copy)), (35, o_al 0), (36, o_get 0 rdM8), (39, o_ic (88)), (41, o_ald 1 miL miR), (42, o_reti)]
set_option maxRecDepth 20000 in
theorem sM_run (E : mEnv) : qm_cok (mK E (rmL 112) prog_10_method_46_code 3 "FunctionRowsModel" (wsT yM_run prog_10_method_46_code 3 (some .int)) (some .int)) (kM_run (mSd E)) := have hE := mOk E
  ⟨os_al_n (j := 0) (by decide +kernel) rfl, os_il_n (j := 1) (by decide +kernel) rfl, os_callv hE (pc := 2) (idx := 84) (ci := 4) (by decide +kernel) rfl mrc (cwT_v cM_isExpression inM mlM_84 imM_isExpression seM_isExpression (by decide +kernel) (by decide)), os_ifne (off := 5) (by decide +kernel) (by decide), os_iconst (n := -1) (by decide +kernel) (by decide +kernel), os_reti hE (by decide +kernel) rfl, os_iconst (n := 0) (by decide +kernel) (by decide +kernel), os_is_n (j := 2) (by decide +kernel) rfl (by decide), os_il_n (j := 2) (by decide +kernel) rfl, os_il_n (j := 1) (by decide +kernel) rfl, os_icgt (off := 14) (by decide +kernel) (by decide), os_al_n (j := 0) (by decide +kernel) rfl, os_il_n (j := 2) (by decide +kernel) rfl, os_callv hE (pc := 19) (idx := 237) (ci := 4) (by decide +kernel) rfl mrc (cwT_v cM_reckon inM mlM_237 imM_reckon seM_reckon (by decide +kernel) (by decide)), os_inc (n := 1) (by decide +kernel) (by decide +kernel) (by decide), os_go (off := -13) (by decide +kernel) (by decide), os_al_n (j := 0) (by decide +kernel) rfl, os_il_n (j := 1) (by decide +kernel) rfl, os_bipush (n := 88) (by decide +kernel) (by decide +kernel), os_callv hE (pc := 32) (idx := 111) (ci := 4) (by decide +kernel) rfl mrc (cwT_v cM_copy inM mlM_111 imM_copy seM_copy (by decide +kernel) (by decide)), os_al_n (j := 0) (by decide +kernel) rfl, os_get (idx := 30) (f := 8) (ci := 4) (C := "FunctionRowsModel") (T := FM) (N := 17) (by decide +kernel) rfl (fun w h => tb_in (fiM w h)) (by decide) (tb_in lkM_30) glM8, os_bipush (n := 88) (by decide +kernel) (by decide +kernel), os_iald (t0 := 1) (by decide +kernel) rfl mceI, os_reti hE (by decide +kernel) rfl⟩
end
section
/-! THE CLASS'S VALUES: contracts of Value's methods -/
def uV (g : cG) (i : Nat) (x : cVR) : cG := (va_up g.1 i x, g.2)
def uB (g : cG) (i : Nat) (f : Nat → Int32) : cG := (g.1, va_up g.2.1 i f, g.2.2)
theorem uV_at (g : cG) (i : Nat) (x : cVR) : (uV g i x).1 i = x := va_up_self _ _ _
theorem uV_ne (g : cG) {i j : Nat} (x : cVR) (h : j ≠ i) : (uV g i x).1 j = g.1 j := va_up_ne _ _ h
theorem uV_B (g : cG) (i : Nat) (x : cVR) : (uV g i x).2.1 = g.2.1 := rfl
theorem uV_r (g : cG) (i : Nat) (x : cVR) : (uV g i x).2.2 = g.2.2 := rfl
theorem uV_uV (g : cG) (i : Nat) (x y : cVR) : uV (uV g i x) i y = uV g i y := by unfold uV; rw [bx_uu]
theorem uV_id (g : cG) (i : Nat) : uV g i (g.1 i) = g := by
  unfold uV
  have : va_up g.1 i (g.1 i) = g.1 := by
    funext j
    by_cases h : j = i
    · rw [h, va_up_self]
    · rw [va_up_ne _ _ h]
  rw [this]
theorem uB_at (g : cG) (i : Nat) (f : Nat → Int32) : (uB g i f).2.1 i = f := va_up_self _ _ _
theorem uB_ne (g : cG) {i j : Nat} (f : Nat → Int32) (h : j ≠ i) : (uB g i f).2.1 j = g.2.1 j := va_up_ne _ _ h
theorem uB_V (g : cG) (i : Nat) (f : Nat → Int32) : (uB g i f).1 = g.1 := rfl
theorem uB_r (g : cG) (i : Nat) (f : Nat → Int32) : (uB g i f).2.2 = g.2.2 := rfl
theorem uB_uB (g : cG) (i : Nat) (f h : Nat → Int32) : uB (uB g i f) i h = uB g i h := by unfold uB; rw [bx_uu]
theorem uB_uV (g : cG) (i j : Nat) (x : cVR) (f : Nat → Int32) : uB (uV g i x) j f = uV (uB g j f) i x := rfl
theorem uB_id (g : cG) (i : Nat) : uB g i (g.2.1 i) = g := by
  unfold uB
  have : va_up g.2.1 i (g.2.1 i) = g.2.1 := by
    funext j
    by_cases h : j = i
    · rw [h, va_up_self]
    · rw [va_up_ne _ _ h]
  rw [this]
/-- value and bytes together -/
def uVB (g : cG) (i : Nat) (x : cVR) (f : Nat → Int32) : cG := uV (uB g i f) i x
theorem xV_setError {E : cEnv} (hE : cOk E) (g : cG) (i : Nat) : cSd E mV_setError [qR 1 i] g none (uV g i (0, (g.1 i).2)) := by
  refine qm_meth hE (by decide) rfl rfl (Nat.le_of_ble_eq_true rfl) ?_
  intro p e s m args below meth c Q C _ _
  exact qm_step (sV_setError hE) C 0 9999 100 ([], [], []) ⟨rfl, rfl⟩
theorem xV_setTruth {E : cEnv} (hE : cOk E) (g : cG) (i : Nat) (t : Int32) : cSd E mV_setTruth [qR 1 i, qI t] g none (uV g i (if t = -1 then 0 else 1, t.toInt64, (g.1 i).2.2)) := by
  refine qm_meth hE (by decide) rfl rfl (Nat.le_of_ble_eq_true rfl) ?_
  intro p e s m args below meth c Q C _ _
  by_cases h : t = -1
  · have e1 : uV (uV g i (0, (g.1 i).2)) i (((uV g i (0, (g.1 i).2)).1 i).1, t.toInt64, ((uV g i (0, (g.1 i).2)).1 i).2.2) = uV g i (if t = -1 then 0 else 1, t.toInt64, (g.1 i).2.2) := by rw [uV_uV, uV_at, if_pos h]
    exact qm_step (sV_setTruth hE) C 0 9999 100 ([0], [], []) ⟨h, rfl, e1⟩
  · have e1 : uV (uV g i (1, (g.1 i).2)) i (((uV g i (1, (g.1 i).2)).1 i).1, t.toInt64, ((uV g i (1, (g.1 i).2)).1 i).2.2) = uV g i (if t = -1 then 0 else 1, t.toInt64, (g.1 i).2.2) := by rw [uV_uV, uV_at, if_neg h]
    exact qm_step (sV_setTruth hE) C 0 9999 100 ([1], [], []) ⟨h, rfl, e1⟩
def isW (v : Int64) : Prop := ¬ v < -1000000000000000 ∧ ¬ 1000000000000000 < v
theorem xR_isWhole {E : cEnv} (hE : cOk E) (g : cG) (v : Int64) : (isW v → cSd E mR_isWhole [qL v] g (some (qI 1)) g) ∧ (¬ isW v → cSd E mR_isWhole [qL v] g (some (qI 0)) g) := by
  constructor
  · intro h
    refine qm_meth hE (by decide) rfl rfl (Nat.le_of_ble_eq_true rfl) ?_
    intro p e s m args below meth c Q C _ _
    exact qm_step (sR_isWhole hE) C 0 9999 100 ([0, 0], [], []) ⟨h.1, h.2, Or.inr rfl, rfl, rfl⟩
  · intro h
    refine qm_meth hE (by decide) rfl rfl (Nat.le_of_ble_eq_true rfl) ?_
    intro p e s m args below meth c Q C _ _
    by_cases h1 : v < -1000000000000000
    · exact qm_step (sR_isWhole hE) C 0 9999 100 ([1], [], []) ⟨h1, Or.inl rfl, rfl, rfl⟩
    · have h2 : 1000000000000000 < v := Classical.not_not.mp fun q => h ⟨h1, q⟩
      exact qm_step (sR_isWhole hE) C 0 9999 100 ([0, 1], [], []) ⟨h1, h2, Or.inl rfl, rfl, rfl⟩
theorem xV_setWhole {E : cEnv} (hE : cOk E) (hX : qm_Nx E) (g : cG) (i : Nat) (v : Int64) : (isW v → cSd E mV_setWhole [qR 1 i, qL v] g none (uV g i (2, v, (g.1 i).2.2))) ∧ (¬ isW v → cSd E mV_setWhole [qR 1 i, qL v] g none (uV g i (0, v, (g.1 i).2.2))) := by
  constructor
  · intro h
    refine qm_meth hE (by decide) rfl rfl (Nat.le_of_ble_eq_true rfl) ?_
    intro p e s m args below meth c Q C _ _
    have e1 : uV (uV g i (2, (g.1 i).2)) i (((uV g i (2, (g.1 i).2)).1 i).1, v, ((uV g i (2, (g.1 i).2)).1 i).2.2) = uV g i (2, v, (g.1 i).2.2) := by rw [uV_uV, uV_at]
    exact qm_step (sV_setWhole hE hX) C 0 9999 100 ([0], [], [(some (qI 1), g)]) ⟨(xR_isWhole hE g v).1 h, by decide, rfl, e1⟩
  · intro h
    refine qm_meth hE (by decide) rfl rfl (Nat.le_of_ble_eq_true rfl) ?_
    intro p e s m args below meth c Q C _ _
    have e1 : uV (uV g i (0, (g.1 i).2)) i (((uV g i (0, (g.1 i).2)).1 i).1, v, ((uV g i (0, (g.1 i).2)).1 i).2.2) = uV g i (0, v, (g.1 i).2.2) := by rw [uV_uV, uV_at]
    exact qm_step (sV_setWhole hE hX) C 0 9999 100 ([1], [], [(some (qI 0), g)]) ⟨(xR_isWhole hE g v).2 h, rfl, rfl, e1⟩
theorem xV_setNode {E : cEnv} (hE : cOk E) (g : cG) (i : Nat) (v : Int32) : cSd E mV_setNode [qR 1 i, qI v] g none (uV g i (4, v.toInt64, (g.1 i).2.2)) := by
  refine qm_meth hE (by decide) rfl rfl (Nat.le_of_ble_eq_true rfl) ?_
  intro p e s m args below meth c Q C _ _
  have e1 : uV (uV g i (4, (g.1 i).2)) i (((uV g i (4, (g.1 i).2)).1 i).1, v.toInt64, ((uV g i (4, (g.1 i).2)).1 i).2.2) = uV g i (4, v.toInt64, (g.1 i).2.2) := by rw [uV_uV, uV_at]
  exact qm_step (sV_setNode hE) C 0 9999 100 ([], [], []) ⟨rfl, e1⟩
theorem xV_startText {E : cEnv} (hE : cOk E) (g : cG) (i : Nat) (t : Int32) : cSd E mV_startText [qR 1 i, qI t] g none (uV g i (3, (g.1 i).2.1, t, 0)) := by
  refine qm_meth hE (by decide) rfl rfl (Nat.le_of_ble_eq_true rfl) ?_
  intro p e s m args below meth c Q C _ _
  have e1 : uV (uV (uV g i (3, (g.1 i).2)) i (3, (g.1 i).2.1, t, (g.1 i).2.2.2)) i (3, (g.1 i).2.1, t, 0) = uV g i (3, (g.1 i).2.1, t, 0) := by rw [uV_uV, uV_uV]
  have e2 : uV (uV g i (3, (g.1 i).2)) i (((uV g i (3, (g.1 i).2)).1 i).1, ((uV g i (3, (g.1 i).2)).1 i).2.1, t, ((uV g i (3, (g.1 i).2)).1 i).2.2.2) = uV (uV g i (3, (g.1 i).2)) i (3, (g.1 i).2.1, t, (g.1 i).2.2.2) := by rw [uV_at]
  generalize hz : uV (uV g i (3, (g.1 i).2)) i (3, (g.1 i).2.1, t, (g.1 i).2.2.2) = z at e1 e2
  have e3 : z.1 i = (3, (g.1 i).2.1, t, (g.1 i).2.2.2) := by rw [← hz, uV_at]
  have e4 : uV z i ((z.1 i).1, (z.1 i).2.1, (z.1 i).2.2.1, 0) = uV g i (3, (g.1 i).2.1, t, 0) := by rw [e3]; exact e1
  rw [← e2] at e4
  exact qm_step (sV_startText hE) C 0 9999 100 ([], [], []) ⟨rfl, e4⟩
theorem xV_append_no {E : cEnv} (hE : cOk E) (g : cG) (i : Nat) (b : Int32) (h : ¬ (g.1 i).1 = 3) : cSd E mV_append [qR 1 i, qI b] g none g := by
  refine qm_meth hE (by decide) rfl rfl (Nat.le_of_ble_eq_true rfl) ?_
  intro p e s m args below meth c Q C _ _
  exact qm_step (sV_append hE) C 0 9999 100 ([0], [], []) ⟨h, rfl, rfl⟩
theorem xV_append_full {E : cEnv} (hE : cOk E) (g : cG) (i : Nat) (b : Int32) (h : (g.1 i).1 = 3) (h2 : ¬ (g.1 i).2.2.2 < 24) : cSd E mV_append [qR 1 i, qI b] g none (uV g i (0, (g.1 i).2)) := by
  refine qm_meth hE (by decide) rfl rfl (Nat.le_of_ble_eq_true rfl) ?_
  intro p e s m args below meth c Q C _ _
  exact qm_step (sV_append hE) C 0 9999 100 ([1, 0], [], []) ⟨h, h2, rfl, rfl⟩
theorem xV_append_yes {E : cEnv} (hE : cOk E) (g : cG) (i : Nat) (b : Int32) (n : Nat) (hn : n < 24) (h : (g.1 i).1 = 3) (h2 : (g.1 i).2.2.2 = nI n) : cSd E mV_append [qR 1 i, qI b] g none (uVB g i (3, (g.1 i).2.1, (g.1 i).2.2.1, nI (n + 1)) (upd (g.2.1 i) n b.toInt8.toInt32)) := by
  refine qm_meth hE (by decide) rfl rfl (Nat.le_of_ble_eq_true rfl) ?_
  intro p e s m args below meth c Q C _ _
  have hlt : (g.1 i).2.2.2 < 24 := by rw [h2]; exact nI_lt hn (by decide)
  have hin : vp_in (g.1 i).2.2.2 24 := by rw [h2]; exact vp_in_nI hn (by decide)
  have hb : b.toInt8.toInt32.toInt8.toInt32 = b.toInt8.toInt32 := pk_vb b
  have e1 : uV (uB g i (upd (g.2.1 i) (g.1 i).2.2.2.toNatClampNeg b.toInt8.toInt32.toInt8.toInt32)) i ((g.1 i).1, (g.1 i).2.1, (g.1 i).2.2.1, (g.1 i).2.2.2 + 1) = uVB g i (3, (g.1 i).2.1, (g.1 i).2.2.1, nI (n + 1)) (upd (g.2.1 i) n b.toInt8.toInt32) := by
    rw [hb, h2, nI_clamp (by omega), nI_1, h]; rfl
  exact qm_step (sV_append hE) C 0 9999 100 ([1, 1], [], []) ⟨h, hlt, hin, rfl, e1⟩
theorem xV_at_no {E : cEnv} (hE : cOk E) (g : cG) (i : Nat) (k : Int32) (h : k < 0 ∨ (g.1 i).2.2.2 ≤ k) : cSd E mV_at [qR 1 i, qI k] g (some (qI 0)) g := by
  refine qm_meth hE (by decide) rfl rfl (Nat.le_of_ble_eq_true rfl) ?_
  intro p e s m args below meth c Q C _ _
  by_cases h1 : k < 0
  · exact qm_step (sV_at hE) C 0 9999 100 ([1], [], []) ⟨h1, rfl, rfl⟩
  · exact qm_step (sV_at hE) C 0 9999 100 ([0, 1], [], []) ⟨h1, h.resolve_left h1, rfl, rfl⟩
theorem xV_at_yes {E : cEnv} (hE : cOk E) (g : cG) (i k n : Nat) (hk : k < n) (hn : n ≤ 24) (h2 : (g.1 i).2.2.2 = nI n) : cSd E mV_at [qR 1 i, qI (nI k)] g (some (qI (g.2.1 i k))) g := by
  refine qm_meth hE (by decide) rfl rfl (Nat.le_of_ble_eq_true rfl) ?_
  intro p e s m args below meth c Q C _ _
  have h1 : ¬ nI k < 0 := nI_pos (by omega)
  have h3 : ¬ (g.1 i).2.2.2 ≤ nI k := by rw [h2]; exact nI_ge hk (by omega)
  have h4 : ¬ (24 : Int32) ≤ nI k := nI_ge (b := 24) (by omega) (by decide)
  have h5 : vp_in (nI k) 24 := vp_in_nI (by omega) (by decide)
  have e1 : (some (qI (g.2.1 i (nI k).toNatClampNeg)) : Option qm_v) = some (qI (g.2.1 i k)) := by rw [nI_clamp (by omega)]
  exact qm_step (sV_at hE) C 0 9999 100 ([0, 0, 0], [], []) ⟨h1, h3, h4, h5, e1, rfl⟩
end
section
/-! Value's methods with loops: append, part by part -/
/-- the value's length is a small number, if it is a TEXT -/
def okT (g : cG) (i : Nat) : Prop := (g.1 i).1 = 3 → ∃ n : Nat, n ≤ 24 ∧ (g.1 i).2.2.2 = nI n
def apS (g : cG) (i : Nat) (c : Int32) : cG := if (g.1 i).1 = 3 then (if (g.1 i).2.2.2 < 24 then uVB g i (3, (g.1 i).2.1, (g.1 i).2.2.1, (g.1 i).2.2.2 + 1) (upd (g.2.1 i) (g.1 i).2.2.2.toNatClampNeg c.toInt8.toInt32) else uV g i (0, (g.1 i).2)) else g
theorem apS_V (g : cG) (i : Nat) (c : Int32) {j : Nat} (h : j ≠ i) : (apS g i c).1 j = g.1 j := by
  unfold apS
  split
  · split
    · exact uV_ne _ _ h
    · exact uV_ne _ _ h
  · rfl
theorem apS_B (g : cG) (i : Nat) (c : Int32) {j : Nat} (h : j ≠ i) : (apS g i c).2.1 j = g.2.1 j := by
  unfold apS
  split
  · split
    · exact uB_ne _ _ h
    · rfl
  · rfl
theorem apS_r (g : cG) (i : Nat) (c : Int32) : (apS g i c).2.2 = g.2.2 := by
  unfold apS
  split
  · split <;> rfl
  · rfl
theorem apS_ok {g : cG} {i : Nat} (h : okT g i) (c : Int32) : okT (apS g i c) i := by
  unfold apS
  split
  · rename_i h3
    split
    · rename_i h4
      intro _
      obtain ⟨n, hn, he⟩ := h h3
      have hn2 : n < 24 := by
        rcases Nat.lt_or_ge n 24 with q | q
        · exact q
        · rw [he] at h4; exact absurd h4 (nI_nlt (b := 24) q (by omega))
      exact ⟨n + 1, hn2, by show ((uV (uB g i _) i _).1 i).2.2.2 = _; rw [uV_at, he, nI_1]⟩
    · intro h5
      rw [uV_at] at h5
      exact absurd (show (0 : Int32) = 3 from h5) (by decide)
  · exact h
theorem xV_append {E : cEnv} (hE : cOk E) (g : cG) (i : Nat) (c : Int32) (h : okT g i) : cSd E mV_append [qR 1 i, qI c] g none (apS g i c) := by
  unfold apS
  split
  · rename_i h3
    obtain ⟨n, hn, he⟩ := h h3
    split
    · rename_i h4
      have hn2 : n < 24 := by
        rcases Nat.lt_or_ge n 24 with q | q
        · exact q
        · rw [he] at h4; exact absurd h4 (nI_nlt (b := 24) q (by omega))
      have := xV_append_yes hE g i c n hn2 h3 he
      rw [he, nI_1, nI_clamp (by omega)]
      exact this
    · rename_i h4
      exact xV_append_full hE g i c h3 h4
  · rename_i h3
    exact xV_append_no hE g i c h3
def apN (g : cG) (i : Nat) (l : List Int32) : cG := l.foldl (fun g c => apS g i c) g
theorem apN_V (i : Nat) {j : Nat} (h : j ≠ i) : ∀ (l : List Int32) (g : cG), (apN g i l).1 j = g.1 j
  | [], _ => rfl
  | c :: l, g => (apN_V i h l (apS g i c)).trans (apS_V g i c h)
theorem apN_B (i : Nat) {j : Nat} (h : j ≠ i) : ∀ (l : List Int32) (g : cG), (apN g i l).2.1 j = g.2.1 j
  | [], _ => rfl
  | c :: l, g => (apN_B i h l (apS g i c)).trans (apS_B g i c h)
theorem apN_r (i : Nat) : ∀ (l : List Int32) (g : cG), (apN g i l).2.2 = g.2.2
  | [], _ => rfl
  | c :: l, g => (apN_r i l (apS g i c)).trans (apS_r g i c)
theorem apN_ok {i : Nat} : ∀ (l : List Int32) {g : cG}, okT g i → okT (apN g i l) i
  | [], _, h => h
  | c :: l, _, h => apN_ok l (apS_ok h c)
/-- the bytes s .. s + m - 1 of value j -/
def bsl (g : cG) (j s m : Nat) : List Int32 := (List.range' s m).map (g.2.1 j)
theorem xV_appendPart {E : cEnv} (hE : cOk E) (g : cG) (i j s m n : Nat) (hij : j ≠ i) (h : okT g i) (hn : n ≤ 24) (hj : (g.1 j).2.2.2 = nI n) (hs : s + m ≤ n) : cSd E mV_appendPart [qR 1 i, qR 1 j, qI (nI s), qI (nI (s + m))] g none (apN g i (bsl g j s m)) := by
  refine qm_meth hE (by decide) rfl rfl (Nat.le_of_ble_eq_true rfl) ?_
  intro p e st mm args below meth c Q C _ _
  have loop : ∀ (k a : Nat) (z w : Int32) (g1 : cG), a + k = s + m → z = nI (s + m) → w = nI a → okT g1 i → (g1.1 j).2.2.2 = nI n → g1.2.1 j = g.2.1 j → apN g1 i (bsl g j a k) = apN g i (bsl g j s m) → qm_W (cLa E.2.2.2.1) cV (cHold E) (cA E.2.2.2.1) 6 p E.1 e (rmL 2) st mm args below meth c Q 17 ([some (qR 1 i), some (qR 1 j), some (qI (nI s)), some (qI (nI (s + m))), some (qI z), some (qI w)], [], g1) := by
    intro k
    induction k with
    | zero =>
      intro a z w g1 ha hz hw _ _ _ hf
      subst hz hw
      have hc : nI (s + m) ≤ nI a := nI_le (by omega) (by omega)
      exact qm_step (sV_appendPart hE) C 17 9999 100 ([1], [], []) ⟨hc, rfl, hf⟩
    | succ k ih =>
      intro a z w g1 ha hz hw hk hj1 hb hf
      subst hz hw
      have hc : ¬ nI (s + m) ≤ nI a := nI_ge (by omega) (by omega)
      have hat := xV_at_yes hE g1 j a n (by omega) hn hj1
      have hap := xV_append hE g1 i (g1.2.1 j a) hk
      refine qm_step (sV_appendPart hE) C 17 17 100 ([0], [], [(some (qI (g1.2.1 j a)), g1), (none, apS g1 i (g1.2.1 j a))]) ⟨hc, hat, hap, ?_⟩
      refine ih (a + 1) _ _ _ (by omega) rfl (by rw [nI_1]) (apS_ok hk _) (by rw [apS_V _ _ _ hij]; exact hj1) (by rw [apS_B _ _ _ hij]; exact hb) ?_
      rw [← hf, hb]
      rfl
  have hmin : (if (g.1 j).2.2.2 < nI (s + m) then (g.1 j).2.2.2 else nI (s + m)) = nI (s + m) := by
    rw [hj, if_neg (nI_nlt hs (by omega))]
  have hmax : (if nI s < 0 then 0 else nI s) = nI s := if_neg (nI_pos (by omega))
  exact qm_step (sV_appendPart hE) C 0 17 100 ([], [], []) (loop m s _ _ g rfl hmin hmax h hj rfl rfl)
end
section
/-! Value: copy, hasAt, find -/
/-- value i becomes value j's copy (of length n, if it is a TEXT) -/
def cpS (g : cG) (i j n : Nat) : cG := if (g.1 j).1 = 3 then apN (uV g i (3, (g.1 j).2.1, (g.1 j).2.2.1, 0)) i (bsl g j 0 n) else uV g i ((g.1 j).1, (g.1 j).2.1, (g.1 j).2.2.1, 0)
theorem xV_copy {E : cEnv} (hE : cOk E) (g : cG) (i j n : Nat) (hij : j ≠ i) (hn : n ≤ 24) (hj : (g.1 j).1 = 3 → (g.1 j).2.2.2 = nI n) : cSd E mV_copy [qR 1 i, qR 1 j] g none (cpS g i j n) := by
  refine qm_meth hE (by decide) rfl rfl (Nat.le_of_ble_eq_true rfl) ?_
  intro p e st mm args below meth c Q C _ _
  have hg : ∀ x y z w : cVR, uV (uV (uV (uV g i x) i y) i z) i w = uV g i w := fun x y z w => by rw [uV_uV, uV_uV, uV_uV]
  have e0 : (uV g i ((g.1 j).1, (g.1 i).2)).1 j = g.1 j := uV_ne _ _ hij
  have e1 : uV (uV g i ((g.1 j).1, (g.1 i).2)) i (((uV g i ((g.1 j).1, (g.1 i).2)).1 i).1, ((uV g i ((g.1 j).1, (g.1 i).2)).1 j).2.1, ((uV g i ((g.1 j).1, (g.1 i).2)).1 i).2.2) = uV g i ((g.1 j).1, (g.1 j).2.1, (g.1 i).2.2) := by rw [uV_uV, uV_at, e0]
  have e2 : ∀ z : cG, z = uV g i ((g.1 j).1, (g.1 j).2.1, (g.1 i).2.2) → uV z i ((z.1 i).1, (z.1 i).2.1, (z.1 j).2.2.1, (z.1 i).2.2.2) = uV g i ((g.1 j).1, (g.1 j).2.1, (g.1 j).2.2.1, (g.1 i).2.2.2) := by
    intro z hz
    subst hz
    rw [uV_uV, uV_at, uV_ne _ _ hij]
  have e3 : ∀ z : cG, z = uV g i ((g.1 j).1, (g.1 j).2.1, (g.1 j).2.2.1, (g.1 i).2.2.2) → uV z i ((z.1 i).1, (z.1 i).2.1, (z.1 i).2.2.1, 0) = uV g i ((g.1 j).1, (g.1 j).2.1, (g.1 j).2.2.1, 0) := by
    intro z hz
    subst hz
    rw [uV_uV, uV_at]
  have e4 := e3 _ (e2 _ e1)
  generalize hz : uV g i ((g.1 j).1, (g.1 j).2.1, (g.1 j).2.2.1, 0) = z at e4
  have hzi : (z.1 i).1 = (g.1 j).1 := by rw [← hz, uV_at]
  have hzj : z.1 j = g.1 j := by rw [← hz, uV_ne _ _ hij]
  by_cases h : (g.1 j).1 = 3
  · have hap := xV_appendPart hE z i j 0 n n hij (fun _ => ⟨0, by omega, by rw [← hz, uV_at]; rfl⟩) hn (by rw [hzj]; exact hj h) (by omega)
    rw [Nat.zero_add] at hap
    have hf : apN z i (bsl z j 0 n) = cpS g i j n := by
      unfold cpS
      rw [if_pos h, ← hz]
      rw [h]
      rfl
    rw [hf] at hap
    rw [show nI n = (z.1 j).2.2.2 by rw [hzj]; exact (hj h).symm] at hap
    have h5 : (z.1 i).1 = 3 := hzi.trans h
    rw [← e4] at hap h5
    exact qm_step (sV_copy hE) C 0 9999 100 ([0], [], [(none, cpS g i j n)]) ⟨h5, hap, rfl, rfl⟩
  · have hf : z = cpS g i j n := by
      unfold cpS
      rw [if_neg h, hz]
    have h5 : ¬ (z.1 i).1 = 3 := fun q => h (hzi.symm.trans q)
    rw [← e4] at h5 hf
    exact qm_step (sV_copy hE) C 0 9999 100 ([1], [], []) ⟨h5, rfl, hf⟩
/-- from place p on value i has value j's b bytes -/
def hbA (g : cG) (i p j b : Nat) : Bool := (List.range b).all fun k => g.2.1 i (p + k) == g.2.1 j k
theorem xV_hasAt_neg {E : cEnv} (hE : cOk E) (g : cG) (i j : Nat) (z : Int32) (h : z < 0) : cSd E mV_hasAt [qR 1 i, qI z, qR 1 j] g (some (qI 0)) g := by
  refine qm_meth hE (by decide) rfl rfl (Nat.le_of_ble_eq_true rfl) ?_
  intro p e st mm args below meth c Q C _ _
  exact qm_step (sV_hasAt hE) C 0 9999 100 ([1], [], []) ⟨h, Or.inl rfl, rfl, rfl⟩
theorem xV_hasAt_over {E : cEnv} (hE : cOk E) (g : cG) (i j q a b : Nat) (ha : (g.1 i).2.2.2 = nI a) (hb : (g.1 j).2.2.2 = nI b) (ha2 : a ≤ 24) (hb2 : b ≤ 24) (hp : q ≤ 24) (h : a < q + b) : cSd E mV_hasAt [qR 1 i, qI (nI q), qR 1 j] g (some (qI 0)) g := by
  refine qm_meth hE (by decide) rfl rfl (Nat.le_of_ble_eq_true rfl) ?_
  intro p e st mm args below meth c Q C _ _
  have h1 : ¬ nI q < 0 := nI_pos (by omega)
  have h2 : ¬ nI q + (g.1 j).2.2.2 ≤ (g.1 i).2.2.2 := by rw [ha, hb, nI_add]; exact nI_ge h (by omega)
  exact qm_step (sV_hasAt hE) C 0 9999 100 ([0, 0], [], []) ⟨h1, h2, Or.inl rfl, rfl, rfl⟩
theorem xV_hasAt_in {E : cEnv} (hE : cOk E) (g : cG) (i j q a b : Nat) (ha : (g.1 i).2.2.2 = nI a) (hb : (g.1 j).2.2.2 = nI b) (ha2 : a ≤ 24) (h : q + b ≤ a) : cSd E mV_hasAt [qR 1 i, qI (nI q), qR 1 j] g (some (qI (if hbA g i q j b then 1 else 0))) g := by
  refine qm_meth hE (by decide) rfl rfl (Nat.le_of_ble_eq_true rfl) ?_
  intro p e st mm args below meth c Q C _ _
  have loop : ∀ (n k : Nat) (w : Int32), k + n = b → w = nI k → (∀ x, x < k → g.2.1 i (q + x) = g.2.1 j x) → qm_W (cLa E.2.2.2.1) cV (cHold E) (cA E.2.2.2.1) 4 p E.1 e (rmL 2) st mm args below meth c Q 21 ([some (qR 1 i), some (qI (nI q)), some (qR 1 j), some (qI w)], [], g) := by
    intro n
    induction n with
    | zero =>
      intro k w hk hw hx
      subst hw
      have hc : (g.1 j).2.2.2 ≤ nI k := by rw [hb]; exact nI_le (by omega) (by omega)
      have hr : (some (qI 1) : Option qm_v) = some (qI (if hbA g i q j b then 1 else 0)) := by
        rw [if_pos]
        unfold hbA
        rw [List.all_eq_true]
        intro x hx2
        have := hx x (by have := List.mem_range.mp hx2; omega)
        simp [this]
      exact qm_step (sV_hasAt hE) C 21 9999 100 ([1], [], []) ⟨hc, Or.inr rfl, hr, rfl⟩
    | succ n ih =>
      intro k w hk hw hx
      subst hw
      have hc : ¬ (g.1 j).2.2.2 ≤ nI k := by rw [hb]; exact nI_ge (by omega) (by omega)
      have h1 := xV_at_yes hE g i (q + k) a (by omega) ha2 ha
      rw [← nI_add] at h1
      have h2 := xV_at_yes hE g j k b (by omega) (by omega) hb
      by_cases he : g.2.1 i (q + k) = g.2.1 j k
      · refine qm_step (sV_hasAt hE) C 21 21 100 ([0, 1], [], [(some (qI (g.2.1 i (q + k))), g), (some (qI (g.2.1 j k)), g)]) ⟨hc, h1, h2, he, ?_⟩
        refine ih (k + 1) _ (by omega) (by rw [nI_1]) (fun x hx2 => ?_)
        rcases Nat.lt_or_ge x k with z | z
        · exact hx x z
        · have : x = k := by omega
          subst this
          exact he
      · have hr : (some (qI 0) : Option qm_v) = some (qI (if hbA g i q j b then 1 else 0)) := by
          rw [if_neg]
          unfold hbA
          rw [List.all_eq_true]
          intro hq
          have := hq k (List.mem_range.mpr (by omega))
          exact he (by simpa using this)
        exact qm_step (sV_hasAt hE) C 21 9999 100 ([0, 0], [], [(some (qI (g.2.1 i (q + k))), g), (some (qI (g.2.1 j k)), g)]) ⟨hc, h1, h2, he, Or.inl rfl, hr, rfl⟩
  have h1 : ¬ nI q < 0 := nI_pos (by omega)
  have h2 : nI q + (g.1 j).2.2.2 ≤ (g.1 i).2.2.2 := by rw [ha, hb, nI_add]; exact nI_le h (by omega)
  exact qm_step (sV_hasAt hE) C 0 21 100 ([0, 1], [], []) ⟨h1, h2, loop b 0 _ (by omega) rfl (fun x hx => by omega)⟩
/-- the first place of value j in value i -/
def fdP (g : cG) (i j a b : Nat) : Option Nat := (List.range (a + 1 - b)).find? fun p => hbA g i p j b
def fdI : Option Nat → Int32
  | some p => nI p
  | none => -1
theorem xV_find {E : cEnv} (hE : cOk E) (g : cG) (i j a b : Nat) (ha : (g.1 i).2.2.2 = nI a) (hb : (g.1 j).2.2.2 = nI b) (ha2 : a ≤ 24) (hb2 : b ≤ 24) : cSd E mV_find [qR 1 i, qR 1 j] g (some (qI (fdI (fdP g i j a b)))) g := by
  refine qm_meth hE (by decide) rfl rfl (Nat.le_of_ble_eq_true rfl) ?_
  intro p e st mm args below meth c Q C _ _
  have loop : ∀ (n k : Nat) (w : Int32), k + n = a + 1 - b → w = nI k → (∀ x, x < k → hbA g i x j b = false) → qm_W (cLa E.2.2.2.1) cV (cHold E) (cA E.2.2.2.1) 3 p E.1 e (rmL 3) st mm args below meth c Q 2 ([some (qR 1 i), some (qR 1 j), some (qI w)], [], g) := by
    intro n
    induction n with
    | zero =>
      intro k w hk hw hx
      subst hw
      have hc : (g.1 i).2.2.2 - (g.1 j).2.2.2 < nI k := by
        rw [ha, hb, Int32.lt_iff_toInt_lt, pk_sub_toInt (by omega) (by omega), nI_toInt (by omega)]
        omega
      have hr : (some (qI (-1)) : Option qm_v) = some (qI (fdI (fdP g i j a b))) := by
        have : fdP g i j a b = none := by
          unfold fdP
          rw [List.find?_eq_none]
          intro x hx2
          have := hx x (by have := List.mem_range.mp hx2; omega)
          simp [this]
        rw [this]; rfl
      exact qm_step (sV_find hE) C 2 9999 100 ([1], [], []) ⟨hc, hr, rfl⟩
    | succ n ih =>
      intro k w hk hw hx
      subst hw
      have hc : ¬ (g.1 i).2.2.2 - (g.1 j).2.2.2 < nI k := by
        rw [ha, hb, Int32.lt_iff_toInt_lt, pk_sub_toInt (by omega) (by omega), nI_toInt (by omega)]
        omega
      have h1 := xV_hasAt_in hE g i j k a b ha hb ha2 (by omega)
      by_cases he : hbA g i k j b = true
      · rw [if_pos he] at h1
        have hr : (some (qI (nI k)) : Option qm_v) = some (qI (fdI (fdP g i j a b))) := by
          have : fdP g i j a b = some k := by
            unfold fdP
            rw [List.find?_range_eq_some]
            exact ⟨he, by rw [List.mem_range]; omega, fun x hx2 => by simp [hx x hx2]⟩
          rw [this]; rfl
        exact qm_step (sV_find hE) C 2 9999 100 ([0, 0], [], [(some (qI 1), g)]) ⟨hc, h1, by decide, hr, rfl⟩
      · rw [if_neg he] at h1
        refine qm_step (sV_find hE) C 2 2 100 ([0, 1], [], [(some (qI 0), g)]) ⟨hc, h1, rfl, ?_⟩
        refine ih (k + 1) _ (by omega) (by rw [nI_1]) (fun x hx2 => ?_)
        rcases Nat.lt_or_ge x k with z | z
        · exact hx x z
        · have : x = k := by omega
          subst this
          simpa using he
  exact qm_step (sV_find hE) C 0 2 100 ([], [], []) (loop (a + 1 - b) 0 _ (by omega) rfl (fun x hx => by omega))
end
section
/-! Truths, Wholes, isPlain -/
def tB (x : Int32) : Int32 := if x = 0 then 0 else 1
theorem xU_truth {E : cEnv} (hE : cOk E) (g : cG) (x : Int32) : cSd E mU_truth [qI x] g (some (qI (tB x))) g := by
  refine qm_meth hE (by decide) rfl rfl (Nat.le_of_ble_eq_true rfl) ?_
  intro p e st mm args below meth c Q C _ _
  unfold tB at C
  by_cases h : x = 0
  · rw [if_pos h] at C
    exact qm_step (sU_truth hE) C 0 9999 100 ([1], [], []) ⟨h, rfl, rfl⟩
  · rw [if_neg h] at C
    exact qm_step (sU_truth hE) C 0 9999 100 ([0], [], []) ⟨h, rfl, rfl⟩
def tOf (x : cVR) : Int32 := if x.1 = 1 ∨ x.1 = 2 then (if x.2.1 = 0 then 0 else 1) else if x.1 = 3 then (if x.2.2.2 ≤ 0 then 0 else 1) else -1
theorem xU_of {E : cEnv} (hE : cOk E) (g : cG) (i : Nat) : cSd E mU_of [qR 1 i] g (some (qI (tOf (g.1 i)))) g := by
  refine qm_meth hE (by decide) rfl rfl (Nat.le_of_ble_eq_true rfl) ?_
  intro p e st mm args below meth c Q C _ _
  have t1 := xU_truth hE g 1
  have t0 := xU_truth hE g 0
  rw [show tB 1 = 1 from by decide] at t1
  rw [show tB 0 = 0 from by decide] at t0
  unfold tOf at C
  by_cases h1 : (g.1 i).1 = 1
  · rw [if_pos (Or.inl h1)] at C
    by_cases h : (g.1 i).2.1 = 0
    · rw [if_pos h] at C
      exact qm_step (sU_of hE) C 0 9999 100 ([1, 1], [], [(some (qI 0), g)]) ⟨h1, h, t0, rfl, rfl⟩
    · rw [if_neg h] at C
      exact qm_step (sU_of hE) C 0 9999 100 ([1, 0], [], [(some (qI 1), g)]) ⟨h1, h, t1, rfl, rfl⟩
  · by_cases h2 : (g.1 i).1 = 2
    · rw [if_pos (Or.inr h2)] at C
      by_cases h : (g.1 i).2.1 = 0
      · rw [if_pos h] at C
        exact qm_step (sU_of hE) C 0 9999 100 ([2, 1], [], [(some (qI 0), g)]) ⟨h2, h, t0, rfl, rfl⟩
      · rw [if_neg h] at C
        exact qm_step (sU_of hE) C 0 9999 100 ([2, 0], [], [(some (qI 1), g)]) ⟨h2, h, t1, rfl, rfl⟩
    · rw [if_neg (fun q => q.elim h1 h2)] at C
      by_cases h3 : (g.1 i).1 = 3
      · rw [if_pos h3] at C
        by_cases h : (g.1 i).2.2.2 ≤ 0
        · rw [if_pos h] at C
          exact qm_step (sU_of hE) C 0 9999 100 ([3, 1], [], [(some (qI 0), g)]) ⟨h3, h, t0, rfl, rfl⟩
        · rw [if_neg h] at C
          exact qm_step (sU_of hE) C 0 9999 100 ([3, 0], [], [(some (qI 1), g)]) ⟨h3, h, t1, rfl, rfl⟩
      · rw [if_neg h3] at C
        have hd : ∀ q ∈ ([(1, 32), (2, 32), (3, 50)] : List (Int32 × Nat)), ¬ (g.1 i).1 = q.1 := by
          intro q hq
          simp only [List.mem_cons, List.mem_nil_iff, or_false] at hq
          rcases hq with rfl | rfl | rfl
          · exact h1
          · exact h2
          · exact h3
        exact qm_step (sU_of hE) C 0 9999 100 ([0], [], []) ⟨hd, rfl, rfl⟩
def tNot (x : Int32) : Int32 := if x = -1 then -1 else 1 - x
def tAnd (x y : Int32) : Int32 := if x = 0 ∨ y = 0 then 0 else if x = 1 ∧ y = 1 then 1 else -1
def tOr (x y : Int32) : Int32 := if x = 1 ∨ y = 1 then 1 else if x = 0 ∧ y = 0 then 0 else -1
theorem xU_other {E : cEnv} (hE : cOk E) (g : cG) (x : Int32) : cSd E mU_other [qI x] g (some (qI (tNot x))) g := by
  refine qm_meth hE (by decide) rfl rfl (Nat.le_of_ble_eq_true rfl) ?_
  intro p e st mm args below meth c Q C _ _
  unfold tNot at C
  by_cases h : x = -1
  · rw [if_pos h] at C
    exact qm_step (sU_other hE) C 0 9999 100 ([0], [], []) ⟨h, rfl, rfl⟩
  · rw [if_neg h] at C
    exact qm_step (sU_other hE) C 0 9999 100 ([1], [], []) ⟨h, rfl, rfl⟩
theorem xU_both {E : cEnv} (hE : cOk E) (g : cG) (x y : Int32) : cSd E mU_both [qI x, qI y] g (some (qI (tAnd x y))) g := by
  refine qm_meth hE (by decide) rfl rfl (Nat.le_of_ble_eq_true rfl) ?_
  intro p e st mm args below meth c Q C _ _
  unfold tAnd at C
  by_cases h1 : x = 0
  · rw [if_pos (Or.inl h1)] at C
    exact qm_step (sU_both hE) C 0 9999 100 ([1], [], []) ⟨h1, rfl, rfl⟩
  · by_cases h2 : y = 0
    · rw [if_pos (Or.inr h2)] at C
      exact qm_step (sU_both hE) C 0 9999 100 ([0, 0], [], []) ⟨h1, h2, rfl, rfl⟩
    · rw [if_neg (fun q => q.elim h1 h2)] at C
      by_cases h3 : x = 1
      · by_cases h4 : y = 1
        · rw [if_pos ⟨h3, h4⟩] at C
          exact qm_step (sU_both hE) C 0 9999 100 ([0, 1, 0, 0], [], []) ⟨h1, h2, h3, h4, rfl, rfl⟩
        · rw [if_neg (fun q => h4 q.2)] at C
          exact qm_step (sU_both hE) C 0 9999 100 ([0, 1, 0, 1], [], []) ⟨h1, h2, h3, h4, rfl, rfl⟩
      · rw [if_neg (fun q => h3 q.1)] at C
        exact qm_step (sU_both hE) C 0 9999 100 ([0, 1, 1], [], []) ⟨h1, h2, h3, rfl, rfl⟩
theorem xU_either {E : cEnv} (hE : cOk E) (g : cG) (x y : Int32) : cSd E mU_either [qI x, qI y] g (some (qI (tOr x y))) g := by
  refine qm_meth hE (by decide) rfl rfl (Nat.le_of_ble_eq_true rfl) ?_
  intro p e st mm args below meth c Q C _ _
  unfold tOr at C
  by_cases h1 : x = 1
  · rw [if_pos (Or.inl h1)] at C
    exact qm_step (sU_either hE) C 0 9999 100 ([1], [], []) ⟨h1, rfl, rfl⟩
  · by_cases h2 : y = 1
    · rw [if_pos (Or.inr h2)] at C
      exact qm_step (sU_either hE) C 0 9999 100 ([0, 0], [], []) ⟨h1, h2, rfl, rfl⟩
    · rw [if_neg (fun q => q.elim h1 h2)] at C
      by_cases h3 : x = 0
      · by_cases h4 : y = 0
        · rw [if_pos ⟨h3, h4⟩] at C
          exact qm_step (sU_either hE) C 0 9999 100 ([0, 1, 0, 0], [], []) ⟨h1, h2, h3, h4, rfl, rfl⟩
        · rw [if_neg (fun q => h4 q.2)] at C
          exact qm_step (sU_either hE) C 0 9999 100 ([0, 1, 0, 1], [], []) ⟨h1, h2, h3, h4, rfl, rfl⟩
      · rw [if_neg (fun q => h3 q.1)] at C
        exact qm_step (sU_either hE) C 0 9999 100 ([0, 1, 1], [], []) ⟨h1, h2, h3, rfl, rfl⟩
/-- SAME of values i, j: -1 unknown; n the length of j, if both are TEXTS of one length -/
def tSame (g : cG) (i j n : Nat) : Int32 :=
  if (g.1 i).1 = 0 ∨ (g.1 j).1 = 0 then -1
  else if ¬ (g.1 i).1 = (g.1 j).1 then (if (g.1 i).1 = 4 ∨ (g.1 j).1 = 4 then 0 else -1)
  else if (g.1 i).1 = 3 then (if (g.1 i).2.2.1 = (g.1 j).2.2.1 ∧ (g.1 i).2.2.2 = (g.1 j).2.2.2 ∧ hbA g i 0 j n = true then 1 else 0)
  else (if (g.1 i).2.1 = (g.1 j).2.1 then 1 else 0)
theorem xU_same {E : cEnv} (hE : cOk E) (g : cG) (i j n : Nat) (hn : n ≤ 24) (hj : (g.1 j).1 = 3 → (g.1 j).2.2.2 = nI n) : cSd E mU_same [qR 1 i, qR 1 j] g (some (qI (tSame g i j n))) g := by
  refine qm_meth hE (by decide) rfl rfl (Nat.le_of_ble_eq_true rfl) ?_
  intro p e st mm args below meth c Q C _ _
  have t1 := xU_truth hE g 1
  have t0 := xU_truth hE g 0
  rw [show tB 1 = 1 from by decide] at t1
  rw [show tB 0 = 0 from by decide] at t0
  unfold tSame at C
  by_cases h1 : (g.1 i).1 = 0
  · rw [if_pos (Or.inl h1)] at C
    exact qm_step (sU_same hE) C 0 9999 100 ([1], [], []) ⟨h1, rfl, rfl⟩
  by_cases h2 : (g.1 j).1 = 0
  · rw [if_pos (Or.inr h2)] at C
    exact qm_step (sU_same hE) C 0 9999 100 ([0, 0], [], []) ⟨h1, h2, rfl, rfl⟩
  rw [if_neg (fun q => q.elim h1 h2)] at C
  by_cases h3 : (g.1 i).1 = (g.1 j).1
  · rw [if_neg (fun q => q h3)] at C
    by_cases h4 : (g.1 i).1 = 3
    · rw [if_pos h4] at C
      by_cases h5 : (g.1 i).2.2.1 = (g.1 j).2.2.1
      · by_cases h6 : (g.1 i).2.2.2 = (g.1 j).2.2.2
        · have hjn := hj (h3.symm.trans h4)
          have hh := xV_hasAt_in hE g i j 0 n n (h6.trans hjn) hjn hn (by omega)
          by_cases h7 : hbA g i 0 j n = true
          · rw [if_pos h7] at hh
            rw [if_pos ⟨h5, h6, h7⟩] at C
            exact qm_step (sU_same hE) C 0 9999 100 ([0, 1, 1, 0, 0, 0, 0], [], [(some (qI 1), g), (some (qI 1), g)]) ⟨h1, h2, h3, h4, h5, h6, hh, by decide, t1, rfl, rfl⟩
          · rw [if_neg h7] at hh
            rw [if_neg (fun q => h7 q.2.2)] at C
            exact qm_step (sU_same hE) C 0 9999 100 ([0, 1, 1, 0, 0, 0, 1], [], [(some (qI 0), g), (some (qI 0), g)]) ⟨h1, h2, h3, h4, h5, h6, hh, rfl, t0, rfl, rfl⟩
        · rw [if_neg (fun q => h6 q.2.1)] at C
          exact qm_step (sU_same hE) C 0 9999 100 ([0, 1, 1, 0, 0, 1], [], [(some (qI 0), g)]) ⟨h1, h2, h3, h4, h5, h6, t0, rfl, rfl⟩
      · rw [if_neg (fun q => h5 q.1)] at C
        exact qm_step (sU_same hE) C 0 9999 100 ([0, 1, 1, 0, 1], [], [(some (qI 0), g)]) ⟨h1, h2, h3, h4, h5, t0, rfl, rfl⟩
    · rw [if_neg h4] at C
      by_cases h5 : (g.1 i).2.1 = (g.1 j).2.1
      · rw [if_pos h5] at C
        exact qm_step (sU_same hE) C 0 9999 100 ([0, 1, 1, 1, 0], [], [(some (qI 1), g)]) ⟨h1, h2, h3, h4, h5, t1, rfl, rfl⟩
      · rw [if_neg h5] at C
        exact qm_step (sU_same hE) C 0 9999 100 ([0, 1, 1, 1, 1], [], [(some (qI 0), g)]) ⟨h1, h2, h3, h4, h5, t0, rfl, rfl⟩
  · rw [if_pos h3] at C
    by_cases h4 : (g.1 i).1 = 4
    · rw [if_pos (Or.inl h4)] at C
      exact qm_step (sU_same hE) C 0 9999 100 ([0, 1, 0, 1], [], []) ⟨h1, h2, h3, h4, rfl, rfl⟩
    · by_cases h5 : (g.1 j).1 = 4
      · rw [if_pos (Or.inr h5)] at C
        exact qm_step (sU_same hE) C 0 9999 100 ([0, 1, 0, 0, 0], [], []) ⟨h1, h2, h3, h4, h5, rfl, rfl⟩
      · rw [if_neg (fun q => q.elim h4 h5)] at C
        exact qm_step (sU_same hE) C 0 9999 100 ([0, 1, 0, 0, 1], [], []) ⟨h1, h2, h3, h4, h5, rfl, rfl⟩
theorem xT_isPlain {E : cEnv} (hE : cOk E) (g : cG) (i : Nat) : cSd E mT_isPlain [qR 1 i] g (some (qI (if (g.1 i).1 = 3 ∧ (g.1 i).2.2.1 = 0 then 1 else 0))) g := by
  refine qm_meth hE (by decide) rfl rfl (Nat.le_of_ble_eq_true rfl) ?_
  intro p e st mm args below meth c Q C _ _
  by_cases h1 : (g.1 i).1 = 3
  · by_cases h2 : (g.1 i).2.2.1 = 0
    · rw [if_pos ⟨h1, h2⟩] at C
      exact qm_step (sT_isPlain hE) C 0 9999 100 ([0, 0], [], []) ⟨h1, h2, Or.inr rfl, rfl, rfl⟩
    · rw [if_neg (fun q => h2 q.2)] at C
      exact qm_step (sT_isPlain hE) C 0 9999 100 ([0, 1], [], []) ⟨h1, h2, Or.inl rfl, rfl, rfl⟩
  · rw [if_neg (fun q => h1 q.1)] at C
    exact qm_step (sT_isPlain hE) C 0 9999 100 ([1], [], []) ⟨h1, Or.inl rfl, rfl, rfl⟩
end
section
/-! isBefore, less, Truths.reckon, Wholes -/
def atV (g : cG) (i n k : Nat) : Int32 := if k < n then g.2.1 i k else 0
theorem xV_atG {E : cEnv} (hE : cOk E) (g : cG) (i n k : Nat) (hn : n ≤ 24) (hk : k ≤ 24) (h2 : (g.1 i).2.2.2 = nI n) : cSd E mV_at [qR 1 i, qI (nI k)] g (some (qI (atV g i n k))) g := by
  unfold atV
  split
  · rename_i h
    exact xV_at_yes hE g i k n h hn h2
  · rename_i h
    exact xV_at_no hE g i (nI k) (Or.inr (by rw [h2]; exact nI_le (by omega) (by omega)))
/-- TEXT i (of length a) stands before TEXT j (of length b) -/
def bfB (g : cG) (i a j b : Nat) : Bool := match (List.range b).find? (fun k => !(atV g i a k == atV g j b k)) with
  | some k => decide (atV g i a k < atV g j b k)
  | none => false
theorem xU_isBefore {E : cEnv} (hE : cOk E) (g : cG) (i j a b : Nat) (ha : a ≤ 24) (hb : b ≤ 24) (hia : (g.1 i).2.2.2 = nI a) (hjb : (g.1 j).2.2.2 = nI b) : cSd E mU_isBefore [qR 1 i, qR 1 j] g (some (qI (if bfB g i a j b then 1 else 0))) g := by
  refine qm_meth hE (by decide) rfl rfl (Nat.le_of_ble_eq_true rfl) ?_
  intro p e st mm args below meth c Q C _ _
  have loop : ∀ (n k : Nat) (w : Int32), k + n = b → w = nI k → (∀ x, x < k → atV g i a x = atV g j b x) → qm_W (cLa E.2.2.2.1) cV (cHold E) (cA E.2.2.2.1) 3 p E.1 e (rmL 2) st mm args below meth c Q 2 ([some (qR 1 i), some (qR 1 j), some (qI w)], [], g) := by
    intro n
    induction n with
    | zero =>
      intro k w hk hw hx
      subst hw
      have hc : (g.1 j).2.2.2 ≤ nI k := by rw [hjb]; exact nI_le (by omega) (by omega)
      have hr : (some (qI 0) : Option qm_v) = some (qI (if bfB g i a j b then 1 else 0)) := by
        have : (List.range b).find? (fun k => !(atV g i a k == atV g j b k)) = none := by
          rw [List.find?_eq_none]
          intro x hx2
          have := hx x (by have := List.mem_range.mp hx2; omega)
          simp [this]
        unfold bfB
        rw [this]
        rfl
      exact qm_step (sU_isBefore hE) C 2 9999 100 ([1], [], []) ⟨hc, Or.inl rfl, hr, rfl⟩
    | succ n ih =>
      intro k w hk hw hx
      subst hw
      have hc : ¬ (g.1 j).2.2.2 ≤ nI k := by rw [hjb]; exact nI_ge (by omega) (by omega)
      have h1 := xV_atG hE g i a k ha (by omega) hia
      have h2 := xV_atG hE g j b k hb (by omega) hjb
      by_cases he : atV g i a k = atV g j b k
      · refine qm_step (sU_isBefore hE) C 2 2 100 ([0, 1], [], [(some (qI (atV g i a k)), g), (some (qI (atV g j b k)), g)]) ⟨hc, h1, h2, he, ?_⟩
        refine ih (k + 1) _ (by omega) (by rw [nI_1]) (fun x hx2 => ?_)
        rcases Nat.lt_or_ge x k with z | z
        · exact hx x z
        · have : x = k := by omega
          subst this
          exact he
      · have hf : (List.range b).find? (fun k => !(atV g i a k == atV g j b k)) = some k := by
          rw [List.find?_range_eq_some]
          exact ⟨by simp [he], by rw [List.mem_range]; omega, fun x hx2 => by simp [hx x hx2]⟩
        by_cases hl : atV g j b k ≤ atV g i a k
        · have hr : (some (qI 0) : Option qm_v) = some (qI (if bfB g i a j b then 1 else 0)) := by
            unfold bfB
            rw [hf]
            simp [Int32.not_lt.mpr hl]
          exact qm_step (sU_isBefore hE) C 2 9999 100 ([0, 0, 1], [], [(some (qI (atV g i a k)), g), (some (qI (atV g j b k)), g), (some (qI (atV g i a k)), g), (some (qI (atV g j b k)), g)]) ⟨hc, h1, h2, he, h1, h2, hl, Or.inl rfl, hr, rfl⟩
        · have hr : (some (qI 1) : Option qm_v) = some (qI (if bfB g i a j b then 1 else 0)) := by
            unfold bfB
            rw [hf]
            simp [Int32.not_le.mp hl]
          exact qm_step (sU_isBefore hE) C 2 9999 100 ([0, 0, 0], [], [(some (qI (atV g i a k)), g), (some (qI (atV g j b k)), g), (some (qI (atV g i a k)), g), (some (qI (atV g j b k)), g)]) ⟨hc, h1, h2, he, h1, h2, hl, Or.inr rfl, hr, rfl⟩
  exact qm_step (sU_isBefore hE) C 0 2 100 ([], [], []) (loop b 0 _ (by omega) rfl (fun x hx => by omega))
def tLess (g : cG) (i a j b : Nat) : Int32 :=
  if ¬ (g.1 i).1 = (g.1 j).1 then -1
  else if (g.1 i).1 = 2 ∨ (g.1 i).1 = 1 then (if (g.1 i).2.1 < (g.1 j).2.1 then 1 else 0)
  else if (g.1 i).1 = 3 ∧ (g.1 i).2.2.1 = (g.1 j).2.2.1 then (if bfB g i a j b then 1 else 0) else -1
theorem xU_less {E : cEnv} (hE : cOk E) (g : cG) (i j a b : Nat) (ha : a ≤ 24) (hb : b ≤ 24) (hia : (g.1 i).1 = 3 → (g.1 i).2.2.2 = nI a) (hjb : (g.1 j).1 = 3 → (g.1 j).2.2.2 = nI b) : cSd E mU_less [qR 1 i, qR 1 j] g (some (qI (tLess g i a j b))) g := by
  refine qm_meth hE (by decide) rfl rfl (Nat.le_of_ble_eq_true rfl) ?_
  intro p e st mm args below meth c Q C _ _
  have t1 := xU_truth hE g 1
  have t0 := xU_truth hE g 0
  rw [show tB 1 = 1 from by decide] at t1
  rw [show tB 0 = 0 from by decide] at t0
  unfold tLess at C
  by_cases h1 : (g.1 i).1 = (g.1 j).1
  · rw [if_neg (fun q => q h1)] at C
    by_cases h2 : (g.1 i).1 = 2
    · rw [if_pos (Or.inl h2)] at C
      by_cases h3 : (g.1 i).2.1 < (g.1 j).2.1
      · rw [if_pos h3] at C
        exact qm_step (sU_less hE) C 0 9999 100 ([1, 1, 0], [], [(some (qI 1), g)]) ⟨h1, h2, Int64.not_le.mpr h3, t1, rfl, rfl⟩
      · rw [if_neg h3] at C
        exact qm_step (sU_less hE) C 0 9999 100 ([1, 1, 1], [], [(some (qI 0), g)]) ⟨h1, h2, Int64.not_lt.mp h3, t0, rfl, rfl⟩
    · by_cases h3 : (g.1 i).1 = 1
      · rw [if_pos (Or.inr h3)] at C
        by_cases h4 : (g.1 i).2.1 < (g.1 j).2.1
        · rw [if_pos h4] at C
          exact qm_step (sU_less hE) C 0 9999 100 ([1, 0, 0, 0], [], [(some (qI 1), g)]) ⟨h1, h2, h3, Int64.not_le.mpr h4, t1, rfl, rfl⟩
        · rw [if_neg h4] at C
          exact qm_step (sU_less hE) C 0 9999 100 ([1, 0, 0, 1], [], [(some (qI 0), g)]) ⟨h1, h2, h3, Int64.not_lt.mp h4, t0, rfl, rfl⟩
      · rw [if_neg (fun q => q.elim h2 h3)] at C
        by_cases h4 : (g.1 i).1 = 3
        · by_cases h5 : (g.1 i).2.2.1 = (g.1 j).2.2.1
          · rw [if_pos ⟨h4, h5⟩] at C
            have hb2 := xU_isBefore hE g i j a b ha hb (hia h4) (hjb (h1.symm.trans h4))
            by_cases h6 : bfB g i a j b = true
            · rw [if_pos h6] at C hb2
              exact qm_step (sU_less hE) C 0 9999 100 ([1, 0, 1, 0, 0], [], [(some (qI 1), g), (some (qI 1), g)]) ⟨h1, h2, h3, h4, h5, hb2, t1, rfl, rfl⟩
            · rw [if_neg h6] at C hb2
              exact qm_step (sU_less hE) C 0 9999 100 ([1, 0, 1, 0, 0], [], [(some (qI 0), g), (some (qI 0), g)]) ⟨h1, h2, h3, h4, h5, hb2, t0, rfl, rfl⟩
          · rw [if_neg (fun q => h5 q.2)] at C
            exact qm_step (sU_less hE) C 0 9999 100 ([1, 0, 1, 0, 1], [], []) ⟨h1, h2, h3, h4, h5, rfl, rfl⟩
        · rw [if_neg (fun q => h4 q.1)] at C
          exact qm_step (sU_less hE) C 0 9999 100 ([1, 0, 1, 1], [], []) ⟨h1, h2, h3, h4, rfl, rfl⟩
  · rw [if_pos h1] at C
    exact qm_step (sU_less hE) C 0 9999 100 ([0], [], []) ⟨h1, rfl, rfl⟩
/-- the truths' operations; a, b, d the lengths of values i, j, k -/
def tRk (op : Int32) (g : cG) (i a j b k d : Nat) : Int32 :=
  if op = 0 then tNot (tOf (g.1 i)) else if op = 1 then tAnd (tOf (g.1 i)) (tOf (g.1 j)) else if op = 2 then tOr (tOf (g.1 i)) (tOf (g.1 j))
  else if op = 3 then tSame g i j b else if op = 4 then tLess g i a j b else if op = 29 then tOr (tSame g i j b) (tSame g i k d) else -1
theorem xU_reckon {E : cEnv} (hE : cOk E) (op : Int32) (g : cG) (i j k a b d : Nat) (ha : a ≤ 24) (hb : b ≤ 24) (hd : d ≤ 24) (hia : (g.1 i).1 = 3 → (g.1 i).2.2.2 = nI a) (hjb : (g.1 j).1 = 3 → (g.1 j).2.2.2 = nI b) (hkd : (g.1 k).1 = 3 → (g.1 k).2.2.2 = nI d) : cSd E mU_reckon [qI op, qR 1 i, qR 1 j, qR 1 k] g (some (qI (tRk op g i a j b k d))) g := by
  refine qm_meth hE (by decide) rfl rfl (Nat.le_of_ble_eq_true rfl) ?_
  intro p e st mm args below meth c Q C _ _
  have o1 := xU_of hE g i
  have o2 := xU_of hE g j
  unfold tRk at C
  by_cases h0 : op = 0
  · rw [if_pos h0] at C
    exact qm_step (sU_reckon hE) C 0 9999 100 ([1], [], [(_, g), (_, g)]) ⟨h0, o1, xU_other hE g _, rfl, rfl⟩
  rw [if_neg h0] at C
  by_cases h1 : op = 1
  · rw [if_pos h1] at C
    exact qm_step (sU_reckon hE) C 0 9999 100 ([2], [], [(_, g), (_, g), (_, g)]) ⟨h1, o1, o2, xU_both hE g _ _, rfl, rfl⟩
  rw [if_neg h1] at C
  by_cases h2 : op = 2
  · rw [if_pos h2] at C
    exact qm_step (sU_reckon hE) C 0 9999 100 ([3], [], [(_, g), (_, g), (_, g)]) ⟨h2, o1, o2, xU_either hE g _ _, rfl, rfl⟩
  rw [if_neg h2] at C
  by_cases h3 : op = 3
  · rw [if_pos h3] at C
    exact qm_step (sU_reckon hE) C 0 9999 100 ([4], [], [(_, g)]) ⟨h3, xU_same hE g i j b hb hjb, rfl, rfl⟩
  rw [if_neg h3] at C
  by_cases h4 : op = 4
  · rw [if_pos h4] at C
    exact qm_step (sU_reckon hE) C 0 9999 100 ([5], [], [(_, g)]) ⟨h4, xU_less hE g i j a b ha hb hia hjb, rfl, rfl⟩
  rw [if_neg h4] at C
  by_cases h5 : op = 29
  · rw [if_pos h5] at C
    exact qm_step (sU_reckon hE) C 0 9999 100 ([6], [], [(_, g), (_, g), (_, g)]) ⟨h5, xU_same hE g i j b hb hjb, xU_same hE g i k d hd hkd, xU_either hE g _ _, rfl, rfl⟩
  rw [if_neg h5] at C
  have hdf : ∀ q ∈ ([(0, 60), (1, 68), (2, 80), (3, 92), (4, 98), (29, 104)] : List (Int32 × Nat)), ¬ op = q.1 := by
    intro q hq
    simp only [List.mem_cons, List.mem_nil_iff, or_false] at hq
    rcases hq with rfl | rfl | rfl | rfl | rfl | rfl
    · exact h0
    · exact h1
    · exact h2
    · exact h3
    · exact h4
    · exact h5
  exact qm_step (sU_reckon hE) C 0 9999 100 ([0], [], []) ⟨hdf, rfl, rfl⟩
-- wholes
def swS (g : cG) (i : Nat) (v : Int64) : cG := uV g i (if ¬ v < -1000000000000000 ∧ ¬ 1000000000000000 < v then 2 else 0, v, (g.1 i).2.2)
theorem xV_setW {E : cEnv} (hE : cOk E) (hX : qm_Nx E) (g : cG) (i : Nat) (v : Int64) : cSd E mV_setWhole [qR 1 i, qL v] g none (swS g i v) := by
  unfold swS
  split
  · rename_i h
    exact (xV_setWhole hE hX g i v).1 h
  · rename_i h
    exact (xV_setWhole hE hX g i v).2 h
def seS (g : cG) (i : Nat) : cG := uV g i (0, (g.1 i).2)
def lAbs (x : Int64) : Int64 := if 0 < x then x else -x
def mulS (g : cG) (i : Nat) (a b : Int64) : cG := if lAbs a = 0 ∨ lAbs b ≤ 1000000000000000 / lAbs a then swS g i (a * b) else seS g i
theorem xH_multiply {E : cEnv} (hE : cOk E) (hX : qm_Nx E) (g : cG) (i : Nat) (a b : Int64) : cSd E mH_multiply [qR 1 i, qL a, qL b] g none (mulS g i a b) := by
  refine qm_meth hE (by decide) rfl rfl (Nat.le_of_ble_eq_true rfl) ?_
  intro p e st mm args below meth c Q C _ _
  unfold mulS at C
  by_cases h1 : lAbs a = 0
  · rw [if_pos (Or.inl h1)] at C
    exact qm_step (sH_multiply hE) C 0 9999 100 ([1], [], [(none, _)]) ⟨h1, xV_setW hE hX g i _, rfl, rfl⟩
  · by_cases h2 : lAbs b ≤ 1000000000000000 / lAbs a
    · rw [if_pos (Or.inr h2)] at C
      exact qm_step (sH_multiply hE) C 0 9999 100 ([0, 1], [], [(none, _)]) ⟨h1, h1, h2, xV_setW hE hX g i _, rfl, rfl⟩
    · rw [if_neg (fun q => q.elim h1 h2)] at C
      exact qm_step (sH_multiply hE) C 0 9999 100 ([0, 0], [], [(none, _)]) ⟨h1, h1, h2, xV_setError hE g i, rfl, rfl⟩
def divS (op : Int32) (g : cG) (i : Nat) (a b : Int64) : cG := if b = 0 then seS g i else if op = 8 then swS g i (a / b) else swS g i (a - a / b * b)
theorem xH_divide {E : cEnv} (hE : cOk E) (hX : qm_Nx E) (op : Int32) (g : cG) (i : Nat) (a b : Int64) : cSd E mH_divide [qI op, qR 1 i, qL a, qL b] g none (divS op g i a b) := by
  refine qm_meth hE (by decide) rfl rfl (Nat.le_of_ble_eq_true rfl) ?_
  intro p e st mm args below meth c Q C _ _
  unfold divS at C
  by_cases h1 : b = 0
  · rw [if_pos h1] at C
    exact qm_step (sH_divide hE) C 0 9999 100 ([0], [], [(none, _)]) ⟨h1, xV_setError hE g i, rfl, rfl⟩
  · rw [if_neg h1] at C
    by_cases h2 : op = 8
    · rw [if_pos h2] at C
      exact qm_step (sH_divide hE) C 0 9999 100 ([1, 0], [], [(none, _)]) ⟨h1, h2, h1, xV_setW hE hX g i _, rfl, rfl⟩
    · rw [if_neg h2] at C
      exact qm_step (sH_divide hE) C 0 9999 100 ([1, 1], [], [(none, _)]) ⟨h1, h2, h1, xV_setW hE hX g i _, rfl, rfl⟩
def whS (op : Int32) (g : cG) (i j k : Nat) : cG :=
  if ¬ (g.1 j).1 = 2 ∨ ¬ (g.1 k).1 = 2 then seS g i
  else if op = 5 then swS g i ((g.1 j).2.1 + (g.1 k).2.1) else if op = 6 then swS g i ((g.1 j).2.1 - (g.1 k).2.1)
  else if op = 7 then mulS g i (g.1 j).2.1 (g.1 k).2.1 else divS op g i (g.1 j).2.1 (g.1 k).2.1
theorem xH_reckon {E : cEnv} (hE : cOk E) (hX : qm_Nx E) (op : Int32) (g : cG) (i j k : Nat) : cSd E mH_reckon [qI op, qR 1 i, qR 1 j, qR 1 k] g none (whS op g i j k) := by
  refine qm_meth hE (by decide) rfl rfl (Nat.le_of_ble_eq_true rfl) ?_
  intro p e st mm args below meth c Q C _ _
  unfold whS at C
  by_cases h1 : (g.1 j).1 = 2
  · by_cases h2 : (g.1 k).1 = 2
    · rw [if_neg (fun q => q.elim (fun z => z h1) (fun z => z h2))] at C
      by_cases h5 : op = 5
      · rw [if_pos h5] at C
        exact qm_step (sH_reckon hE) C 0 9999 100 ([0, 1, 1], [], [(none, _)]) ⟨h1, h2, h5, xV_setW hE hX g i _, rfl, rfl⟩
      rw [if_neg h5] at C
      by_cases h6 : op = 6
      · rw [if_pos h6] at C
        exact qm_step (sH_reckon hE) C 0 9999 100 ([0, 1, 2], [], [(none, _)]) ⟨h1, h2, h6, xV_setW hE hX g i _, rfl, rfl⟩
      rw [if_neg h6] at C
      by_cases h7 : op = 7
      · rw [if_pos h7] at C
        exact qm_step (sH_reckon hE) C 0 9999 100 ([0, 1, 3], [], [(none, _)]) ⟨h1, h2, h7, xH_multiply hE hX g i _ _, rfl, rfl⟩
      rw [if_neg h7] at C
      have hdf : ∀ q ∈ ([(5, 48), (6, 64), (7, 80)] : List (Int32 × Nat)), ¬ op = q.1 := by
        intro q hq
        simp only [List.mem_cons, List.mem_nil_iff, or_false] at hq
        rcases hq with rfl | rfl | rfl
        · exact h5
        · exact h6
        · exact h7
      exact qm_step (sH_reckon hE) C 0 9999 100 ([0, 1, 0], [], [(none, _)]) ⟨h1, h2, hdf, xH_divide hE hX op g i _ _, rfl, rfl⟩
    · rw [if_pos (Or.inr h2)] at C
      exact qm_step (sH_reckon hE) C 0 9999 100 ([0, 0], [], [(none, _)]) ⟨h1, h2, xV_setError hE g i, rfl, rfl⟩
  · rw [if_pos (Or.inl h1)] at C
    exact qm_step (sH_reckon hE) C 0 9999 100 ([1], [], [(none, _)]) ⟨h1, xV_setError hE g i, rfl, rfl⟩
end
section
/-! Texts -/
def stS (g : cG) (i : Nat) (t : Int32) : cG := uV g i (3, (g.1 i).2.1, t, 0)
theorem stS_ok (g : cG) (i : Nat) (t : Int32) : okT (stS g i t) i := fun _ => ⟨0, by omega, by unfold stS; rw [uV_at]; rfl⟩
theorem stS_V (g : cG) {i j : Nat} (t : Int32) (h : j ≠ i) : (stS g i t).1 j = g.1 j := uV_ne _ _ h
theorem stS_B (g : cG) (i : Nat) (t : Int32) : (stS g i t).2.1 = g.2.1 := rfl
theorem apN_app (g : cG) (i : Nat) (a b : List Int32) : apN g i (a ++ b) = apN (apN g i a) i b := List.foldl_append
theorem bsl_of {g h : cG} {j : Nat} (e : g.2.1 j = h.2.1 j) (s m : Nat) : bsl g j s m = bsl h j s m := by unfold bsl; rw [e]
theorem l_add {x y : Int64} (h1 : -4611686018427387904 ≤ x.toInt + y.toInt) (h2 : x.toInt + y.toInt ≤ 4611686018427387904) : (x + y).toInt = x.toInt + y.toInt := by
  rw [Int64.toInt_add, Int.bmod_eq_of_le (by omega) (by omega)]
theorem l_sub {x y : Int64} (h1 : -4611686018427387904 ≤ x.toInt - y.toInt) (h2 : x.toInt - y.toInt ≤ 4611686018427387904) : (x - y).toInt = x.toInt - y.toInt := by
  rw [Int64.toInt_sub, Int.bmod_eq_of_le (by omega) (by omega)]
theorem l_of {x : Int64} {n : Nat} (hn : n < 2 ^ 31) (h : x.toInt = n) : x = lN n := Int64.toInt_inj.mp (by rw [h, lN_toInt hn])
-- PART
def ptB (B : Int64) : Int64 := (if 1 < B then B else 1) - 1
def ptE (B D : Int64) (n : Nat) : Int64 := if (nI n).toInt64 < B - 1 + D then (nI n).toInt64 else B - 1 + D
def ptS (g : cG) (i a n : Nat) (B D : Int64) : cG := if ptE B D n ≤ ptB B then stS g i (g.1 a).2.2.1 else apN (stS g i (g.1 a).2.2.1) i (bsl g a (ptB B).toInt.toNat ((ptE B D n).toInt.toNat - (ptB B).toInt.toNat))
theorem ptB_in {B : Int64} (h1 : -1000000000000000 ≤ B.toInt) (h2 : B.toInt ≤ 1000000000000000) : (ptB B).toInt = max B.toInt 1 - 1 := by
  unfold ptB
  have e1 : (1 : Int64).toInt = 1 := by decide
  split
  · rename_i h
    rw [Int64.lt_iff_toInt_lt, e1] at h
    rw [l_sub (by omega) (by omega), e1]
    omega
  · rename_i h
    rw [Int64.lt_iff_toInt_lt, e1] at h
    rw [l_sub (by omega) (by omega), e1]
    omega
theorem ptE_in {B D : Int64} {n : Nat} (hn : n ≤ 24) (h1 : -1000000000000000 ≤ B.toInt) (h2 : B.toInt ≤ 1000000000000000) (h3 : -1000000000000000 ≤ D.toInt) (h4 : D.toInt ≤ 1000000000000000) : (ptE B D n).toInt = min (n : Int) (B.toInt - 1 + D.toInt) := by
  unfold ptE
  have e1 : (1 : Int64).toInt = 1 := by decide
  have e2 : (nI n).toInt64.toInt = n := by rw [nI_l (by omega), lN_toInt (by omega)]
  have e3 : (B - 1 + D).toInt = B.toInt - 1 + D.toInt := by
    have : (B - 1).toInt = B.toInt - 1 := by rw [l_sub (by omega) (by omega), e1]
    rw [l_add (by omega) (by omega), this]
  split
  · rename_i h
    rw [Int64.lt_iff_toInt_lt, e2, e3] at h
    omega
  · rename_i h
    rw [Int64.lt_iff_toInt_lt, e2, e3] at h
    omega
theorem xT_part {E : cEnv} (hE : cOk E) (g : cG) (i a b d n : Nat) (hai : a ≠ i) (hn : n ≤ 24) (ha : (g.1 a).2.2.2 = nI n) (hbw : (g.1 b).1 = 2 → -1000000000000000 ≤ (g.1 b).2.1.toInt ∧ (g.1 b).2.1.toInt ≤ 1000000000000000) (hdw : (g.1 d).1 = 2 → -1000000000000000 ≤ (g.1 d).2.1.toInt ∧ (g.1 d).2.1.toInt ≤ 1000000000000000) : cSd E mT_part [qR 1 i, qR 1 a, qR 1 b, qR 1 d] g none (if ¬ (g.1 b).1 = 2 ∨ ¬ (g.1 d).1 = 2 then seS g i else ptS g i a n (g.1 b).2.1 (g.1 d).2.1) := by
  refine qm_meth hE (by decide) rfl rfl (Nat.le_of_ble_eq_true rfl) ?_
  intro p e st mm args below meth c Q C _ _
  by_cases h1 : (g.1 b).1 = 2
  · by_cases h2 : (g.1 d).1 = 2
    · rw [if_neg (fun q => q.elim (fun z => z h1) (fun z => z h2))] at C
      obtain ⟨b1, b2⟩ := hbw h1
      obtain ⟨d1, d2⟩ := hdw h2
      have eB := ptB_in b1 b2
      have eE := ptE_in hn b1 b2 d1 d2
      have hst := xV_startText hE g i (g.1 a).2.2.1
      unfold ptS at C
      by_cases h3 : ptE (g.1 b).2.1 (g.1 d).2.1 n ≤ ptB (g.1 b).2.1
      · rw [if_pos h3] at C
        unfold ptE at h3
        rw [← ha] at h3
        exact qm_step (sT_part hE) C 0 9999 100 ([0, 1, 1], [], [(none, _)]) ⟨h1, h2, hst, h3, rfl, rfl⟩
      · rw [if_neg h3] at C
        rw [Int64.le_iff_toInt_le, eB, eE] at h3
        have hB : ptB (g.1 b).2.1 = lN (ptB (g.1 b).2.1).toInt.toNat := l_of (by omega) (by omega)
        have hEe : ptE (g.1 b).2.1 (g.1 d).2.1 n = lN ((ptB (g.1 b).2.1).toInt.toNat + ((ptE (g.1 b).2.1 (g.1 d).2.1 n).toInt.toNat - (ptB (g.1 b).2.1).toInt.toNat)) := l_of (by omega) (by omega)
        have hap := xV_appendPart hE (stS g i (g.1 a).2.2.1) i a (ptB (g.1 b).2.1).toInt.toNat ((ptE (g.1 b).2.1 (g.1 d).2.1 n).toInt.toNat - (ptB (g.1 b).2.1).toInt.toNat) n hai (stS_ok _ _ _) hn (by rw [stS_V _ _ hai]; exact ha) (by omega)
        rw [bsl_of (g := stS g i (g.1 a).2.2.1) (h := g) rfl] at hap
        rw [← lN_i, ← lN_i, ← hB, ← hEe] at hap
        have h3 : ¬ ptE (g.1 b).2.1 (g.1 d).2.1 n ≤ ptB (g.1 b).2.1 := by rw [Int64.le_iff_toInt_le, eB, eE]; exact h3
        unfold ptE at h3 hap C
        rw [← ha] at h3 hap C
        exact qm_step (sT_part hE) C 0 9999 100 ([0, 1, 0], [], [(none, _), (none, _)]) ⟨h1, h2, hst, h3, hap, rfl, rfl⟩
    · rw [if_pos (Or.inr h2)] at C
      exact qm_step (sT_part hE) C 0 9999 100 ([0, 0], [], [(none, _)]) ⟨h1, h2, xV_setError hE g i, rfl, rfl⟩
  · rw [if_pos (Or.inl h1)] at C
    exact qm_step (sT_part hE) C 0 9999 100 ([1], [], [(none, _)]) ⟨h1, xV_setError hE g i, rfl, rfl⟩
-- GREAT, SMALL
def rsF (f d x : Int32) : Int32 := if ¬ x < f ∧ ¬ f + 26 ≤ x then x + d else x
def rsS (g : cG) (i a n : Nat) (f d : Int32) : cG := apN (stS g i (g.1 a).2.2.1) i ((bsl g a 0 n).map (rsF f d))
theorem xT_resize {E : cEnv} (hE : cOk E) (g : cG) (i a n : Nat) (f d : Int32) (hai : a ≠ i) (hn : n ≤ 24) (ha : (g.1 a).2.2.2 = nI n) : cSd E mT_resize [qR 1 i, qR 1 a, qI f, qI d] g none (rsS g i a n f d) := by
  refine qm_meth hE (by decide) rfl rfl (Nat.le_of_ble_eq_true rfl) ?_
  intro p e st mm args below meth c Q C _ _
  have loop : ∀ (m k : Nat) (w : Int32) (x : Option qm_v) (g1 : cG), k + m = n → w = nI k → okT g1 i → g1.1 a = g.1 a → g1.2.1 a = g.2.1 a → apN g1 i ((bsl g a k m).map (rsF f d)) = rsS g i a n f d → qm_W (cLa E.2.2.2.1) cV (cHold E) (cA E.2.2.2.1) 6 p E.1 e (rmL 2) st mm args below meth c Q 11 ([some (qR 1 i), some (qR 1 a), some (qI f), some (qI d), some (qI w), x], [], g1) := by
    intro m
    induction m with
    | zero =>
      intro k w x g1 hk hw _ h1 _ hf
      subst hw
      have hc : (g1.1 a).2.2.2 ≤ nI k := by rw [h1, ha]; exact nI_le (by omega) (by omega)
      exact qm_step (sT_resize hE) C 11 9999 100 ([1], [], []) ⟨hc, rfl, hf⟩
    | succ m ih =>
      intro k w x g1 hk hw ho h1 h2 hf
      subst hw
      have hc : ¬ (g1.1 a).2.2.2 ≤ nI k := by rw [h1, ha]; exact nI_ge (by omega) (by omega)
      have hat := xV_at_yes hE g1 a k n (by omega) hn (by rw [h1]; exact ha)
      have hap := xV_append hE g1 i (rsF f d (g1.2.1 a k)) ho
      have fin : qm_W (cLa E.2.2.2.1) cV (cHold E) (cA E.2.2.2.1) 6 p E.1 e (rmL 2) st mm args below meth c Q 11 ([some (qR 1 i), some (qR 1 a), some (qI f), some (qI d), some (qI (nI k + 1)), some (qI (g1.2.1 a k))], [], apS g1 i (rsF f d (g1.2.1 a k))) := by
        refine ih (k + 1) _ _ _ (by omega) (by rw [nI_1]) (apS_ok ho _) (by rw [apS_V _ _ _ hai]; exact h1) (by rw [apS_B _ _ _ hai]; exact h2) ?_
        rw [← hf, h2]
        rfl
      unfold rsF at hap fin
      by_cases h3 : g1.2.1 a k < f
      · rw [if_neg (fun q => q.1 h3)] at hap fin
        exact qm_step (sT_resize hE) C 11 11 100 ([0, 1], [], [(some (qI (g1.2.1 a k)), g1), (none, _)]) ⟨hc, hat, h3, hap, fin⟩
      · by_cases h4 : f + 26 ≤ g1.2.1 a k
        · rw [if_neg (fun q => q.2 h4)] at hap fin
          exact qm_step (sT_resize hE) C 11 11 100 ([0, 0, 1], [], [(some (qI (g1.2.1 a k)), g1), (none, _)]) ⟨hc, hat, h3, h4, hap, fin⟩
        · rw [if_pos ⟨h3, h4⟩] at hap fin
          exact qm_step (sT_resize hE) C 11 11 100 ([0, 0, 0], [], [(some (qI (g1.2.1 a k)), g1), (none, _)]) ⟨hc, hat, h3, h4, hap, fin⟩
  exact qm_step (sT_resize hE) C 0 11 100 ([], [], [(none, _)]) ⟨xV_startText hE g i (g.1 a).2.2.1, loop n 0 _ _ (stS g i (g.1 a).2.2.1) (by omega) rfl (stS_ok _ _ _) (stS_V _ _ hai) rfl rfl⟩
-- JOINED
def jnS (g : cG) (i a n b k : Nat) : cG := apN (apN (stS g i (if (g.1 a).2.2.1 = (g.1 b).2.2.1 then (g.1 a).2.2.1 else 0)) i (bsl g a 0 n)) i (bsl g b 0 k)
theorem xT_join {E : cEnv} (hE : cOk E) (g : cG) (i a n b k : Nat) (hai : a ≠ i) (hbi : b ≠ i) (hn : n ≤ 24) (hk : k ≤ 24) (ha : (g.1 a).2.2.2 = nI n) (hb : (g.1 b).1 = 3 → (g.1 b).2.2.2 = nI k) : cSd E mT_join [qR 1 i, qR 1 a, qR 1 b] g none (if (g.1 b).1 = 3 then jnS g i a n b k else seS g i) := by
  refine qm_meth hE (by decide) rfl rfl (Nat.le_of_ble_eq_true rfl) ?_
  intro p e st mm args below meth c Q C _ _
  by_cases h1 : (g.1 b).1 = 3
  · rw [if_pos h1] at C
    have hb := hb h1
    have key : ∀ t : Int32, cSd E mV_appendPart [qR 1 i, qR 1 a, qI 0, qI ((stS g i t).1 a).2.2.2] (stS g i t) none (apN (stS g i t) i (bsl g a 0 n)) ∧ cSd E mV_appendPart [qR 1 i, qR 1 b, qI 0, qI ((apN (stS g i t) i (bsl g a 0 n)).1 b).2.2.2] (apN (stS g i t) i (bsl g a 0 n)) none (apN (apN (stS g i t) i (bsl g a 0 n)) i (bsl g b 0 k)) := by
      intro t
      constructor
      · have h := xV_appendPart hE (stS g i t) i a 0 n n hai (stS_ok _ _ _) hn (by rw [stS_V _ _ hai]; exact ha) (by omega)
        rw [Nat.zero_add] at h
        rw [stS_V _ _ hai, ha]
        exact h
      · have hbb : ((apN (stS g i t) i (bsl g a 0 n)).1 b).2.2.2 = nI k := by rw [apN_V i hbi, stS_V _ _ hbi]; exact hb
        have h := xV_appendPart hE (apN (stS g i t) i (bsl g a 0 n)) i b 0 k k hbi (apN_ok _ (stS_ok _ _ _)) hk hbb (by omega)
        rw [Nat.zero_add, bsl_of (g := apN (stS g i t) i (bsl g a 0 n)) (h := g) (by rw [apN_B i hbi]; rfl)] at h
        rw [hbb]
        exact h
    unfold jnS at C
    by_cases h2 : (g.1 a).2.2.1 = (g.1 b).2.2.1
    · rw [if_pos h2] at C
      exact qm_step (sT_join hE) C 0 9999 100 ([1, 0], [], [(none, _), (none, _), (none, _)]) ⟨h1, h2, xV_startText hE g i _, (key _).1, (key _).2, rfl, rfl⟩
    · rw [if_neg h2] at C
      exact qm_step (sT_join hE) C 0 9999 100 ([1, 1], [], [(none, _), (none, _), (none, _)]) ⟨h1, h2, xV_startText hE g i _, (key _).1, (key _).2, rfl, rfl⟩
  · rw [if_neg h1] at C
    exact qm_step (sT_join hE) C 0 9999 100 ([0], [], [(none, _)]) ⟨h1, xV_setError hE g i, rfl, rfl⟩
-- TAG
def tlS (g : cG) (i a : Nat) : cG := if (g.1 a).2.2.1 = 0 then stS g i 0 else apS (stS g i 0) i (96 + (g.1 a).2.2.1)
theorem xT_tagLetter {E : cEnv} (hE : cOk E) (g : cG) (i a : Nat) (hai : a ≠ i) : cSd E mT_tagLetter [qR 1 i, qR 1 a] g none (tlS g i a) := by
  refine qm_meth hE (by decide) rfl rfl (Nat.le_of_ble_eq_true rfl) ?_
  intro p e st mm args below meth c Q C _ _
  unfold tlS at C
  have hv := stS_V g 0 hai
  by_cases h1 : (g.1 a).2.2.1 = 0
  · rw [if_pos h1] at C
    exact qm_step (sT_tagLetter hE) C 0 9999 100 ([1], [], [(none, stS g i 0)]) ⟨xV_startText hE g i 0, by rw [hv]; exact h1, rfl, rfl⟩
  · rw [if_neg h1] at C
    have hap := xV_append hE (stS g i 0) i (96 + ((stS g i 0).1 a).2.2.1) (stS_ok _ _ _)
    rw [hv] at hap
    have hap2 : cSd E mV_append [qR 1 i, qI (96 + ((stS g i 0).1 a).2.2.1)] (stS g i 0) none (apS (stS g i 0) i (96 + (g.1 a).2.2.1)) := by rw [hv]; exact hap
    exact qm_step (sT_tagLetter hE) C 0 9999 100 ([0], [], [(none, stS g i 0), (none, _)]) ⟨xV_startText hE g i 0, by rw [hv]; exact h1, hap2, rfl, rfl⟩
end
section
/-! Texts: split, seek, turn, reckon -/
def spS (op : Int32) (g : cG) (i a n : Nat) (pl : Option Nat) (w : Nat) : cG := match pl with
  | none => stS g i 0
  | some q => if op = 18 then apN (stS g i (g.1 a).2.2.1) i (bsl g a 0 q) else apN (stS g i (g.1 a).2.2.1) i (bsl g a (q + w) (n - (q + w)))
theorem xT_split {E : cEnv} (hE : cOk E) (op : Int32) (g : cG) (i a n : Nat) (pl : Option Nat) (w : Nat) (hai : a ≠ i) (hn : n ≤ 24) (ha : (g.1 a).2.2.2 = nI n) (hp : ∀ q, pl = some q → q + w ≤ n) : cSd E mT_split [qI op, qR 1 i, qR 1 a, qI (fdI pl), qI (nI w)] g none (spS op g i a n pl w) := by
  refine qm_meth hE (by decide) rfl rfl (Nat.le_of_ble_eq_true rfl) ?_
  intro p e st mm args below meth c Q C _ _
  unfold spS at C
  rcases pl with _ | q
  · exact qm_step (sT_split hE) C 0 9999 100 ([0], [], [(none, _)]) ⟨show ¬ (0 : Int32) ≤ -1 by decide, xV_startText hE g i 0, rfl, rfl⟩
  · have hq := hp q rfl
    have h0 : (0 : Int32) ≤ nI q := nI_pos' (by omega)
    by_cases h1 : op = 18
    · have C := by simpa only [if_pos h1] using C
      have h := xV_appendPart hE (stS g i (g.1 a).2.2.1) i a 0 q n hai (stS_ok _ _ _) hn (by rw [stS_V _ _ hai]; exact ha) (by omega)
      rw [Nat.zero_add] at h
      exact qm_step (sT_split hE) C 0 9999 100 ([1, 0], [], [(none, _), (none, _)]) ⟨h0, xV_startText hE g i _, h1, h, rfl, rfl⟩
    · have C := by simpa only [if_neg h1] using C
      have h := xV_appendPart hE (stS g i (g.1 a).2.2.1) i a (q + w) (n - (q + w)) n hai (stS_ok _ _ _) hn (by rw [stS_V _ _ hai]; exact ha) (by omega)
      rw [show q + w + (n - (q + w)) = n by omega, ← nI_add, ← ha] at h
      have h2 : cSd E mV_appendPart [qR 1 i, qR 1 a, qI (nI q + nI w), qI ((stS g i (g.1 a).2.2.1).1 a).2.2.2] (stS g i (g.1 a).2.2.1) none (apN (stS g i (g.1 a).2.2.1) i (bsl g a (q + w) (n - (q + w)))) := by rw [stS_V _ _ hai]; exact h
      exact qm_step (sT_split hE) C 0 9999 100 ([1, 1], [], [(none, _), (none, _)]) ⟨h0, xV_startText hE g i _, h1, h2, rfl, rfl⟩
def sTr (g : cG) (i : Nat) (t : Int32) : cG := uV g i (if t = -1 then 0 else 1, t.toInt64, (g.1 i).2.2)
def fdLt : Option Nat → Int32
  | some _ => 1
  | none => 0
def fdZ : Option Nat → Int32
  | some 0 => 1
  | _ => 0
/-- does a end with b -/
def ndB (g : cG) (a n b k : Nat) : Bool := decide (k ≤ n) && hbA g a (n - k) b k
def skS (op : Int32) (g : cG) (i a n b k : Nat) : cG :=
  if ¬ (g.1 b).1 = 3 ∨ (¬ (g.1 b).2.2.1 = 0 ∧ ¬ (g.1 b).2.2.1 = (g.1 a).2.2.1) then seS g i
  else if op = 15 then sTr g i (fdLt (fdP g a b n k)) else if op = 16 then sTr g i (fdZ (fdP g a b n k))
  else if op = 17 then sTr g i (if ndB g a n b k then 1 else 0) else spS op g i a n (fdP g a b n k) k
theorem fdP_in {g : cG} {i j a b q : Nat} (h : fdP g i j a b = some q) : q + b ≤ a := by
  unfold fdP at h
  have := List.mem_range.mp (List.mem_of_find?_eq_some h)
  omega
theorem xT_seek {E : cEnv} (hE : cOk E) (op : Int32) (g : cG) (i a n b k : Nat) (hai : a ≠ i) (hn : n ≤ 24) (hk : k ≤ 24) (ha : (g.1 a).2.2.2 = nI n) (hb : (g.1 b).1 = 3 → (g.1 b).2.2.2 = nI k) : cSd E mT_seek [qI op, qR 1 i, qR 1 a, qR 1 b] g none (skS op g i a n b k) := by
  refine qm_meth hE (by decide) rfl rfl (Nat.le_of_ble_eq_true rfl) ?_
  intro p e st mm args below meth c Q C _ _
  have t1 := xU_truth hE g 1
  have t0 := xU_truth hE g 0
  rw [show tB 1 = 1 from by decide] at t1
  rw [show tB 0 = 0 from by decide] at t0
  unfold skS at C
  by_cases h1 : (g.1 b).1 = 3
  · have hb := hb h1
    by_cases hbad : ¬ (g.1 b).2.2.1 = 0 ∧ ¬ (g.1 b).2.2.1 = (g.1 a).2.2.1
    · rw [if_pos (Or.inr hbad)] at C
      exact qm_step (sT_seek hE) C 0 9999 100 ([0, 0, 0], [], [(none, _)]) ⟨h1, hbad.1, hbad.2, xV_setError hE g i, rfl, rfl⟩
    · rw [if_neg (fun q => q.elim (fun z => z h1) hbad)] at C
      have hf := xV_find hE g a b n k ha hb hn hk
      -- from 31 on, the same for both ways there
      have rest : ∀ x : Option qm_v, qm_W (cLa E.2.2.2.1) cV (cHold E) (cA E.2.2.2.1) 5 p E.1 e (rmL 4) st mm args below meth c Q 31 ([some (qI op), some (qR 1 i), some (qR 1 a), some (qR 1 b), x], [], g) := by
        intro x
        by_cases h15 : op = 15
        · rw [if_pos h15] at C
          rcases hq : fdP g a b n k with _ | q
          · rw [hq] at C hf
            exact qm_step (sT_seek hE) C 31 9999 100 ([1, 1], [], [(_, g), (some (qI 0), g), (none, _)]) ⟨hf, h15, show (-1 : Int32) < 0 by decide, t0, xV_setTruth hE g i 0, rfl, rfl⟩
          · rw [hq] at C hf
            exact qm_step (sT_seek hE) C 31 9999 100 ([1, 0], [], [(_, g), (some (qI 1), g), (none, _)]) ⟨hf, h15, show ¬ nI q < 0 from nI_pos (by have := fdP_in hq; omega), t1, xV_setTruth hE g i 1, rfl, rfl⟩
        rw [if_neg h15] at C
        by_cases h16 : op = 16
        · rw [if_pos h16] at C
          rcases hq : fdP g a b n k with _ | _ | q
          · rw [hq] at C hf
            exact qm_step (sT_seek hE) C 31 9999 100 ([2, 1], [], [(_, g), (some (qI 0), g), (none, _)]) ⟨hf, h16, show ¬ (-1 : Int32) = 0 by decide, t0, xV_setTruth hE g i 0, rfl, rfl⟩
          · rw [hq] at C hf
            exact qm_step (sT_seek hE) C 31 9999 100 ([2, 0], [], [(_, g), (some (qI 1), g), (none, _)]) ⟨hf, h16, show nI 0 = 0 from rfl, t1, xV_setTruth hE g i 1, rfl, rfl⟩
          · rw [hq] at C hf
            exact qm_step (sT_seek hE) C 31 9999 100 ([2, 1], [], [(_, g), (some (qI 0), g), (none, _)]) ⟨hf, h16, show ¬ nI (q + 1) = 0 from nI_ne0 (by omega) (by have := fdP_in hq; omega), t0, xV_setTruth hE g i 0, rfl, rfl⟩
        rw [if_neg h16] at C
        by_cases h17 : op = 17
        · rw [if_pos h17] at C
          unfold ndB at C
          by_cases hkn : k ≤ n
          · have hh := xV_hasAt_in hE g a b (n - k) n k ha hb hn (by omega)
            rw [← pk_sub hkn, ← ha, ← hb] at hh
            by_cases hx : hbA g a (n - k) b k = true
            · rw [if_pos hx] at hh
              rw [if_pos (by simp [hkn, hx])] at C
              exact qm_step (sT_seek hE) C 31 9999 100 ([3], [], [(_, g), (some (qI 1), g), (some (qI 1), g), (none, _)]) ⟨hf, h17, hh, t1, xV_setTruth hE g i 1, rfl, rfl⟩
            · rw [if_neg hx] at hh
              rw [if_neg (by simp [hkn, hx])] at C
              exact qm_step (sT_seek hE) C 31 9999 100 ([3], [], [(_, g), (some (qI 0), g), (some (qI 0), g), (none, _)]) ⟨hf, h17, hh, t0, xV_setTruth hE g i 0, rfl, rfl⟩
          · have hneg : (g.1 a).2.2.2 - (g.1 b).2.2.2 < 0 := by rw [ha, hb]; exact pk_sneg (by omega) (by omega)
            have hh := xV_hasAt_neg hE g a b _ hneg
            rw [if_neg (by simp [hkn])] at C
            exact qm_step (sT_seek hE) C 31 9999 100 ([3], [], [(_, g), (some (qI 0), g), (some (qI 0), g), (none, _)]) ⟨hf, h17, hh, t0, xV_setTruth hE g i 0, rfl, rfl⟩
        rw [if_neg h17] at C
        have hdf : ∀ q ∈ ([(15, 64), (16, 84), (17, 104)] : List (Int32 × Nat)), ¬ op = q.1 := by
          intro q hq
          simp only [List.mem_cons, List.mem_nil_iff, or_false] at hq
          rcases hq with rfl | rfl | rfl
          · exact h15
          · exact h16
          · exact h17
        have hs := xT_split hE op g i a n (fdP g a b n k) k hai hn ha (fun q hq => fdP_in hq)
        rw [← hb] at hs
        exact qm_step (sT_seek hE) C 31 9999 100 ([0], [], [(_, g), (none, _)]) ⟨hf, hdf, hs, rfl, rfl⟩
      by_cases h2 : (g.1 b).2.2.1 = 0
      · exact qm_step (sT_seek hE) C 0 31 100 ([0, 1], [], []) ⟨h1, h2, rest _⟩
      · have h3 : (g.1 b).2.2.1 = (g.1 a).2.2.1 := Classical.not_not.mp fun q => hbad ⟨h2, q⟩
        exact qm_step (sT_seek hE) C 0 31 100 ([0, 0, 1], [], []) ⟨h1, h2, h3, rest _⟩
  · rw [if_pos (Or.inl h1)] at C
    exact qm_step (sT_seek hE) C 0 9999 100 ([1], [], [(none, _)]) ⟨h1, xV_setError hE g i, rfl, rfl⟩
-- TURNED
def hbQ (g : cG) (a n q b k : Nat) : Bool := decide (q + k ≤ n) && hbA g a q b k
def trL (g : cG) (a n b k d m : Nat) : Nat → Nat → Nat → List Int32
  | 0, _, _ => []
  | r + 1, q, be => if q < be then trL g a n b k d m r (q + 1) be else if hbQ g a n q b k = true then bsl g d 0 m ++ trL g a n b k d m r (q + 1) (q + k) else g.2.1 a q :: trL g a n b k d m r (q + 1) be
theorem trL_s (g : cG) (a n b k d m r q be : Nat) : trL g a n b k d m (r + 1) q be = if q < be then trL g a n b k d m r (q + 1) be else if hbQ g a n q b k = true then bsl g d 0 m ++ trL g a n b k d m r (q + 1) (q + k) else g.2.1 a q :: trL g a n b k d m r (q + 1) be := rfl
theorem xV_hasAt_Q {E : cEnv} (hE : cOk E) (g : cG) (i j q a b : Nat) (ha : (g.1 i).2.2.2 = nI a) (hb : (g.1 j).2.2.2 = nI b) (ha2 : a ≤ 24) (hb2 : b ≤ 24) (hq : q ≤ 24) : cSd E mV_hasAt [qR 1 i, qI (nI q), qR 1 j] g (some (qI (if hbQ g i a q j b then 1 else 0))) g := by
  unfold hbQ
  by_cases h : q + b ≤ a
  · have := xV_hasAt_in hE g i j q a b ha hb ha2 h
    simpa [h] using this
  · have := xV_hasAt_over hE g i j q a b ha hb ha2 hb2 hq (by omega)
    simpa [h] using this
theorem hbQ_of {g h : cG} {a b : Nat} (e1 : g.2.1 a = h.2.1 a) (e2 : g.2.1 b = h.2.1 b) (n q k : Nat) : hbQ g a n q b k = hbQ h a n q b k := by unfold hbQ hbA; rw [e1, e2]
def tuS (g : cG) (i a n b k d m : Nat) : cG :=
  if ¬ ((g.1 b).1 = 3 ∧ (g.1 b).2.2.1 = 0) ∨ ¬ ((g.1 d).1 = 3 ∧ (g.1 d).2.2.1 = 0) ∨ k = 0 then seS g i
  else apN (stS g i (g.1 a).2.2.1) i (trL g a n b k d m n 0 0)
set_option maxHeartbeats 200000 in
theorem xT_turn {E : cEnv} (hE : cOk E) (g : cG) (i a n b k d m : Nat) (hai : a ≠ i) (hbi : b ≠ i) (hdi : d ≠ i) (hn : n ≤ 24) (hk : k ≤ 24) (hm : m ≤ 24) (ha : (g.1 a).2.2.2 = nI n) (hb : (g.1 b).1 = 3 → (g.1 b).2.2.2 = nI k) (hd : (g.1 d).1 = 3 → (g.1 d).2.2.2 = nI m) : cSd E mT_turn [qR 1 i, qR 1 a, qR 1 b, qR 1 d] g none (tuS g i a n b k d m) := by
  refine qm_meth hE (by decide) rfl rfl (Nat.le_of_ble_eq_true rfl) ?_
  intro p e st mm args below meth c Q C _ _
  have p1 := xT_isPlain hE g b
  have p2 := xT_isPlain hE g d
  unfold tuS at C
  by_cases h1 : (g.1 b).1 = 3 ∧ (g.1 b).2.2.1 = 0
  · rw [if_pos h1] at p1
    by_cases h2 : (g.1 d).1 = 3 ∧ (g.1 d).2.2.1 = 0
    · rw [if_pos h2] at p2
      have hb := hb h1.1
      have hd := hd h2.1
      by_cases h3 : k = 0
      · rw [if_pos (Or.inr (Or.inr h3))] at C
        exact qm_step (sT_turn hE) C 0 9999 100 ([0, 0, 0], [], [(_, g), (_, g), (none, _)]) ⟨p1, by decide, p2, by decide, by rw [hb, h3]; rfl, xV_setError hE g i, rfl, rfl⟩
      · rw [if_neg (fun q => q.elim (fun z => z h1) (fun z => z.elim (fun y => y h2) h3))] at C
        have loop : ∀ (r q be : Nat) (w z : Int32) (g1 : cG), q + r = n → be ≤ 48 → w = nI q → z = nI be → okT g1 i → (∀ j, j ≠ i → g1.1 j = g.1 j) → (∀ j, j ≠ i → g1.2.1 j = g.2.1 j) → apN g1 i (trL g a n b k d m r q be) = apN (stS g i (g.1 a).2.2.1) i (trL g a n b k d m n 0 0) → qm_W (cLa E.2.2.2.1) cV (cHold E) (cA E.2.2.2.1) 6 p E.1 e (rmL 3) st mm args below meth c Q 40 ([some (qR 1 i), some (qR 1 a), some (qR 1 b), some (qR 1 d), some (qI z), some (qI w)], [], g1) := by
          intro r
          induction r with
          | zero =>
            intro q be w z g1 hq _ hw hz _ v1 _ hf
            subst hw hz
            have hc : (g1.1 a).2.2.2 ≤ nI q := by rw [v1 a hai, ha]; exact nI_le (by omega) (by omega)
            exact qm_step (sT_turn hE) C 40 9999 100 ([1], [], []) ⟨hc, rfl, hf⟩
          | succ r ih =>
            intro q be w z g1 hq hbe hw hz ho v1 v2 hf
            subst hw hz
            have hc : ¬ (g1.1 a).2.2.2 ≤ nI q := by rw [v1 a hai, ha]; exact nI_ge (by omega) (by omega)
            rw [trL_s] at hf
            by_cases h4 : q < be
            · rw [if_pos h4] at hf
              have hc2 : ¬ nI be ≤ nI q := nI_ge h4 (by omega)
              exact qm_step (sT_turn hE) C 40 40 100 ([0, 0], [], []) ⟨hc, hc2, ih (q + 1) be _ _ g1 (by omega) hbe (by rw [nI_1]) rfl ho v1 v2 hf⟩
            · rw [if_neg h4] at hf
              have hc2 : nI be ≤ nI q := nI_le (by omega) (by omega)
              have hh := xV_hasAt_Q hE g1 a b q n k (by rw [v1 a hai]; exact ha) (by rw [v1 b hbi]; exact hb) hn hk (by omega)
              rw [hbQ_of (v2 a hai) (v2 b hbi)] at hh
              by_cases h5 : hbQ g a n q b k = true
              · rw [if_pos h5] at hf hh
                have hap := xV_appendPart hE g1 i d 0 m m hdi ho hm (by rw [v1 d hdi]; exact hd) (by omega)
                rw [Nat.zero_add, bsl_of (v2 d hdi)] at hap
                have hap2 : cSd E mV_appendPart [qR 1 i, qR 1 d, qI 0, qI (g1.1 d).2.2.2] g1 none (apN g1 i (bsl g d 0 m)) := by rw [v1 d hdi, hd]; exact hap
                have hz2 : nI q + ((apN g1 i (bsl g d 0 m)).1 b).2.2.2 = nI (q + k) := by rw [apN_V i hbi, v1 b hbi, hb, nI_add]
                have w1 : ∀ j, j ≠ i → (apN g1 i (bsl g d 0 m)).1 j = g.1 j := fun j hj => (apN_V i hj _ _).trans (v1 j hj)
                have w2 : ∀ j, j ≠ i → (apN g1 i (bsl g d 0 m)).2.1 j = g.2.1 j := fun j hj => (apN_B i hj _ _).trans (v2 j hj)
                rw [apN_app] at hf
                have fin : qm_W (cLa E.2.2.2.1) cV (cHold E) (cA E.2.2.2.1) 6 p E.1 e (rmL 3) st mm args below meth c Q 40 ([some (qR 1 i), some (qR 1 a), some (qR 1 b), some (qR 1 d), some (qI (nI q + ((apN g1 i (bsl g d 0 m)).1 b).2.2.2)), some (qI (nI q + 1))], [], apN g1 i (bsl g d 0 m)) := ih (q + 1) (q + k) _ _ _ (by omega) (by omega) (nI_1 q) hz2 (apN_ok _ ho) w1 w2 hf
                exact qm_step (sT_turn hE) C 40 40 100 ([0, 1, 0], [], [(some (qI 1), g1), (none, apN g1 i (bsl g d 0 m))]) ⟨hc, hc2, hh, by decide, hap2, fin⟩
              · rw [if_neg h5] at hf hh
                have hat := xV_at_yes hE g1 a q n (by omega) hn (by rw [v1 a hai]; exact ha)
                have hap := xV_append hE g1 i (g1.2.1 a q) ho
                have w1 : ∀ j, j ≠ i → (apS g1 i (g1.2.1 a q)).1 j = g.1 j := fun j hj => (apS_V _ _ _ hj).trans (v1 j hj)
                have w2 : ∀ j, j ≠ i → (apS g1 i (g1.2.1 a q)).2.1 j = g.2.1 j := fun j hj => (apS_B _ _ _ hj).trans (v2 j hj)
                have hf2 : apN (apS g1 i (g1.2.1 a q)) i (trL g a n b k d m r (q + 1) be) = apN (stS g i (g.1 a).2.2.1) i (trL g a n b k d m n 0 0) := by rw [← hf, v2 a hai]; rfl
                have fin : qm_W (cLa E.2.2.2.1) cV (cHold E) (cA E.2.2.2.1) 6 p E.1 e (rmL 3) st mm args below meth c Q 40 ([some (qR 1 i), some (qR 1 a), some (qR 1 b), some (qR 1 d), some (qI (nI be)), some (qI (nI q + 1))], [], apS g1 i (g1.2.1 a q)) := ih (q + 1) be _ _ _ (by omega) hbe (nI_1 q) rfl (apS_ok ho _) w1 w2 hf2
                exact qm_step (sT_turn hE) C 40 40 100 ([0, 1, 1], [], [(some (qI 0), g1), (some (qI (g1.2.1 a q)), g1), (none, apS g1 i (g1.2.1 a q))]) ⟨hc, hc2, hh, rfl, hat, hap, fin⟩
        exact qm_step (sT_turn hE) C 0 40 100 ([0, 0, 1], [], [(_, g), (_, g), (none, _)]) ⟨p1, by decide, p2, by decide, by rw [hb]; exact nI_ne0 (by omega) (by omega), xV_startText hE g i _, loop n 0 0 _ _ (stS g i (g.1 a).2.2.1) (by omega) (by omega) rfl rfl (stS_ok _ _ _) (fun j hj => stS_V _ _ hj) (fun j _ => rfl) rfl⟩
    · rw [if_neg h2] at p2
      rw [if_pos (Or.inr (Or.inl h2))] at C
      exact qm_step (sT_turn hE) C 0 9999 100 ([0, 1], [], [(_, g), (_, g), (none, _)]) ⟨p1, by decide, p2, rfl, xV_setError hE g i, rfl, rfl⟩
  · rw [if_neg h1] at p1
    rw [if_pos (Or.inl h1)] at C
    exact qm_step (sT_turn hE) C 0 9999 100 ([1], [], [(_, g), (none, _)]) ⟨p1, rfl, xV_setError hE g i, rfl, rfl⟩
end
section
/-! Texts.reckon, digits, Casts -/
/-- what a TEXT operation writes into value i; n, k, m: the lengths of a, b, d -/
def txS (op : Int32) (g : cG) (i a n b k d m : Nat) : cG :=
  if ¬ (g.1 a).1 = 3 then seS g i
  else if op = 10 then swS g i (g.1 a).2.2.2.toInt64
  else if op = 11 then (if ¬ (g.1 b).1 = 2 ∨ ¬ (g.1 d).1 = 2 then seS g i else ptS g i a n (g.1 b).2.1 (g.1 d).2.1)
  else if op = 12 then rsS g i a n 97 (-32) else if op = 13 then rsS g i a n 65 32
  else if op = 14 then (if (g.1 b).1 = 3 then jnS g i a n b k else seS g i)
  else if op = 20 then tlS g i a else if op = 28 then tuS g i a n b k d m else skS op g i a n b k
theorem xT_reckon {E : cEnv} (hE : cOk E) (hX : qm_Nx E) (op : Int32) (g : cG) (i a n b k d m : Nat) (hai : a ≠ i) (hbi : b ≠ i) (hdi : d ≠ i) (hn : n ≤ 24) (hk : k ≤ 24) (hm : m ≤ 24) (ha : (g.1 a).1 = 3 → (g.1 a).2.2.2 = nI n) (hb : (g.1 b).1 = 3 → (g.1 b).2.2.2 = nI k) (hd : (g.1 d).1 = 3 → (g.1 d).2.2.2 = nI m) (hbw : (g.1 b).1 = 2 → -1000000000000000 ≤ (g.1 b).2.1.toInt ∧ (g.1 b).2.1.toInt ≤ 1000000000000000) (hdw : (g.1 d).1 = 2 → -1000000000000000 ≤ (g.1 d).2.1.toInt ∧ (g.1 d).2.1.toInt ≤ 1000000000000000) : cSd E mT_reckon [qI op, qR 1 i, qR 1 a, qR 1 b, qR 1 d] g none (txS op g i a n b k d m) := by
  refine qm_meth hE (by decide) rfl rfl (Nat.le_of_ble_eq_true rfl) ?_
  intro p e st mm args below meth c Q C _ _
  unfold txS at C
  by_cases h0 : (g.1 a).1 = 3
  · rw [if_neg (fun q => q h0)] at C
    have ha := ha h0
    by_cases h1 : op = 10
    · rw [if_pos h1] at C
      exact qm_step (sT_reckon hE) C 0 9999 100 ([1, 1], [], [(none, _)]) ⟨h0, h1, xV_setW hE hX g i _, rfl, rfl⟩
    rw [if_neg h1] at C
    by_cases h2 : op = 11
    · rw [if_pos h2] at C
      exact qm_step (sT_reckon hE) C 0 9999 100 ([1, 2], [], [(none, _)]) ⟨h0, h2, xT_part hE g i a b d n hai hn ha hbw hdw, rfl, rfl⟩
    rw [if_neg h2] at C
    by_cases h3 : op = 12
    · rw [if_pos h3] at C
      exact qm_step (sT_reckon hE) C 0 9999 100 ([1, 3], [], [(none, _)]) ⟨h0, h3, xT_resize hE g i a n 97 (-32) hai hn ha, rfl, rfl⟩
    rw [if_neg h3] at C
    by_cases h4 : op = 13
    · rw [if_pos h4] at C
      exact qm_step (sT_reckon hE) C 0 9999 100 ([1, 4], [], [(none, _)]) ⟨h0, h4, xT_resize hE g i a n 65 32 hai hn ha, rfl, rfl⟩
    rw [if_neg h4] at C
    by_cases h5 : op = 14
    · rw [if_pos h5] at C
      exact qm_step (sT_reckon hE) C 0 9999 100 ([1, 5], [], [(none, _)]) ⟨h0, h5, xT_join hE g i a n b k hai hbi hn hk ha hb, rfl, rfl⟩
    rw [if_neg h5] at C
    by_cases h6 : op = 20
    · rw [if_pos h6] at C
      exact qm_step (sT_reckon hE) C 0 9999 100 ([1, 6], [], [(none, _)]) ⟨h0, h6, xT_tagLetter hE g i a hai, rfl, rfl⟩
    rw [if_neg h6] at C
    by_cases h7 : op = 28
    · rw [if_pos h7] at C
      exact qm_step (sT_reckon hE) C 0 9999 100 ([1, 7], [], [(none, _)]) ⟨h0, h7, xT_turn hE g i a n b k d m hai hbi hdi hn hk hm ha hb hd, rfl, rfl⟩
    rw [if_neg h7] at C
    have hdf : ∀ q ∈ ([(10, 104), (11, 116), (12, 127), (13, 139), (14, 151), (20, 160), (28, 168)] : List (Int32 × Nat)), ¬ op = q.1 := by
      intro q hq
      simp only [List.mem_cons, List.mem_nil_iff, or_false] at hq
      rcases hq with rfl | rfl | rfl | rfl | rfl | rfl | rfl
      · exact h1
      · exact h2
      · exact h3
      · exact h4
      · exact h5
      · exact h6
      · exact h7
    exact qm_step (sT_reckon hE) C 0 9999 100 ([1, 0], [], [(none, _)]) ⟨h0, hdf, xT_seek hE op g i a n b k hai hn hk ha hb, rfl, rfl⟩
  · rw [if_pos h0] at C
    exact qm_step (sT_reckon hE) C 0 9999 100 ([0], [], [(none, _)]) ⟨h0, xV_setError hE g i, rfl, rfl⟩
-- digits
def dU : Nat → Int64 → Int64 → Int64
  | 0, _, u => u
  | k + 1, v, u => if v / u < 10 then u else dU k v (u * 10)
def dL : Nat → Int64 → Int64 → List Int32
  | 0, _, _ => []
  | k + 1, v, u => if u ≤ 0 then [] else (48 + (v / u - v / u / 10 * 10).toInt32) :: dL k v (u / 10)
theorem dU_s (k : Nat) (v u : Int64) : dU (k + 1) v u = if v / u < 10 then u else dU k v (u * 10) := rfl
theorem dL_s (k : Nat) (v u : Int64) : dL (k + 1) v u = if u ≤ 0 then [] else (48 + (v / u - v / u / 10 * 10).toInt32) :: dL k v (u / 10) := rfl
theorem ten_ne : ∀ k, k < 16 → ¬ lN (10 ^ k) = 0 := by decide +kernel
def dgL (v : Int64) : List Int32 := dL 16 v (dU 15 v 1)
set_option maxHeartbeats 200000 in
theorem xV_appendDigits {E : cEnv} (hE : cOk E) (g : cG) (i : Nat) (v : Int64) (h : okT g i) : cSd E mV_appendDigits [qR 1 i, qL v] g none (apN g i (dgL v)) := by
  refine qm_meth hE (by decide) rfl rfl (Nat.le_of_ble_eq_true rfl) ?_
  intro p e st mm args below meth c Q C _ _
  have loop2 : ∀ (r k : Nat) (w : Int32) (u : Int64) (g1 : cG), k + r = 16 → w = nI k → okT g1 i → apN g1 i (dL r v u) = apN g i (dgL v) → qm_W (cLa E.2.2.2.1) cV (cHold E) (cA E.2.2.2.1) 6 p E.1 e (rmL 2) st mm args below meth c Q 37 ([some (qR 1 i), some (qL v), none, some (qL u), none, some (qI w)], [], g1) := by
    intro r
    induction r with
    | zero =>
      intro k w u g1 hk hw _ hf
      subst hw
      have hc : (16 : Int32) ≤ nI k := nI_le (a := 16) (by omega) (by omega)
      exact qm_step (sV_appendDigits hE) C 37 9999 100 ([1], [], []) ⟨hc, rfl, hf⟩
    | succ r ih =>
      intro k w u g1 hk hw ho hf
      subst hw
      have hc : ¬ (16 : Int32) ≤ nI k := nI_ge (b := 16) (by omega) (by decide)
      rw [dL_s] at hf
      by_cases hu : u ≤ 0
      · rw [if_pos hu] at hf
        exact qm_step (sV_appendDigits hE) C 37 9999 100 ([0, 1], [], []) ⟨hc, hu, rfl, hf⟩
      · rw [if_neg hu] at hf
        have hu0 : ¬ u = 0 := fun q => hu (by rw [q]; decide)
        have hap := xV_append hE g1 i (48 + (v / u - v / u / 10 * 10).toInt32) ho
        have fin : qm_W (cLa E.2.2.2.1) cV (cHold E) (cA E.2.2.2.1) 6 p E.1 e (rmL 2) st mm args below meth c Q 37 ([some (qR 1 i), some (qL v), none, some (qL (u / 10)), none, some (qI (nI k + 1))], [], apS g1 i (48 + (v / u - v / u / 10 * 10).toInt32)) := ih (k + 1) _ _ _ (by omega) (nI_1 k) (apS_ok ho _) hf
        exact qm_step (sV_appendDigits hE) C 37 37 100 ([0, 0], [], [(none, _)]) ⟨hc, hu, hu0, by decide, hap, by decide, fin⟩
  have loop1 : ∀ (r k : Nat) (w : Int32) (u : Int64), k + r = 15 → w = nI k → u = lN (10 ^ k) → dU r v u = dU 15 v 1 → qm_W (cLa E.2.2.2.1) cV (cHold E) (cA E.2.2.2.1) 6 p E.1 e (rmL 2) st mm args below meth c Q 5 ([some (qR 1 i), some (qL v), none, some (qL u), none, some (qI w)], [], g) := by
    intro r
    induction r with
    | zero =>
      intro k w u hk hw hu hf
      subst hw
      have hc : (15 : Int32) ≤ nI k := nI_le (a := 15) (by omega) (by omega)
      have hf : u = dU 15 v 1 := hf
      exact qm_step (sV_appendDigits hE) C 5 37 100 ([1], [], []) ⟨hc, loop2 16 0 _ _ g (by omega) rfl h (by rw [hf]; rfl)⟩
    | succ r ih =>
      intro k w u hk hw hu hf
      subst hw
      have hc : ¬ (15 : Int32) ≤ nI k := nI_ge (b := 15) (by omega) (by decide)
      have hu0 : ¬ u = 0 := by rw [hu]; exact ten_ne k (by omega)
      rw [dU_s] at hf
      by_cases hd : v / u < 10
      · rw [if_pos hd] at hf
        exact qm_step (sV_appendDigits hE) C 5 37 100 ([0, 1], [], []) ⟨hc, hu0, hd, loop2 16 0 _ _ g (by omega) rfl h (by rw [hf]; rfl)⟩
      · rw [if_neg hd] at hf
        have hu2 : u * 10 = lN (10 ^ (k + 1)) := by rw [hu, show (10 : Int64) = lN 10 from by decide, lN_mul, Nat.pow_succ]
        exact qm_step (sV_appendDigits hE) C 5 5 100 ([0, 0], [], []) ⟨hc, hu0, hd, ih (k + 1) _ _ (by omega) (nI_1 k) hu2 hf⟩
  exact qm_step (sV_appendDigits hE) C 0 5 100 ([], [], []) (loop1 15 0 _ _ (by omega) rfl (by decide) rfl)
-- Casts
def chS (g : cG) (i : Nat) (t : Int32) (b k d m : Nat) : cG := if t = -1 then seS g i else if t = 1 then cpS g i b k else cpS g i d m
theorem xC_choose {E : cEnv} (hE : cOk E) (g : cG) (i : Nat) (t : Int32) (b k d m : Nat) (hbi : b ≠ i) (hdi : d ≠ i) (hk : k ≤ 24) (hm : m ≤ 24) (hb : (g.1 b).1 = 3 → (g.1 b).2.2.2 = nI k) (hd : (g.1 d).1 = 3 → (g.1 d).2.2.2 = nI m) : cSd E mC_choose [qR 1 i, qI t, qR 1 b, qR 1 d] g none (chS g i t b k d m) := by
  refine qm_meth hE (by decide) rfl rfl (Nat.le_of_ble_eq_true rfl) ?_
  intro p e st mm args below meth c Q C _ _
  unfold chS at C
  by_cases h1 : t = -1
  · rw [if_pos h1] at C
    exact qm_step (sC_choose hE) C 0 9999 100 ([0], [], [(none, _)]) ⟨h1, xV_setError hE g i, rfl, rfl⟩
  rw [if_neg h1] at C
  by_cases h2 : t = 1
  · rw [if_pos h2] at C
    exact qm_step (sC_choose hE) C 0 9999 100 ([1, 0], [], [(none, _)]) ⟨h1, h2, xV_copy hE g i b k hbi hk hb, rfl, rfl⟩
  · rw [if_neg h2] at C
    exact qm_step (sC_choose hE) C 0 9999 100 ([1, 1], [], [(none, _)]) ⟨h1, h2, xV_copy hE g i d m hdi hm hd, rfl, rfl⟩
/-- digits read: sound, and the number -/
def rdF (f : Nat → Int32) : Nat → Nat → Int32 → Int64 → Int32 × Int64
  | 0, _, s, v => (s, v)
  | m + 1, k, s, v => if s = 0 then (s, v) else rdF f m (k + 1) (if ¬ f k < 48 ∧ ¬ 57 < f k then 1 else 0) (v * 10 + (f k).toInt64 - 48)
theorem rdF_s (f : Nat → Int32) (m k : Nat) (s : Int32) (v : Int64) : rdF f (m + 1) k s v = if s = 0 then (s, v) else rdF f m (k + 1) (if ¬ f k < 48 ∧ ¬ 57 < f k then 1 else 0) (v * 10 + (f k).toInt64 - 48) := rfl
def rdE (g : cG) (i : Nat) (be : Int32) (x : Int32 × Int64) : cG := if x.1 = 0 then seS g i else if be = 0 then swS g i x.2 else swS g i (-x.2)
def rdS (g : cG) (i a n : Nat) : cG := if atV g a n 0 = 45 then rdE g i 1 (rdF (g.2.1 a) (n - 1) 1 (if ¬ nI n - 1 < 1 ∧ ¬ 15 < nI n - 1 then 1 else 0) 0) else rdE g i 0 (rdF (g.2.1 a) n 0 (if ¬ nI n - 0 < 1 ∧ ¬ 15 < nI n - 0 then 1 else 0) 0)
set_option maxHeartbeats 400000 in
theorem xC_readDigits {E : cEnv} (hE : cOk E) (hX : qm_Nx E) (g : cG) (i a n : Nat) (hn : n ≤ 24) (ha : (g.1 a).2.2.2 = nI n) : cSd E mC_readDigits [qR 1 i, qR 1 a] g none (rdS g i a n) := by
  refine qm_meth hE (by decide) rfl rfl (Nat.le_of_ble_eq_true rfl) ?_
  intro p e st mm args below meth c Q C _ _
  have loop : ∀ (be : Int32) (r k : Nat) (w s x4 x3 : Int32) (v : Int64), be = 0 ∨ be = 1 → k + r = n → w = nI k → s = 0 ∨ s = 1 → rdE g i be (rdF (g.2.1 a) r k s v) = rdS g i a n → qm_W (cLa E.2.2.2.1) cV (cHold E) (cA E.2.2.2.1) 9 p E.1 e (rmL 3) st mm args below meth c Q 60 ([some (qR 1 i), some (qR 1 a), some (qI be), some (qI x3), some (qI x4), some (qI s), some (qL v), none, some (qI w)], [], g) := by
    intro be r
    have ends : ∀ (w s x4 x3 : Int32) (v : Int64), be = 0 ∨ be = 1 → rdE g i be (s, v) = rdS g i a n → qm_W (cLa E.2.2.2.1) cV (cHold E) (cA E.2.2.2.1) 9 p E.1 e (rmL 3) st mm args below meth c Q 129 ([some (qR 1 i), some (qR 1 a), some (qI be), some (qI x3), some (qI x4), some (qI s), some (qL v), none, some (qI w)], [], g) := by
      intro w s x4 x3 v hbe hf
      unfold rdE at hf
      by_cases hs : s = 0
      · rw [if_pos hs] at hf
        exact qm_step (sC_readDigits hE) C 129 9999 100 ([1], [], [(none, _)]) ⟨hs, xV_setError hE g i, rfl, hf⟩
      · rw [if_neg hs] at hf
        by_cases hb : be = 0
        · rw [if_pos hb] at hf
          exact qm_step (sC_readDigits hE) C 129 9999 100 ([0, 1], [], [(none, _)]) ⟨hs, hb, xV_setW hE hX g i v, rfl, hf⟩
        · rw [if_neg hb] at hf
          exact qm_step (sC_readDigits hE) C 129 9999 100 ([0, 0], [], [(none, _)]) ⟨hs, hb, xV_setW hE hX g i (-v), rfl, hf⟩
    induction r with
    | zero =>
      intro k w s x4 x3 v hbe hk hw hs hf
      subst hw
      have hc : (g.1 a).2.2.2 ≤ nI k := by rw [ha]; exact nI_le (by omega) (by omega)
      by_cases hs0 : s = 0
      · exact qm_step (sC_readDigits hE) C 60 129 100 ([1], [], []) ⟨hs0, ends _ _ _ _ _ hbe hf⟩
      · exact qm_step (sC_readDigits hE) C 60 129 100 ([0, 1], [], []) ⟨hs0, hc, ends _ _ _ _ _ hbe hf⟩
    | succ r ih =>
      intro k w s x4 x3 v hbe hk hw hs hf
      subst hw
      rw [rdF_s] at hf
      by_cases hs0 : s = 0
      · rw [if_pos hs0] at hf
        exact qm_step (sC_readDigits hE) C 60 129 100 ([1], [], []) ⟨hs0, ends _ _ _ _ _ hbe hf⟩
      · rw [if_neg hs0] at hf
        have hc : ¬ (g.1 a).2.2.2 ≤ nI k := by rw [ha]; exact nI_ge (by omega) (by omega)
        have hat := xV_at_yes hE g a k n (by omega) hn ha
        by_cases h1 : g.2.1 a k < 48
        · rw [if_neg (fun q => q.1 h1)] at hf
          have fin := ih (k + 1) (nI k + 1) 0 x4 x3 (v * 10 + (g.2.1 a k).toInt64 - 48) hbe (by omega) (nI_1 k) (Or.inl rfl) hf
          exact qm_step (sC_readDigits hE) C 60 60 100 ([0, 0, 1], [], [(some (qI (g.2.1 a k)), g), (some (qI (g.2.1 a k)), g)]) ⟨hs0, hc, hat, h1, hat, fin⟩
        · by_cases h2 : 57 < g.2.1 a k
          · rw [if_neg (fun q => q.2 h2)] at hf
            have fin := ih (k + 1) (nI k + 1) 0 x4 x3 (v * 10 + (g.2.1 a k).toInt64 - 48) hbe (by omega) (nI_1 k) (Or.inl rfl) hf
            exact qm_step (sC_readDigits hE) C 60 60 100 ([0, 0, 0, 1], [], [(some (qI (g.2.1 a k)), g), (some (qI (g.2.1 a k)), g), (some (qI (g.2.1 a k)), g)]) ⟨hs0, hc, hat, h1, hat, h2, hat, fin⟩
          · rw [if_pos ⟨h1, h2⟩] at hf
            have fin := ih (k + 1) (nI k + 1) 1 x4 x3 (v * 10 + (g.2.1 a k).toInt64 - 48) hbe (by omega) (nI_1 k) (Or.inr rfl) hf
            exact qm_step (sC_readDigits hE) C 60 60 100 ([0, 0, 0, 0], [], [(some (qI (g.2.1 a k)), g), (some (qI (g.2.1 a k)), g), (some (qI (g.2.1 a k)), g)]) ⟨hs0, hc, hat, h1, hat, h2, hat, fin⟩
  have hat0 := xV_atG hE g a n 0 hn (by omega) ha
  by_cases hm : atV g a n 0 = 45
  · have hn1 : 1 ≤ n := by
      rcases Nat.eq_zero_or_pos n with q | q
      · subst q; exact absurd hm (by unfold atV; rw [if_neg (by omega)]; decide)
      · exact q
    have hS : rdS g i a n = rdE g i 1 (rdF (g.2.1 a) (n - 1) 1 (if ¬ nI n - 1 < 1 ∧ ¬ 15 < nI n - 1 then 1 else 0) 0) := if_pos hm
    rw [← ha] at hS
    by_cases h1 : (g.1 a).2.2.2 - 1 < 1
    · rw [if_neg (fun q => q.1 h1)] at hS
      exact qm_step (sC_readDigits hE) C 0 60 100 ([0, 0, 1], [], [(_, g)]) ⟨hat0, hm, by decide, h1, loop 1 (n - 1) 1 _ _ _ _ _ (Or.inr rfl) (by omega) rfl (Or.inl rfl) hS.symm⟩
    · by_cases h2 : 15 < (g.1 a).2.2.2 - 1
      · rw [if_neg (fun q => q.2 h2)] at hS
        exact qm_step (sC_readDigits hE) C 0 60 100 ([0, 0, 0, 1], [], [(_, g)]) ⟨hat0, hm, by decide, h1, h2, loop 1 (n - 1) 1 _ _ _ _ _ (Or.inr rfl) (by omega) rfl (Or.inl rfl) hS.symm⟩
      · rw [if_pos ⟨h1, h2⟩] at hS
        exact qm_step (sC_readDigits hE) C 0 60 100 ([0, 0, 0, 0], [], [(_, g)]) ⟨hat0, hm, by decide, h1, h2, loop 1 (n - 1) 1 _ _ _ _ _ (Or.inr rfl) (by omega) rfl (Or.inr rfl) hS.symm⟩
  · have hS : rdS g i a n = rdE g i 0 (rdF (g.2.1 a) n 0 (if ¬ nI n - 0 < 1 ∧ ¬ 15 < nI n - 0 then 1 else 0) 0) := if_neg hm
    rw [← ha] at hS
    by_cases h1 : (g.1 a).2.2.2 - 0 < 1
    · rw [if_neg (fun q => q.1 h1)] at hS
      exact qm_step (sC_readDigits hE) C 0 60 100 ([1, 1, 1], [], [(_, g)]) ⟨hat0, hm, rfl, h1, loop 0 n 0 _ _ _ _ _ (Or.inl rfl) (by omega) rfl (Or.inl rfl) hS.symm⟩
    · by_cases h2 : 15 < (g.1 a).2.2.2 - 0
      · rw [if_neg (fun q => q.2 h2)] at hS
        exact qm_step (sC_readDigits hE) C 0 60 100 ([1, 1, 0, 1], [], [(_, g)]) ⟨hat0, hm, rfl, h1, h2, loop 0 n 0 _ _ _ _ _ (Or.inl rfl) (by omega) rfl (Or.inl rfl) hS.symm⟩
      · rw [if_pos ⟨h1, h2⟩] at hS
        exact qm_step (sC_readDigits hE) C 0 60 100 ([1, 1, 0, 0], [], [(_, g)]) ⟨hat0, hm, rfl, h1, h2, loop 0 n 0 _ _ _ _ _ (Or.inl rfl) (by omega) rfl (Or.inr rfl) hS.symm⟩
end
section
/-! Casts.toNumber, reckon; Expression's methods -/
def tnS (g : cG) (i a n : Nat) : cG := if (g.1 a).1 = 2 ∨ (g.1 a).1 = 1 then swS g i (g.1 a).2.1 else if (g.1 a).1 = 3 ∧ (g.1 a).2.2.1 = 0 then rdS g i a n else seS g i
theorem xC_toNumber {E : cEnv} (hE : cOk E) (hX : qm_Nx E) (g : cG) (i a n : Nat) (hn : n ≤ 24) (ha : (g.1 a).1 = 3 → (g.1 a).2.2.2 = nI n) : cSd E mC_toNumber [qR 1 i, qR 1 a] g none (tnS g i a n) := by
  refine qm_meth hE (by decide) rfl rfl (Nat.le_of_ble_eq_true rfl) ?_
  intro p e st mm args below meth c Q C _ _
  unfold tnS at C
  have pl := xT_isPlain hE g a
  by_cases h1 : (g.1 a).1 = 2
  · rw [if_pos (Or.inl h1)] at C
    exact qm_step (sC_toNumber hE) C 0 9999 100 ([1], [], [(none, _)]) ⟨h1, xV_setW hE hX g i _, rfl, rfl⟩
  by_cases h2 : (g.1 a).1 = 1
  · rw [if_pos (Or.inr h2)] at C
    exact qm_step (sC_toNumber hE) C 0 9999 100 ([0, 0], [], [(none, _)]) ⟨h1, h2, xV_setW hE hX g i _, rfl, rfl⟩
  rw [if_neg (fun q => q.elim h1 h2)] at C
  by_cases h3 : (g.1 a).1 = 3 ∧ (g.1 a).2.2.1 = 0
  · rw [if_pos h3] at C pl
    exact qm_step (sC_toNumber hE) C 0 9999 100 ([0, 1, 0], [], [(_, g), (none, _)]) ⟨h1, h2, pl, by decide, xC_readDigits hE hX g i a n hn (ha h3.1), rfl, rfl⟩
  · rw [if_neg h3] at C pl
    exact qm_step (sC_toNumber hE) C 0 9999 100 ([0, 1, 1], [], [(_, g), (none, _)]) ⟨h1, h2, pl, rfl, xV_setError hE g i, rfl, rfl⟩
/-- WORDS -/
def twS (g : cG) (i a n : Nat) : cG :=
  if (g.1 a).1 = 3 then apN (stS g i 0) i (bsl g a 0 n)
  else if (g.1 a).1 = 1 then apN (stS g i 0) i (if (g.1 a).2.1 = 1 then [116, 114, 117, 101] else [102, 97, 108, 115, 101])
  else if (g.1 a).1 = 4 then apN (apS (stS g i 0) i 35) i (dgL (lAbs (g.1 a).2.1))
  else if (g.1 a).2.1 < 0 then apN (apS (stS g i 0) i 45) i (dgL (lAbs (g.1 a).2.1)) else apN (stS g i 0) i (dgL (lAbs (g.1 a).2.1))
def caS (op : Int32) (g : cG) (i a n b k d m : Nat) : cG :=
  if op = 23 then (if (g.1 a).1 = 0 then cpS g i b k else cpS g i a n)
  else if op = 22 then chS g i (tOf (g.1 a)) b k d m
  else if (g.1 a).1 = 0 then seS g i
  else if op = 21 then swS g i (g.1 a).1.toInt64 else if op = 25 then tnS g i a n else twS g i a n
theorem xC_reckon_open {E : cEnv} (hE : cOk E) (hX : qm_Nx E) (hW : ∀ (g : cG) (i a n : Nat), a ≠ i → n ≤ 24 → ((g.1 a).1 = 3 → (g.1 a).2.2.2 = nI n) → cSd E mC_toWords [qR 1 i, qR 1 a] g none (twS g i a n)) (op : Int32) (g : cG) (i a n b k d m : Nat) (hai : a ≠ i) (hbi : b ≠ i) (hdi : d ≠ i) (hn : n ≤ 24) (hk : k ≤ 24) (hm : m ≤ 24) (ha : (g.1 a).1 = 3 → (g.1 a).2.2.2 = nI n) (hb : (g.1 b).1 = 3 → (g.1 b).2.2.2 = nI k) (hd : (g.1 d).1 = 3 → (g.1 d).2.2.2 = nI m) : cSd E mC_reckon [qI op, qR 1 i, qR 1 a, qR 1 b, qR 1 d] g none (caS op g i a n b k d m) := by
  refine qm_meth hE (by decide) rfl rfl (Nat.le_of_ble_eq_true rfl) ?_
  intro p e st mm args below meth c Q C _ _
  unfold caS at C
  by_cases h1 : op = 23
  · rw [if_pos h1] at C
    by_cases h2 : (g.1 a).1 = 0
    · rw [if_pos h2] at C
      exact qm_step (sC_reckon hE) C 0 9999 100 ([0, 1], [], [(none, _)]) ⟨h1, h2, xV_copy hE g i b k hbi hk hb, rfl, rfl⟩
    · rw [if_neg h2] at C
      exact qm_step (sC_reckon hE) C 0 9999 100 ([0, 0], [], [(none, _)]) ⟨h1, h2, xV_copy hE g i a n hai hn ha, rfl, rfl⟩
  rw [if_neg h1] at C
  by_cases h2 : op = 22
  · rw [if_pos h2] at C
    exact qm_step (sC_reckon hE) C 0 9999 100 ([1, 0], [], [(_, g), (none, _)]) ⟨h1, h2, xU_of hE g a, xC_choose hE g i _ b k d m hbi hdi hk hm hb hd, rfl, rfl⟩
  rw [if_neg h2] at C
  by_cases h3 : (g.1 a).1 = 0
  · rw [if_pos h3] at C
    exact qm_step (sC_reckon hE) C 0 9999 100 ([1, 1, 0], [], [(none, _)]) ⟨h1, h2, h3, xV_setError hE g i, rfl, rfl⟩
  rw [if_neg h3] at C
  by_cases h4 : op = 21
  · rw [if_pos h4] at C
    exact qm_step (sC_reckon hE) C 0 9999 100 ([1, 1, 1, 0], [], [(none, _)]) ⟨h1, h2, h3, h4, xV_setW hE hX g i _, rfl, rfl⟩
  rw [if_neg h4] at C
  by_cases h5 : op = 25
  · rw [if_pos h5] at C
    exact qm_step (sC_reckon hE) C 0 9999 100 ([1, 1, 1, 1, 0], [], [(none, _)]) ⟨h1, h2, h3, h4, h5, xC_toNumber hE hX g i a n hn ha, rfl, rfl⟩
  · rw [if_neg h5] at C
    exact qm_step (sC_reckon hE) C 0 9999 100 ([1, 1, 1, 1, 1], [], [(none, _)]) ⟨h1, h2, h3, h4, h5, hW g i a n hai hn ha, rfl, rfl⟩
-- expressions
def uE (g : cG) (i : Nat) (x : cER) : cG := (g.1, g.2.1, va_up g.2.2.1 i x, g.2.2.2)
theorem uE_at (g : cG) (i : Nat) (x : cER) : (uE g i x).2.2.1 i = x := va_up_self _ _ _
theorem uE_ne (g : cG) {i j : Nat} (x : cER) (h : j ≠ i) : (uE g i x).2.2.1 j = g.2.2.1 j := va_up_ne _ _ h
theorem uE_uE (g : cG) (i : Nat) (x y : cER) : uE (uE g i x) i y = uE g i y := by unfold uE; rw [bx_uu]
theorem xE_becomeValue {E : cEnv} (hE : cOk E) (g : cG) (i : Nat) : cSd E mE_becomeValue [qR 3 i] g (some (qR 1 i)) (uE g i (0, i, (g.2.2.1 i).2.2.1, (g.2.2.1 i).2.2.2.1, (g.2.2.1 i).2.2.2.2.1, (g.2.2.1 i).2.2.2.2.2.1, 0, 0, (g.2.2.1 i).2.2.2.2.2.2.2.2)) := by
  refine qm_meth hE (by decide) rfl rfl (Nat.le_of_ble_eq_true rfl) ?_
  intro p e st mm args below meth c Q C _ _
  have e1 : ∀ z : cG, z = uE g i (0, (g.2.2.1 i).2) → uE z i ((z.2.2.1 i).1, i, (z.2.2.1 i).2.2) = uE g i (0, i, (g.2.2.1 i).2.2) := by
    intro z hz; subst hz; rw [uE_uE, uE_at]
  have e2 : ∀ z : cG, z = uE g i (0, i, (g.2.2.1 i).2.2) → uE z i ((z.2.2.1 i).1, (z.2.2.1 i).2.1, (z.2.2.1 i).2.2.1, (z.2.2.1 i).2.2.2.1, (z.2.2.1 i).2.2.2.2.1, (z.2.2.1 i).2.2.2.2.2.1, 0, (z.2.2.1 i).2.2.2.2.2.2.2) = uE g i (0, i, (g.2.2.1 i).2.2.1, (g.2.2.1 i).2.2.2.1, (g.2.2.1 i).2.2.2.2.1, (g.2.2.1 i).2.2.2.2.2.1, 0, (g.2.2.1 i).2.2.2.2.2.2.2) := by
    intro z hz; subst hz; rw [uE_uE, uE_at]
  have e3 : ∀ z : cG, z = uE g i (0, i, (g.2.2.1 i).2.2.1, (g.2.2.1 i).2.2.2.1, (g.2.2.1 i).2.2.2.2.1, (g.2.2.1 i).2.2.2.2.2.1, 0, (g.2.2.1 i).2.2.2.2.2.2.2) → uE z i ((z.2.2.1 i).1, (z.2.2.1 i).2.1, (z.2.2.1 i).2.2.1, (z.2.2.1 i).2.2.2.1, (z.2.2.1 i).2.2.2.2.1, (z.2.2.1 i).2.2.2.2.2.1, (z.2.2.1 i).2.2.2.2.2.2.1, 0, (z.2.2.1 i).2.2.2.2.2.2.2.2) = uE g i (0, i, (g.2.2.1 i).2.2.1, (g.2.2.1 i).2.2.2.1, (g.2.2.1 i).2.2.2.2.1, (g.2.2.1 i).2.2.2.2.2.1, 0, 0, (g.2.2.1 i).2.2.2.2.2.2.2.2) := by
    intro z hz; subst hz; rw [uE_uE, uE_at]
  exact qm_step (sE_becomeValue hE) C 0 9999 100 ([], [], []) ⟨rfl, e3 _ (e2 _ (e1 _ rfl))⟩
theorem xE_becomeVariable {E : cEnv} (hE : cOk E) (g : cG) (i j : Nat) (v : Int32) : cSd E mE_becomeVariable [qR 3 i, qI v, qR 1 j] g none (uE g i (1, j, (g.2.2.1 i).2.2.1, (g.2.2.1 i).2.2.2.1, (g.2.2.1 i).2.2.2.2.1, (g.2.2.1 i).2.2.2.2.2.1, 1 <<< (v &&& 31), 0, (g.2.2.1 i).2.2.2.2.2.2.2.2)) := by
  refine qm_meth hE (by decide) rfl rfl (Nat.le_of_ble_eq_true rfl) ?_
  intro p e st mm args below meth c Q C _ _
  have e1 : ∀ z : cG, z = uE g i (1, (g.2.2.1 i).2) → uE z i ((z.2.2.1 i).1, j, (z.2.2.1 i).2.2) = uE g i (1, j, (g.2.2.1 i).2.2) := by
    intro z hz; subst hz; rw [uE_uE, uE_at]
  have e2 : ∀ z : cG, z = uE g i (1, j, (g.2.2.1 i).2.2) → uE z i ((z.2.2.1 i).1, (z.2.2.1 i).2.1, (z.2.2.1 i).2.2.1, (z.2.2.1 i).2.2.2.1, (z.2.2.1 i).2.2.2.2.1, (z.2.2.1 i).2.2.2.2.2.1, 1 <<< (v &&& 31), (z.2.2.1 i).2.2.2.2.2.2.2) = uE g i (1, j, (g.2.2.1 i).2.2.1, (g.2.2.1 i).2.2.2.1, (g.2.2.1 i).2.2.2.2.1, (g.2.2.1 i).2.2.2.2.2.1, 1 <<< (v &&& 31), (g.2.2.1 i).2.2.2.2.2.2.2) := by
    intro z hz; subst hz; rw [uE_uE, uE_at]
  have e3 : ∀ z : cG, z = uE g i (1, j, (g.2.2.1 i).2.2.1, (g.2.2.1 i).2.2.2.1, (g.2.2.1 i).2.2.2.2.1, (g.2.2.1 i).2.2.2.2.2.1, 1 <<< (v &&& 31), (g.2.2.1 i).2.2.2.2.2.2.2) → uE z i ((z.2.2.1 i).1, (z.2.2.1 i).2.1, (z.2.2.1 i).2.2.1, (z.2.2.1 i).2.2.2.1, (z.2.2.1 i).2.2.2.2.1, (z.2.2.1 i).2.2.2.2.2.1, (z.2.2.1 i).2.2.2.2.2.2.1, 0, (z.2.2.1 i).2.2.2.2.2.2.2.2) = uE g i (1, j, (g.2.2.1 i).2.2.1, (g.2.2.1 i).2.2.2.1, (g.2.2.1 i).2.2.2.2.1, (g.2.2.1 i).2.2.2.2.2.1, 1 <<< (v &&& 31), 0, (g.2.2.1 i).2.2.2.2.2.2.2.2) := by
    intro z hz; subst hz; rw [uE_uE, uE_at]
  exact qm_step (sE_becomeVariable hE) C 0 9999 100 ([], [], []) ⟨rfl, e3 _ (e2 _ (e1 _ rfl))⟩
end
section
/-! Expression: becomeCall, isCall, wantOperands, given -/
def lvC (g : cG) (a b d : Nat) : Int32 := 1 + (if (g.2.2.1 a).2.2.2.2.2.2.2.1 < (if (g.2.2.1 b).2.2.2.2.2.2.2.1 < (g.2.2.1 d).2.2.2.2.2.2.2.1 then (g.2.2.1 d).2.2.2.2.2.2.2.1 else (g.2.2.1 b).2.2.2.2.2.2.2.1) then (if (g.2.2.1 b).2.2.2.2.2.2.2.1 < (g.2.2.1 d).2.2.2.2.2.2.2.1 then (g.2.2.1 d).2.2.2.2.2.2.2.1 else (g.2.2.1 b).2.2.2.2.2.2.2.1) else (g.2.2.1 a).2.2.2.2.2.2.2.1)
theorem xE_becomeCall {E : cEnv} (hE : cOk E) (g : cG) (i a b d : Nat) (op : Int32) (hai : a ≠ i) (hbi : b ≠ i) (hdi : d ≠ i) : cSd E mE_becomeCall [qR 3 i, qI op, qR 3 a, qR 3 b, qR 3 d] g none (uE g i (2, i, op, some a, some b, some d, (g.2.2.1 a).2.2.2.2.2.2.1 ||| (g.2.2.1 b).2.2.2.2.2.2.1 ||| (g.2.2.1 d).2.2.2.2.2.2.1, lvC g a b d, (g.2.2.1 i).2.2.2.2.2.2.2.2)) := by
  refine qm_meth hE (by decide) rfl rfl (Nat.le_of_ble_eq_true rfl) ?_
  intro p e st mm args below meth c Q C _ _
  have e1 : ∀ z : cG, z = uE g i (2, (g.2.2.1 i).2) → uE z i ((z.2.2.1 i).1, i, (z.2.2.1 i).2.2) = uE g i (2, i, (g.2.2.1 i).2.2) := by
    intro z hz; subst hz; rw [uE_uE, uE_at]
  have e2 : ∀ z : cG, z = uE g i (2, i, (g.2.2.1 i).2.2) → uE z i ((z.2.2.1 i).1, (z.2.2.1 i).2.1, op, (z.2.2.1 i).2.2.2) = uE g i (2, i, op, (g.2.2.1 i).2.2.2) := by
    intro z hz; subst hz; rw [uE_uE, uE_at]
  have e3 : ∀ z : cG, z = uE g i (2, i, op, (g.2.2.1 i).2.2.2) → uE z i ((z.2.2.1 i).1, (z.2.2.1 i).2.1, (z.2.2.1 i).2.2.1, some a, (z.2.2.1 i).2.2.2.2) = uE g i (2, i, op, some a, (g.2.2.1 i).2.2.2.2) := by
    intro z hz; subst hz; rw [uE_uE, uE_at]
  have e4 : ∀ z : cG, z = uE g i (2, i, op, some a, (g.2.2.1 i).2.2.2.2) → uE z i ((z.2.2.1 i).1, (z.2.2.1 i).2.1, (z.2.2.1 i).2.2.1, (z.2.2.1 i).2.2.2.1, some b, (z.2.2.1 i).2.2.2.2.2) = uE g i (2, i, op, some a, some b, (g.2.2.1 i).2.2.2.2.2) := by
    intro z hz; subst hz; rw [uE_uE, uE_at]
  have e5 : ∀ z : cG, z = uE g i (2, i, op, some a, some b, (g.2.2.1 i).2.2.2.2.2) → uE z i ((z.2.2.1 i).1, (z.2.2.1 i).2.1, (z.2.2.1 i).2.2.1, (z.2.2.1 i).2.2.2.1, (z.2.2.1 i).2.2.2.2.1, some d, (z.2.2.1 i).2.2.2.2.2.2) = uE g i (2, i, op, some a, some b, some d, (g.2.2.1 i).2.2.2.2.2.2) := by
    intro z hz; subst hz; rw [uE_uE, uE_at]
  have e6 : ∀ z : cG, z = uE g i (2, i, op, some a, some b, some d, (g.2.2.1 i).2.2.2.2.2.2) → uE z i ((z.2.2.1 i).1, (z.2.2.1 i).2.1, (z.2.2.1 i).2.2.1, (z.2.2.1 i).2.2.2.1, (z.2.2.1 i).2.2.2.2.1, (z.2.2.1 i).2.2.2.2.2.1, (z.2.2.1 a).2.2.2.2.2.2.1 ||| (z.2.2.1 b).2.2.2.2.2.2.1 ||| (z.2.2.1 d).2.2.2.2.2.2.1, (z.2.2.1 i).2.2.2.2.2.2.2) = uE g i (2, i, op, some a, some b, some d, (g.2.2.1 a).2.2.2.2.2.2.1 ||| (g.2.2.1 b).2.2.2.2.2.2.1 ||| (g.2.2.1 d).2.2.2.2.2.2.1, (g.2.2.1 i).2.2.2.2.2.2.2) := by
    intro z hz; subst hz; rw [uE_uE, uE_at, uE_ne _ _ hai, uE_ne _ _ hbi, uE_ne _ _ hdi]
  have e7 : ∀ z : cG, z = uE g i (2, i, op, some a, some b, some d, (g.2.2.1 a).2.2.2.2.2.2.1 ||| (g.2.2.1 b).2.2.2.2.2.2.1 ||| (g.2.2.1 d).2.2.2.2.2.2.1, (g.2.2.1 i).2.2.2.2.2.2.2) → uE z i ((z.2.2.1 i).1, (z.2.2.1 i).2.1, (z.2.2.1 i).2.2.1, (z.2.2.1 i).2.2.2.1, (z.2.2.1 i).2.2.2.2.1, (z.2.2.1 i).2.2.2.2.2.1, (z.2.2.1 i).2.2.2.2.2.2.1, 1 + (if (z.2.2.1 a).2.2.2.2.2.2.2.1 < (if (z.2.2.1 b).2.2.2.2.2.2.2.1 < (z.2.2.1 d).2.2.2.2.2.2.2.1 then (z.2.2.1 d).2.2.2.2.2.2.2.1 else (z.2.2.1 b).2.2.2.2.2.2.2.1) then (if (z.2.2.1 b).2.2.2.2.2.2.2.1 < (z.2.2.1 d).2.2.2.2.2.2.2.1 then (z.2.2.1 d).2.2.2.2.2.2.2.1 else (z.2.2.1 b).2.2.2.2.2.2.2.1) else (z.2.2.1 a).2.2.2.2.2.2.2.1), (z.2.2.1 i).2.2.2.2.2.2.2.2) = uE g i (2, i, op, some a, some b, some d, (g.2.2.1 a).2.2.2.2.2.2.1 ||| (g.2.2.1 b).2.2.2.2.2.2.1 ||| (g.2.2.1 d).2.2.2.2.2.2.1, 1 + (if (g.2.2.1 a).2.2.2.2.2.2.2.1 < (if (g.2.2.1 b).2.2.2.2.2.2.2.1 < (g.2.2.1 d).2.2.2.2.2.2.2.1 then (g.2.2.1 d).2.2.2.2.2.2.2.1 else (g.2.2.1 b).2.2.2.2.2.2.2.1) then (if (g.2.2.1 b).2.2.2.2.2.2.2.1 < (g.2.2.1 d).2.2.2.2.2.2.2.1 then (g.2.2.1 d).2.2.2.2.2.2.2.1 else (g.2.2.1 b).2.2.2.2.2.2.2.1) else (g.2.2.1 a).2.2.2.2.2.2.2.1), (g.2.2.1 i).2.2.2.2.2.2.2.2) := by
    intro z hz; subst hz; rw [uE_uE, uE_at, uE_ne _ _ hai, uE_ne _ _ hbi, uE_ne _ _ hdi]
  exact qm_step (sE_becomeCall hE) C 0 9999 100 ([], [], []) ⟨rfl, (e7 _ (e6 _ (e5 _ (e4 _ (e3 _ (e2 _ (e1 _ rfl)))))))⟩
theorem xE_isCall {E : cEnv} (hE : cOk E) (g : cG) (i : Nat) : ((g.2.2.1 i).1 = 2 → ∀ a b d : Nat, (g.2.2.1 i).2.2.2.1 = some a → (g.2.2.1 i).2.2.2.2.1 = some b → (g.2.2.1 i).2.2.2.2.2.1 = some d → cSd E mE_isCall [qR 3 i] g (some (qI 1)) g) ∧ (¬ (g.2.2.1 i).1 = 2 → cSd E mE_isCall [qR 3 i] g (some (qI 0)) g) := by
  constructor
  · intro h a b d ha hb hd
    refine qm_meth hE (by decide) rfl rfl (Nat.le_of_ble_eq_true rfl) ?_
    intro p e st mm args below meth c Q C _ _
    have h4 : rdE4 g i = some (3, a) := by unfold rdE4 cRf; rw [ha]; rfl
    have h5 : rdE5 g i = some (3, b) := by unfold rdE5 cRf; rw [hb]; rfl
    have h6 : rdE6 g i = some (3, d) := by unfold rdE6 cRf; rw [hd]; rfl
    exact qm_step (sE_isCall hE) C 0 9999 100 ([0, 0, 0, 0], [some (3, a), some (3, b), some (3, d)], []) ⟨h, h4, trivial, h5, trivial, h6, trivial, Or.inr rfl, rfl, rfl⟩
  · intro h
    refine qm_meth hE (by decide) rfl rfl (Nat.le_of_ble_eq_true rfl) ?_
    intro p e st mm args below meth c Q C _ _
    exact qm_step (sE_isCall hE) C 0 9999 100 ([1], [], []) ⟨h, Or.inl rfl, rfl, rfl⟩
/-- expression k is wanted -/
def wnE (g : cG) (k : Nat) (x : Int32) : cG := uE g k ((g.2.2.1 k).1, (g.2.2.1 k).2.1, (g.2.2.1 k).2.2.1, (g.2.2.1 k).2.2.2.1, (g.2.2.1 k).2.2.2.2.1, (g.2.2.1 k).2.2.2.2.2.1, (g.2.2.1 k).2.2.2.2.2.2.1, (g.2.2.1 k).2.2.2.2.2.2.2.1, x)
theorem wnE_ne (g : cG) {k j : Nat} (x : Int32) (h : j ≠ k) : (wnE g k x).2.2.1 j = g.2.2.1 j := uE_ne _ _ h
theorem xE_want_no {E : cEnv} (hE : cOk E) (g : cG) (i : Nat) (h : ¬ (g.2.2.1 i).1 = 2) : cSd E mE_wantOperands [qR 3 i] g none g := by
  refine qm_meth hE (by decide) rfl rfl (Nat.le_of_ble_eq_true rfl) ?_
  intro p e st mm args below meth c Q C _ _
  exact qm_step (sE_wantOperands hE) C 0 9999 100 ([1], [], [(some (qI 0), g)]) ⟨(xE_isCall hE g i).2 h, rfl, rfl, rfl⟩
theorem xE_want_yes {E : cEnv} (hE : cOk E) (g : cG) (i a b d : Nat) (h : (g.2.2.1 i).1 = 2) (ha : (g.2.2.1 i).2.2.2.1 = some a) (hb : (g.2.2.1 i).2.2.2.2.1 = some b) (hd : (g.2.2.1 i).2.2.2.2.2.1 = some d) (hai : i ≠ a) (hbi : i ≠ b) : cSd E mE_wantOperands [qR 3 i] g none (wnE (wnE (wnE g a 1) b 1) d 1) := by
  refine qm_meth hE (by decide) rfl rfl (Nat.le_of_ble_eq_true rfl) ?_
  intro p e st mm args below meth c Q C _ _
  have h4 : rdE4 g i = some (3, a) := by unfold rdE4 cRf; rw [ha]; rfl
  have h5 : rdE5 (wnE g a 1) i = some (3, b) := by unfold rdE5 cRf; rw [wnE_ne _ _ hai, hb]; rfl
  have h6 : rdE6 (wnE (wnE g a 1) b 1) i = some (3, d) := by unfold rdE6 cRf; rw [wnE_ne _ _ hbi, wnE_ne _ _ hai, hd]; rfl
  exact qm_step (sE_wantOperands hE) C 0 9999 100 ([0], [some (3, a), some (3, b), some (3, d)], [(some (qI 1), g)]) ⟨(xE_isCall hE g i).1 h a b d ha hb hd, by decide, h4, Or.inr rfl, h5, Or.inr rfl, h6, Or.inr rfl, rfl, rfl⟩
def gvI (g : cG) (i : Nat) : Int32 := if (g.2.2.1 i).1 = 1 then (if (g.1 (g.2.2.1 i).2.1).1 = 0 then 0 else 1) else -1
theorem xE_given {E : cEnv} (hE : cOk E) (g : cG) (i : Nat) : cSd E mE_given [qR 3 i] g (some (qI (gvI g i))) g := by
  refine qm_meth hE (by decide) rfl rfl (Nat.le_of_ble_eq_true rfl) ?_
  intro p e st mm args below meth c Q C _ _
  have t1 := xU_truth hE g 1
  have t0 := xU_truth hE g 0
  rw [show tB 1 = 1 from by decide] at t1
  rw [show tB 0 = 0 from by decide] at t0
  unfold gvI at C
  by_cases h1 : (g.2.2.1 i).1 = 1
  · rw [if_pos h1] at C
    by_cases h2 : (g.1 (g.2.2.1 i).2.1).1 = 0
    · rw [if_pos h2] at C
      exact qm_step (sE_given hE) C 0 9999 100 ([0, 1], [], [(some (qI 0), g)]) ⟨h1, h2, t0, rfl, rfl⟩
    · rw [if_neg h2] at C
      exact qm_step (sE_given hE) C 0 9999 100 ([0, 0], [], [(some (qI 1), g)]) ⟨h1, h2, t1, rfl, rfl⟩
  · rw [if_neg h1] at C
    exact qm_step (sE_given hE) C 0 9999 100 ([1], [], []) ⟨h1, rfl, rfl⟩
end
section
/-! FunctionRows: the small methods -/
def uC (g : cG) (x : Int32 × Int32) : cG := (g.1, g.2.1, g.2.2.1, x, g.2.2.2.2)
def uT (g : cG) (f : Nat → Int32) : cG := (g.1, g.2.1, g.2.2.1, g.2.2.2.1, f, g.2.2.2.2.2)
def isEx (g : cG) (e : Int32) : Prop := ¬ e < 0 ∧ ¬ g.2.2.2.1.1 ≤ e
theorem xR_isEx {E : cEnv} (hE : cOk E) (g : cG) (x : Int32) : (isEx g x → cSd E mR_isExpression [qR 0 0, qI x] g (some (qI 1)) g) ∧ (¬ isEx g x → cSd E mR_isExpression [qR 0 0, qI x] g (some (qI 0)) g) := by
  constructor
  · intro h
    refine qm_meth hE (by decide) rfl rfl (Nat.le_of_ble_eq_true rfl) ?_
    intro p e st mm args below meth c Q C _ _
    exact qm_step (sR_isExpression hE) C 0 9999 100 ([0, 0], [], []) ⟨h.1, h.2, Or.inr rfl, rfl, rfl⟩
  · intro h
    refine qm_meth hE (by decide) rfl rfl (Nat.le_of_ble_eq_true rfl) ?_
    intro p e st mm args below meth c Q C _ _
    by_cases h1 : x < 0
    · exact qm_step (sR_isExpression hE) C 0 9999 100 ([1], [], []) ⟨h1, Or.inl rfl, rfl, rfl⟩
    · have h2 : g.2.2.2.1.1 ≤ x := Classical.not_not.mp fun q => h ⟨h1, q⟩
      exact qm_step (sR_isExpression hE) C 0 9999 100 ([0, 1], [], []) ⟨h1, h2, Or.inl rfl, rfl, rfl⟩
theorem xR_isVar {E : cEnv} (hE : cOk E) (g : cG) (x : Int32) : (∀ v : Nat, v < 8 → x = nI v → cSd E mR_isVariable [qI x] g (some (qI 1)) g) ∧ (x < 0 ∨ 8 ≤ x → cSd E mR_isVariable [qI x] g (some (qI 0)) g) := by
  constructor
  · intro v hv hx
    subst hx
    refine qm_meth hE (by decide) rfl rfl (Nat.le_of_ble_eq_true rfl) ?_
    intro p e st mm args below meth c Q C _ _
    exact qm_step (sR_isVariable hE) C 0 9999 100 ([0, 0], [], []) ⟨nI_pos (by omega), nI_ge (b := 8) hv (by decide), Or.inr rfl, rfl, rfl⟩
  · intro h
    refine qm_meth hE (by decide) rfl rfl (Nat.le_of_ble_eq_true rfl) ?_
    intro p e st mm args below meth c Q C _ _
    by_cases h1 : x < 0
    · exact qm_step (sR_isVariable hE) C 0 9999 100 ([1], [], []) ⟨h1, Or.inl rfl, rfl, rfl⟩
    · exact qm_step (sR_isVariable hE) C 0 9999 100 ([0, 1], [], []) ⟨h1, h.resolve_left h1, Or.inl rfl, rfl, rfl⟩
def byI (x : Int64) (k : Int32) : Int32 := (x.toUInt64 >>> ((8 * k).toInt64.toUInt64 &&& Int64.toUInt64 63)).toInt64.toInt32 &&& 255
theorem xR_byteOf {E : cEnv} (hE : cOk E) (g : cG) (x : Int64) (k : Int32) : cSd E mR_byteOf [qL x, qI k] g (some (qI (byI x k))) g := by
  refine qm_meth hE (by decide) rfl rfl (Nat.le_of_ble_eq_true rfl) ?_
  intro p e st mm args below meth c Q C _ _
  exact qm_step (sR_byteOf hE) C 0 9999 100 ([], [], []) ⟨rfl, rfl⟩
def laI (k : Int32) : Int32 := if k = 0 then 7 else if k = 1 then 1 else if k = 4 then 999 else -1
theorem xR_lastLeaf {E : cEnv} (hE : cOk E) (g : cG) (k : Int32) : cSd E mR_lastLeaf [qI k] g (some (qI (laI k))) g := by
  refine qm_meth hE (by decide) rfl rfl (Nat.le_of_ble_eq_true rfl) ?_
  intro p e st mm args below meth c Q C _ _
  unfold laI at C
  by_cases h1 : k = 0
  · rw [if_pos h1] at C
    exact qm_step (sR_lastLeaf hE) C 0 9999 100 ([0], [], []) ⟨h1, rfl, rfl⟩
  rw [if_neg h1] at C
  by_cases h2 : k = 1
  · rw [if_pos h2] at C
    exact qm_step (sR_lastLeaf hE) C 0 9999 100 ([1, 0], [], []) ⟨h1, h2, rfl, rfl⟩
  rw [if_neg h2] at C
  by_cases h3 : k = 4
  · rw [if_pos h3] at C
    exact qm_step (sR_lastLeaf hE) C 0 9999 100 ([1, 1, 0], [], []) ⟨h1, h2, h3, rfl, rfl⟩
  · rw [if_neg h3] at C
    exact qm_step (sR_lastLeaf hE) C 0 9999 100 ([1, 1, 1], [], []) ⟨h1, h2, h3, rfl, rfl⟩
def nuI (g : cG) : Int64 := if (g.1 88).1 = 0 then -2 else if (g.1 88).1 = 3 then (g.1 88).2.2.2.toInt64 else (g.1 88).2.1
theorem xR_number {E : cEnv} (hE : cOk E) (g : cG) : cSd E mR_number [qR 0 0] g (some (qL (nuI g))) g := by
  refine qm_meth hE (by decide) rfl rfl (Nat.le_of_ble_eq_true rfl) ?_
  intro p e st mm args below meth c Q C _ _
  unfold nuI at C
  by_cases h1 : (g.1 88).1 = 0
  · rw [if_pos h1] at C
    exact qm_step (sR_number hE) C 0 9999 100 ([0], [], []) ⟨h1, rfl, rfl⟩
  rw [if_neg h1] at C
  by_cases h2 : (g.1 88).1 = 3
  · rw [if_pos h2] at C
    exact qm_step (sR_number hE) C 0 9999 100 ([1, 0], [], []) ⟨h1, h2, rfl, rfl⟩
  · rw [if_neg h2] at C
    exact qm_step (sR_number hE) C 0 9999 100 ([1, 1], [], []) ⟨h1, h2, rfl, rfl⟩
theorem xR_tag {E : cEnv} (hE : cOk E) (g : cG) : cSd E mR_tag [qR 0 0] g (some (qI (if (g.1 88).1 = 3 then (g.1 88).2.2.1 else -2))) g := by
  refine qm_meth hE (by decide) rfl rfl (Nat.le_of_ble_eq_true rfl) ?_
  intro p e st mm args below meth c Q C _ _
  by_cases h1 : (g.1 88).1 = 3
  · rw [if_pos h1] at C
    exact qm_step (sR_tag hE) C 0 9999 100 ([0], [], []) ⟨h1, rfl, rfl⟩
  · rw [if_neg h1] at C
    exact qm_step (sR_tag hE) C 0 9999 100 ([1], [], []) ⟨h1, rfl, rfl⟩
theorem xR_letter_no {E : cEnv} (hE : cOk E) (g : cG) (x : Int32) (h : ¬ (g.1 88).1 = 3 ∨ x < 0 ∨ ¬ x < (g.1 88).2.2.2) : cSd E mR_letter [qR 0 0, qI x] g (some (qI (-2))) g := by
  refine qm_meth hE (by decide) rfl rfl (Nat.le_of_ble_eq_true rfl) ?_
  intro p e st mm args below meth c Q C _ _
  by_cases h1 : (g.1 88).1 = 3
  · have h := h.resolve_left (fun z => z h1)
    by_cases h2 : x < 0
    · exact qm_step (sR_letter hE) C 0 9999 100 ([0, 1], [], []) ⟨h1, h2, rfl, rfl⟩
    · exact qm_step (sR_letter hE) C 0 9999 100 ([0, 0, 0], [], []) ⟨h1, h2, h.resolve_left h2, rfl, rfl⟩
  · exact qm_step (sR_letter hE) C 0 9999 100 ([1], [], []) ⟨h1, rfl, rfl⟩
theorem xR_letter_yes {E : cEnv} (hE : cOk E) (g : cG) (k n : Nat) (h1 : (g.1 88).1 = 3) (hn : n ≤ 24) (hl : (g.1 88).2.2.2 = nI n) (hk : k < n) : cSd E mR_letter [qR 0 0, qI (nI k)] g (some (qI (g.2.1 88 k))) g := by
  refine qm_meth hE (by decide) rfl rfl (Nat.le_of_ble_eq_true rfl) ?_
  intro p e st mm args below meth c Q C _ _
  exact qm_step (sR_letter hE) C 0 9999 100 ([0, 0, 1], [], [(_, g)]) ⟨h1, nI_pos (by omega), by rw [hl]; exact nI_lt hk (by omega), xV_at_yes hE g 88 k n hk hn hl, rfl, rfl⟩
theorem xR_give_bad {E : cEnv} (hE : cOk E) (g : cG) (x : Int32) (h : x < 0 ∨ 8 ≤ x) : cSd E mR_give [qR 0 0, qI x] g (some (qI (-1))) g := by
  refine qm_meth hE (by decide) rfl rfl (Nat.le_of_ble_eq_true rfl) ?_
  intro p e st mm args below meth c Q C _ _
  exact qm_step (sR_give hE) C 0 9999 100 ([0], [], [(some (qI 0), g)]) ⟨(xR_isVar hE g x).2 h, rfl, rfl, rfl⟩
theorem xR_give_no {E : cEnv} (hE : cOk E) (g : cG) (v : Nat) (hv : v < 8) (h : (g.1 88).1 = 0) : cSd E mR_give [qR 0 0, qI (nI v)] g (some (qI (-2))) g := by
  refine qm_meth hE (by decide) rfl rfl (Nat.le_of_ble_eq_true rfl) ?_
  intro p e st mm args below meth c Q C _ _
  exact qm_step (sR_give hE) C 0 9999 100 ([1, 0], [], [(some (qI 1), g)]) ⟨(xR_isVar hE g _).1 v hv rfl, by decide, h, rfl, rfl⟩
theorem xR_give_yes {E : cEnv} (hE : cOk E) (g : cG) (v n : Nat) (hv : v < 8) (h : ¬ (g.1 88).1 = 0) (hn : n ≤ 24) (hl : (g.1 88).1 = 3 → (g.1 88).2.2.2 = nI n) : cSd E mR_give [qR 0 0, qI (nI v)] g (some (qI 1)) (cpS g (80 + v) 88 n) := by
  refine qm_meth hE (by decide) rfl rfl (Nat.le_of_ble_eq_true rfl) ?_
  intro p e st mm args below meth c Q C _ _
  have hin : vp_in (nI v) 8 := vp_in_nI hv (by decide)
  have hcp := xV_copy hE g (80 + v) 88 n (by omega) hn hl
  have hcl : (nI v).toNatClampNeg = v := nI_clamp (by omega)
  rw [← hcl] at hcp
  have e1 : cpS g (80 + (nI v).toNatClampNeg) 88 n = cpS g (80 + v) 88 n := by rw [hcl]
  exact qm_step (sR_give hE) C 0 9999 100 ([1, 1], [], [(some (qI 1), g), (none, cpS g (80 + (nI v).toNatClampNeg) 88 n)]) ⟨(xR_isVar hE g _).1 v hv rfl, by decide, h, hin, hcp, rfl, e1⟩
theorem xR_drop_bad {E : cEnv} (hE : cOk E) (g : cG) (x : Int32) (h : x < 0 ∨ 8 ≤ x) : cSd E mR_drop [qR 0 0, qI x] g (some (qI (-1))) g := by
  refine qm_meth hE (by decide) rfl rfl (Nat.le_of_ble_eq_true rfl) ?_
  intro p e st mm args below meth c Q C _ _
  exact qm_step (sR_drop hE) C 0 9999 100 ([0], [], [(some (qI 0), g)]) ⟨(xR_isVar hE g x).2 h, rfl, rfl, rfl⟩
theorem xR_drop {E : cEnv} (hE : cOk E) (g : cG) (v : Nat) (hv : v < 8) : ((g.1 (80 + v)).1 = 0 → cSd E mR_drop [qR 0 0, qI (nI v)] g (some (qI 0)) g) ∧ (¬ (g.1 (80 + v)).1 = 0 → cSd E mR_drop [qR 0 0, qI (nI v)] g (some (qI 1)) (seS g (80 + v))) := by
  have hin : vp_in (nI v) 8 := vp_in_nI hv (by decide)
  have hcl : (nI v).toNatClampNeg = v := nI_clamp (by omega)
  constructor
  · intro h
    refine qm_meth hE (by decide) rfl rfl (Nat.le_of_ble_eq_true rfl) ?_
    intro p e st mm args below meth c Q C _ _
    rw [← hcl] at h
    exact qm_step (sR_drop hE) C 0 9999 100 ([1, 0], [], [(some (qI 1), g)]) ⟨(xR_isVar hE g _).1 v hv rfl, by decide, hin, h, rfl, rfl⟩
  · intro h
    refine qm_meth hE (by decide) rfl rfl (Nat.le_of_ble_eq_true rfl) ?_
    intro p e st mm args below meth c Q C _ _
    have e1 : seS g (80 + (nI v).toNatClampNeg) = seS g (80 + v) := by rw [hcl]
    rw [← hcl] at h
    exact qm_step (sR_drop hE) C 0 9999 100 ([1, 1], [], [(some (qI 1), g), (none, _)]) ⟨(xR_isVar hE g _).1 v hv rfl, by decide, hin, h, hin, xV_setError hE g _, rfl, e1⟩
theorem xR_uses {E : cEnv} (hE : cOk E) (g : cG) : (∀ x, ¬ isEx g x → cSd E mR_uses [qR 0 0, qI x] g (some (qI (-1))) g) ∧ (∀ k, k < 80 → isEx g (nI k) → cSd E mR_uses [qR 0 0, qI (nI k)] g (some (qI (g.2.2.1 k).2.2.2.2.2.2.1)) g) := by
  constructor
  · intro x h
    refine qm_meth hE (by decide) rfl rfl (Nat.le_of_ble_eq_true rfl) ?_
    intro p e st mm args below meth c Q C _ _
    exact qm_step (sR_uses hE) C 0 9999 100 ([1], [], [(some (qI 0), g)]) ⟨(xR_isEx hE g x).2 h, rfl, rfl, rfl⟩
  · intro k hk h
    refine qm_meth hE (by decide) rfl rfl (Nat.le_of_ble_eq_true rfl) ?_
    intro p e st mm args below meth c Q C _ _
    have e1 : (some (qI (g.2.2.1 (nI k).toNatClampNeg).2.2.2.2.2.2.1) : Option qm_v) = some (qI (g.2.2.1 k).2.2.2.2.2.2.1) := by rw [nI_clamp (by omega)]
    have hin : vp_in (nI k) 80 := vp_in_nI hk (by decide)
    exact qm_step (sR_uses hE) C 0 9999 100 ([0], [], [(some (qI 1), g)]) ⟨(xR_isEx hE g _).1 h, by decide, hin, e1, rfl⟩
theorem xR_depth {E : cEnv} (hE : cOk E) (g : cG) : (∀ x, ¬ isEx g x → cSd E mR_depth [qR 0 0, qI x] g (some (qI (-1))) g) ∧ (∀ k, k < 80 → isEx g (nI k) → cSd E mR_depth [qR 0 0, qI (nI k)] g (some (qI (g.2.2.1 k).2.2.2.2.2.2.2.1)) g) := by
  constructor
  · intro x h
    refine qm_meth hE (by decide) rfl rfl (Nat.le_of_ble_eq_true rfl) ?_
    intro p e st mm args below meth c Q C _ _
    exact qm_step (sR_depth hE) C 0 9999 100 ([1], [], [(some (qI 0), g)]) ⟨(xR_isEx hE g x).2 h, rfl, rfl, rfl⟩
  · intro k hk h
    refine qm_meth hE (by decide) rfl rfl (Nat.le_of_ble_eq_true rfl) ?_
    intro p e st mm args below meth c Q C _ _
    have e1 : (some (qI (g.2.2.1 (nI k).toNatClampNeg).2.2.2.2.2.2.2.1) : Option qm_v) = some (qI (g.2.2.1 k).2.2.2.2.2.2.2.1) := by rw [nI_clamp (by omega)]
    have hin : vp_in (nI k) 80 := vp_in_nI hk (by decide)
    exact qm_step (sR_depth hE) C 0 9999 100 ([0], [], [(some (qI 1), g)]) ⟨(xR_isEx hE g _).1 h, by decide, hin, e1, rfl⟩
theorem xR_clear {E : cEnv} (hE : cOk E) (g : cG) : cSd E mR_clear [qR 0 0] g (some (qI g.2.2.2.1.1)) (uC g (0, g.2.2.2.1.2)) := by
  refine qm_meth hE (by decide) rfl rfl (Nat.le_of_ble_eq_true rfl) ?_
  intro p e st mm args below meth c Q C _ _
  exact qm_step (sR_clear hE) C 0 9999 100 ([], [], []) ⟨rfl, rfl⟩
theorem xR_size {E : cEnv} (hE : cOk E) (g : cG) : cSd E mR_size [qR 0 0] g (some (qI g.2.2.2.1.1)) g := by
  refine qm_meth hE (by decide) rfl rfl (Nat.le_of_ble_eq_true rfl) ?_
  intro p e st mm args below meth c Q C _ _
  exact qm_step (sR_size hE) C 0 9999 100 ([], [], []) ⟨rfl, rfl⟩
end
section
/-! FunctionRows: whole, leaf, text, type -/
/-- how many expressions there are -/
def cnt (g : cG) : Nat := g.2.2.2.1.1.toNatClampNeg
def cntOk (g : cG) : Prop := ∃ n : Nat, n ≤ 80 ∧ g.2.2.2.1.1 = nI n
theorem cnt_in {g : cG} (h : cntOk g) (h2 : g.2.2.2.1.1 < 80) : vp_in g.2.2.2.1.1 80 := by
  obtain ⟨n, hn, he⟩ := h
  rw [he] at h2 ⊢
  have : n < 80 := by
    rcases Nat.lt_or_ge n 80 with q | q
    · exact q
    · exact absurd h2 (nI_nlt (b := 80) q (by omega))
  exact vp_in_nI this (by decide)
/-- expression k becomes a value -/
def bvE (g : cG) (k : Nat) : cG := uE g k (0, k, (g.2.2.1 k).2.2.1, (g.2.2.1 k).2.2.2.1, (g.2.2.1 k).2.2.2.2.1, (g.2.2.1 k).2.2.2.2.2.1, 0, 0, (g.2.2.1 k).2.2.2.2.2.2.2.2)
/-- one more expression -/
def oneC (g : cG) : cG := uC g (g.2.2.2.1.1 + 1, g.2.2.2.1.2)
theorem xR_whole {E : cEnv} (hE : cOk E) (hX : qm_Nx E) (g : cG) (v : Int64) (hc : cntOk g) : (¬ isW v → cSd E mR_whole [qR 0 0, qL v] g (some (qI (-1))) g) ∧ (isW v → ¬ g.2.2.2.1.1 < 80 → cSd E mR_whole [qR 0 0, qL v] g (some (qI (-3))) g) ∧ (isW v → g.2.2.2.1.1 < 80 → cSd E mR_whole [qR 0 0, qL v] g (some (qI g.2.2.2.1.1)) (oneC (swS (bvE g (cnt g)) (cnt g) v))) := by
  refine ⟨fun h => ?_, fun h h2 => ?_, fun h h2 => ?_⟩
  · refine qm_meth hE (by decide) rfl rfl (Nat.le_of_ble_eq_true rfl) ?_
    intro p e st mm args below meth c Q C _ _
    exact qm_step (sR_whole hE) C 0 9999 100 ([0], [], [(some (qI 0), g)]) ⟨(xR_isWhole hE g v).2 h, rfl, rfl, rfl⟩
  · refine qm_meth hE (by decide) rfl rfl (Nat.le_of_ble_eq_true rfl) ?_
    intro p e st mm args below meth c Q C _ _
    exact qm_step (sR_whole hE) C 0 9999 100 ([1, 0], [], [(some (qI 1), g)]) ⟨(xR_isWhole hE g v).1 h, by decide, h2, rfl, rfl⟩
  · refine qm_meth hE (by decide) rfl rfl (Nat.le_of_ble_eq_true rfl) ?_
    intro p e st mm args below meth c Q C _ _
    exact qm_step (sR_whole hE) C 0 9999 100 ([1, 1], [], [(some (qI 1), g), (some (qR 1 (cnt g)), bvE g (cnt g)), (none, swS (bvE g (cnt g)) (cnt g) v)]) ⟨(xR_isWhole hE g v).1 h, by decide, h2, cnt_in hc h2, xE_becomeValue hE g (cnt g), xV_setW hE hX (bvE g (cnt g)) (cnt g) v, rfl, rfl⟩
/-- expression k becomes variable v -/
def bwE (g : cG) (k : Nat) (v : Int32) : cG := uE g k (1, 80 + v.toNatClampNeg, (g.2.2.1 k).2.2.1, (g.2.2.1 k).2.2.2.1, (g.2.2.1 k).2.2.2.2.1, (g.2.2.1 k).2.2.2.2.2.1, 1 <<< (v &&& 31), 0, (g.2.2.1 k).2.2.2.2.2.2.2.2)
def lfS (g : cG) (k v : Int32) : cG := oneC (if k = 0 then bwE g (cnt g) v else if k = 1 then sTr (bvE g (cnt g)) (cnt g) v else uV (bvE g (cnt g)) (cnt g) (4, v.toInt64, (g.1 (cnt g)).2.2))
theorem xR_leaf {E : cEnv} (hE : cOk E) (g : cG) (k v : Int32) (hc : cntOk g) : (v < 0 ∨ ¬ v ≤ laI k → cSd E mR_leaf [qR 0 0, qI k, qI v] g (some (qI (-1))) g) ∧ (¬ v < 0 → v ≤ laI k → ¬ g.2.2.2.1.1 < 80 → cSd E mR_leaf [qR 0 0, qI k, qI v] g (some (qI (-3))) g) ∧ (¬ v < 0 → v ≤ laI k → g.2.2.2.1.1 < 80 → cSd E mR_leaf [qR 0 0, qI k, qI v] g (some (qI g.2.2.2.1.1)) (lfS g k v)) := by
  refine ⟨fun h => ?_, fun h1 h2 h3 => ?_, fun h1 h2 h3 => ?_⟩
  · refine qm_meth hE (by decide) rfl rfl (Nat.le_of_ble_eq_true rfl) ?_
    intro p e st mm args below meth c Q C _ _
    by_cases h1 : v < 0
    · exact qm_step (sR_leaf hE) C 0 9999 100 ([1], [], []) ⟨h1, rfl, rfl⟩
    · exact qm_step (sR_leaf hE) C 0 9999 100 ([0, 0], [], [(_, g)]) ⟨h1, xR_lastLeaf hE g k, h.resolve_left h1, rfl, rfl⟩
  · refine qm_meth hE (by decide) rfl rfl (Nat.le_of_ble_eq_true rfl) ?_
    intro p e st mm args below meth c Q C _ _
    exact qm_step (sR_leaf hE) C 0 9999 100 ([0, 1, 0], [], [(_, g)]) ⟨h1, xR_lastLeaf hE g k, h2, h3, rfl, rfl⟩
  · refine qm_meth hE (by decide) rfl rfl (Nat.le_of_ble_eq_true rfl) ?_
    intro p e st mm args below meth c Q C _ _
    unfold lfS at C
    by_cases hk0 : k = 0
    · rw [if_pos hk0] at C
      have hv : vp_in v 8 := by
        obtain ⟨j, hj, hje⟩ := nI_of2 (M := 7) (n := 7) (by decide) h1 (by unfold laI at h2; rw [if_pos hk0] at h2; exact h2)
        rw [hje]
        exact vp_in_nI (by omega) (by decide)
      exact qm_step (sR_leaf hE) C 0 9999 100 ([0, 1, 1, 0], [], [(_, g), (none, bwE g (cnt g) v)]) ⟨h1, xR_lastLeaf hE g k, h2, h3, cnt_in hc h3, hk0, hv, xE_becomeVariable hE g (cnt g) (80 + v.toNatClampNeg) v, rfl, rfl⟩
    rw [if_neg hk0] at C
    by_cases hk1 : k = 1
    · rw [if_pos hk1] at C
      exact qm_step (sR_leaf hE) C 0 9999 100 ([0, 1, 1, 1, 0], [], [(_, g), (some (qR 1 (cnt g)), bvE g (cnt g)), (none, sTr (bvE g (cnt g)) (cnt g) v)]) ⟨h1, xR_lastLeaf hE g k, h2, h3, cnt_in hc h3, hk0, hk1, xE_becomeValue hE g (cnt g), xV_setTruth hE (bvE g (cnt g)) (cnt g) v, rfl, rfl⟩
    · rw [if_neg hk1] at C
      exact qm_step (sR_leaf hE) C 0 9999 100 ([0, 1, 1, 1, 1], [], [(_, g), (some (qR 1 (cnt g)), bvE g (cnt g)), (none, uV (bvE g (cnt g)) (cnt g) (4, v.toInt64, (g.1 (cnt g)).2.2))]) ⟨h1, xR_lastLeaf hE g k, h2, h3, cnt_in hc h3, hk0, hk1, xE_becomeValue hE g (cnt g), xV_setNode hE (bvE g (cnt g)) (cnt g) v, rfl, rfl⟩
/-- the tape is empty -/
def emT (g : cG) : cG := uC g (g.2.2.2.1.1, 0)
def tpL (g : cG) (n : Nat) : List Int32 := (List.range' 0 n).map g.2.2.2.2.1
def teS (g : cG) (t : Int32) (n : Nat) : cG := oneC (apN (stS (bvE (emT g) (cnt g)) (cnt g) t) (cnt g) (tpL g n))
theorem xR_text {E : cEnv} (hE : cOk E) (g : cG) (t : Int32) (n : Nat) (hc : cntOk g) (hn : n ≤ 48) (ht : g.2.2.2.1.2 = nI n) : (24 < n ∨ t < 0 ∨ ¬ t ≤ 26 → cSd E mR_text [qR 0 0, qI t] g (some (qI (-1))) (emT g)) ∧ (n ≤ 24 → ¬ t < 0 → t ≤ 26 → ¬ g.2.2.2.1.1 < 80 → cSd E mR_text [qR 0 0, qI t] g (some (qI (-3))) (emT g)) ∧ (n ≤ 24 → ¬ t < 0 → t ≤ 26 → g.2.2.2.1.1 < 80 → cSd E mR_text [qR 0 0, qI t] g (some (qI g.2.2.2.1.1)) (teS g t n)) := by
  refine ⟨fun h => ?_, fun h1 h2 h3 h4 => ?_, fun h1 h2 h3 h4 => ?_⟩
  · refine qm_meth hE (by decide) rfl rfl (Nat.le_of_ble_eq_true rfl) ?_
    intro p e st mm args below meth c Q C _ _
    by_cases h1 : 24 < n
    · have hh : (24 : Int32) < g.2.2.2.1.2 := by rw [ht]; exact nI_lt (a := 24) h1 (by omega)
      exact qm_step (sR_text hE) C 0 9999 100 ([1], [], []) ⟨hh, rfl, rfl⟩
    · have hh : ¬ (24 : Int32) < g.2.2.2.1.2 := by rw [ht]; exact nI_nlt (a := 24) (by omega) (by decide)
      have h := h.resolve_left h1
      by_cases h2 : t < 0
      · exact qm_step (sR_text hE) C 0 9999 100 ([0, 1], [], []) ⟨hh, h2, rfl, rfl⟩
      · exact qm_step (sR_text hE) C 0 9999 100 ([0, 0, 0], [], []) ⟨hh, h2, h.resolve_left h2, rfl, rfl⟩
  · refine qm_meth hE (by decide) rfl rfl (Nat.le_of_ble_eq_true rfl) ?_
    intro p e st mm args below meth c Q C _ _
    have hh : ¬ (24 : Int32) < g.2.2.2.1.2 := by rw [ht]; exact nI_nlt (a := 24) h1 (by decide)
    exact qm_step (sR_text hE) C 0 9999 100 ([0, 0, 1, 0], [], []) ⟨hh, h2, h3, h4, rfl, rfl⟩
  · refine qm_meth hE (by decide) rfl rfl (Nat.le_of_ble_eq_true rfl) ?_
    intro p e st mm args below meth c Q C _ _
    have hh : ¬ (24 : Int32) < g.2.2.2.1.2 := by rw [ht]; exact nI_nlt (a := 24) h1 (by decide)
    have loop : ∀ (r k : Nat) (w : Int32) (g1 : cG), k + r = n → w = nI k → okT g1 (cnt g) → g1.2.2.2 = (emT g).2.2.2 → oneC (apN g1 (cnt g) ((List.range' k r).map g.2.2.2.2.1)) = teS g t n → qm_W (cLa E.2.2.2.1) cV (cHold E) (cA E.2.2.2.1) 5 p E.1 e (rmL 2) st mm args below meth c Q 61 ([some (qR 0 0), some (qI t), some (qI g.2.2.2.1.2), some (qR 1 (cnt g)), some (qI w)], [], g1) := by
      intro r
      induction r with
      | zero =>
        intro k w g1 hk hw _ hg hf
        subst hw
        have hcc : g.2.2.2.1.2 ≤ nI k := by rw [ht]; exact nI_le (by omega) (by omega)
        have e1 : (some (qI g1.2.2.2.1.1) : Option qm_v) = some (qI g.2.2.2.1.1) := by rw [hg]; rfl
        exact qm_step (sR_text hE) C 61 9999 100 ([1], [], []) ⟨hcc, e1, hf⟩
      | succ r ih =>
        intro k w g1 hk hw ho hg hf
        subst hw
        have hcc : ¬ g.2.2.2.1.2 ≤ nI k := by rw [ht]; exact nI_ge (by omega) (by omega)
        have hin : vp_in (nI k) 48 := vp_in_nI (by omega) (by decide)
        have hap := xV_append hE g1 (cnt g) (g1.2.2.2.2.1 (nI k).toNatClampNeg) ho
        have hf2 : oneC (apN (apS g1 (cnt g) (g1.2.2.2.2.1 (nI k).toNatClampNeg)) (cnt g) ((List.range' (k + 1) r).map g.2.2.2.2.1)) = teS g t n := by
          rw [nI_clamp (by omega), hg, ← hf]; rfl
        have fin : qm_W (cLa E.2.2.2.1) cV (cHold E) (cA E.2.2.2.1) 5 p E.1 e (rmL 2) st mm args below meth c Q 61 ([some (qR 0 0), some (qI t), some (qI g.2.2.2.1.2), some (qR 1 (cnt g)), some (qI (nI k + 1))], [], apS g1 (cnt g) (g1.2.2.2.2.1 (nI k).toNatClampNeg)) := ih (k + 1) _ _ (by omega) (nI_1 k) (apS_ok ho _) (by rw [apS_r]; exact hg) hf2
        exact qm_step (sR_text hE) C 61 61 100 ([0], [], [(none, _)]) ⟨hcc, hin, hap, fin⟩
    exact qm_step (sR_text hE) C 0 61 100 ([0, 0, 1, 1], [], [(some (qR 1 (cnt g)), bvE (emT g) (cnt g)), (none, stS (bvE (emT g) (cnt g)) (cnt g) t)]) ⟨hh, h2, h3, h4, cnt_in hc h4, xE_becomeValue hE (emT g) (cnt g), xV_startText hE (bvE (emT g) (cnt g)) (cnt g) t, loop n 0 _ _ (by omega) rfl (stS_ok _ _ _) rfl rfl⟩
end
section
/-! FunctionRows: type, call -/
/-- a byte that may be typed -/
def byOk (x : Int64) (k : Nat) : Prop := ¬ byI x (nI k) < 32 ∧ byI x (nI k) ≤ 126
def tyF (x : Int64) : Nat → Nat → (Nat → Int32) → Nat → Int32
  | 0, _, f => f
  | i + 1, t, f => tyF x i (t + 1) (upd f t (byI x (nI i)).toInt8.toInt32)
def tyS (g : cG) (x : Int64) (n t : Nat) : cG := uT (uC g (g.2.2.2.1.1, nI (t + n))) (tyF x n t g.2.2.2.2.1)
theorem xR_type_bad {E : cEnv} (hE : cOk E) (g : cG) (x : Int64) (n : Int32) (h : n < 1 ∨ ¬ n ≤ 8) : cSd E mR_type [qR 0 0, qL x, qI n] g (some (qI (-1))) g := by
  refine qm_meth hE (by decide) rfl rfl (Nat.le_of_ble_eq_true rfl) ?_
  intro p e st mm args below meth c Q C _ _
  by_cases h1 : n < 1
  · exact qm_step (sR_type hE) C 0 9999 100 ([1], [], []) ⟨h1, rfl, rfl⟩
  · exact qm_step (sR_type hE) C 0 9999 100 ([0, 0], [], []) ⟨h1, h.resolve_left h1, rfl, rfl⟩
theorem xR_type {E : cEnv} (hE : cOk E) (g : cG) (x : Int64) (n t : Nat) (hn1 : 1 ≤ n) (hn8 : n ≤ 8) (ht : t ≤ 48) (hg : g.2.2.2.1.2 = nI t) : ((∃ k, k < n ∧ ¬ byOk x k) → cSd E mR_type [qR 0 0, qL x, qI (nI n)] g (some (qI (-1))) g) ∧ ((∀ k, k < n → byOk x k) → 48 < t + n → cSd E mR_type [qR 0 0, qL x, qI (nI n)] g (some (qI (-3))) g) ∧ ((∀ k, k < n → byOk x k) → t + n ≤ 48 → cSd E mR_type [qR 0 0, qL x, qI (nI n)] g (some (qI (nI (t + n)))) (tyS g x n t)) := by
  have hn1' : ¬ nI n < 1 := nI_nlt (b := 1) hn1 (by omega)
  have hn8' : nI n ≤ 8 := nI_le (b := 8) hn8 (by decide)
  refine ⟨fun h => ?_, fun h h2 => ?_, fun h h2 => ?_⟩
  · refine qm_meth hE (by decide) rfl rfl (Nat.le_of_ble_eq_true rfl) ?_
    intro p e st mm args below meth c Q C _ _
    have loop : ∀ (r k : Nat) (w : Int32) (y : Option qm_v), k + r = n → w = nI k → (∀ j, j < k → byOk x j) → qm_W (cLa E.2.2.2.1) cV (cHold E) (cA E.2.2.2.1) 6 p E.1 e (rmL 2) st mm args below meth c Q 16 ([some (qR 0 0), some (qL x), none, some (qI (nI n)), some (qI w), y], [], g) := by
      intro r
      induction r with
      | zero =>
        intro k w y hk hw hx
        obtain ⟨j, hj, hjb⟩ := h
        exact absurd (hx j (by omega)) hjb
      | succ r ih =>
        intro k w y hk hw hx
        subst hw
        have hc : ¬ nI n ≤ nI k := nI_ge (by omega) (by omega)
        by_cases h1 : byI x (nI k) < 32
        · exact qm_step (sR_type hE) C 16 9999 100 ([0, 1], [], [(_, g)]) ⟨hc, xR_byteOf hE g x (nI k), h1, rfl, rfl⟩
        · by_cases h2 : byI x (nI k) ≤ 126
          · have fin := ih (k + 1) (nI k + 1) (some (qI (byI x (nI k)))) (by omega) (nI_1 k) (lt_s hx ⟨h1, h2⟩)
            exact qm_step (sR_type hE) C 16 16 100 ([0, 0, 1], [], [(_, g)]) ⟨hc, xR_byteOf hE g x (nI k), h1, h2, fin⟩
          · exact qm_step (sR_type hE) C 16 9999 100 ([0, 0, 0], [], [(_, g)]) ⟨hc, xR_byteOf hE g x (nI k), h1, h2, rfl, rfl⟩
    exact qm_step (sR_type hE) C 0 16 100 ([0, 1], [], []) ⟨hn1', hn8', loop n 0 _ _ (by omega) rfl (fun j hj => by omega)⟩
  · refine qm_meth hE (by decide) rfl rfl (Nat.le_of_ble_eq_true rfl) ?_
    intro p e st mm args below meth c Q C _ _
    have hfull : ¬ g.2.2.2.1.2 + nI n ≤ 48 := by rw [hg, nI_add]; exact nI_ge (a := 48) h2 (by omega)
    have loop : ∀ (r k : Nat) (w : Int32) (y : Option qm_v), k + r = n → w = nI k → qm_W (cLa E.2.2.2.1) cV (cHold E) (cA E.2.2.2.1) 6 p E.1 e (rmL 2) st mm args below meth c Q 16 ([some (qR 0 0), some (qL x), none, some (qI (nI n)), some (qI w), y], [], g) := by
      intro r
      induction r with
      | zero =>
        intro k w y hk hw
        subst hw
        have hc : nI n ≤ nI k := nI_le (by omega) (by omega)
        exact qm_step (sR_type hE) C 16 9999 100 ([1, 0], [], []) ⟨hc, hfull, rfl, rfl⟩
      | succ r ih =>
        intro k w y hk hw
        subst hw
        have hc : ¬ nI n ≤ nI k := nI_ge (by omega) (by omega)
        have hb := h k (by omega)
        have fin := ih (k + 1) (nI k + 1) (some (qI (byI x (nI k)))) (by omega) (nI_1 k)
        exact qm_step (sR_type hE) C 16 16 100 ([0, 0, 1], [], [(_, g)]) ⟨hc, xR_byteOf hE g x (nI k), hb.1, hb.2, fin⟩
    exact qm_step (sR_type hE) C 0 16 100 ([0, 1], [], []) ⟨hn1', hn8', loop n 0 _ _ (by omega) rfl⟩
  · refine qm_meth hE (by decide) rfl rfl (Nat.le_of_ble_eq_true rfl) ?_
    intro p e st mm args below meth c Q C _ _
    have hroom : g.2.2.2.1.2 + nI n ≤ 48 := by rw [hg, nI_add]; exact nI_le (b := 48) h2 (by decide)
    have loop2 : ∀ (i u : Nat) (w : Int32) (y : Option qm_v) (f : Nat → Int32), u + i = t + n → w = nI i - 1 → tyF x i u f = tyF x n t g.2.2.2.2.1 → qm_W (cLa E.2.2.2.1) cV (cHold E) (cA E.2.2.2.1) 6 p E.1 e (rmL 2) st mm args below meth c Q 71 ([some (qR 0 0), some (qL x), none, some (qI (nI n)), some (qI w), y], [], uT (uC g (g.2.2.2.1.1, nI u)) f) := by
      intro i
      induction i with
      | zero =>
        intro u w y f hu hw hf
        subst hw
        have hc : nI 0 - 1 < 0 := by decide
        have e1 : (some (qI (nI u)) : Option qm_v) = some (qI (nI (t + n))) := by rw [show u = t + n by omega]
        have e2 : uT (uC g (g.2.2.2.1.1, nI u)) f = tyS g x n t := by
          unfold tyS
          rw [← hf, show u = t + n by omega]
          rfl
        exact qm_step (sR_type hE) C 71 9999 100 ([1], [], []) ⟨hc, e1, e2⟩
      | succ i ih =>
        intro u w y f hu hw hf
        rw [nI_pred] at hw
        subst hw
        have hc : ¬ nI i < 0 := nI_pos (by omega)
        have hin : vp_in (nI u) 48 := vp_in_nI (by omega) (by decide)
        have e3 : uT (uC g (g.2.2.2.1.1, nI u + 1)) (upd f (nI u).toNatClampNeg (byI x (nI i)).toInt8.toInt32.toInt8.toInt32) = uT (uC g (g.2.2.2.1.1, nI (u + 1))) (upd f u (byI x (nI i)).toInt8.toInt32) := by
          have hbb : (byI x (nI i)).toInt8.toInt32.toInt8.toInt32 = (byI x (nI i)).toInt8.toInt32 := pk_vb _
          rw [nI_1, nI_clamp (by omega), hbb]
        have fin := ih (u + 1) (nI i + -1) y (upd f u (byI x (nI i)).toInt8.toInt32) (by omega) (Int32.sub_eq_add_neg _ _).symm hf
        rw [← e3] at fin
        exact qm_step (sR_type hE) C 71 71 100 ([0], [], [(_, uT (uC g (g.2.2.2.1.1, nI u)) f)]) ⟨hc, xR_byteOf hE (uT (uC g (g.2.2.2.1.1, nI u)) f) x (nI i), hin, fin⟩
    have loop : ∀ (r k : Nat) (w : Int32) (y : Option qm_v), k + r = n → w = nI k → qm_W (cLa E.2.2.2.1) cV (cHold E) (cA E.2.2.2.1) 6 p E.1 e (rmL 2) st mm args below meth c Q 16 ([some (qR 0 0), some (qL x), none, some (qI (nI n)), some (qI w), y], [], g) := by
      intro r
      induction r with
      | zero =>
        intro k w y hk hw
        subst hw
        have hc : nI n ≤ nI k := nI_le (by omega) (by omega)
        have fin := loop2 n t (nI n - 1) y g.2.2.2.2.1 (by omega) rfl rfl
        have e0 : uT (uC g (g.2.2.2.1.1, nI t)) g.2.2.2.2.1 = g := by rw [← hg]; rfl
        rw [e0] at fin
        exact qm_step (sR_type hE) C 16 71 100 ([1, 1], [], []) ⟨hc, hroom, fin⟩
      | succ r ih =>
        intro k w y hk hw
        subst hw
        have hc : ¬ nI n ≤ nI k := nI_ge (by omega) (by omega)
        have hb := h k (by omega)
        have fin := ih (k + 1) (nI k + 1) (some (qI (byI x (nI k)))) (by omega) (nI_1 k)
        exact qm_step (sR_type hE) C 16 16 100 ([0, 0, 1], [], [(_, g)]) ⟨hc, xR_byteOf hE g x (nI k), hb.1, hb.2, fin⟩
    exact qm_step (sR_type hE) C 0 16 100 ([0, 1], [], []) ⟨hn1', hn8', loop n 0 _ _ (by omega) rfl⟩
-- call
def tkL : List Int32 := [1, 2, 2, 2, 2, 2, 2, 2, 2, 2, 1, 3, 1, 1, 2, 2, 2, 2, 2, 2, 1, 1, 3, 2, 1, 1, 1, 2, 3, 3]
def tkI (op : Int32) : Int32 := if op < 0 ∨ 30 ≤ op then -1 else tkL.getD op.toNatClampNeg 0
def bcS (g : cG) (op : Int32) (a b d : Nat) : cG := oneC (uE g (cnt g) (2, cnt g, op, some a, some b, some d, (g.2.2.1 a).2.2.2.2.2.2.1 ||| (g.2.2.1 b).2.2.2.2.2.2.1 ||| (g.2.2.1 d).2.2.2.2.2.2.1, lvC g a b d, (g.2.2.1 (cnt g)).2.2.2.2.2.2.2.2))
theorem isEx_in {g : cG} (hc : cntOk g) {x : Int32} (h : isEx g x) : vp_in x 80 ∧ x.toNatClampNeg < cnt g := by
  obtain ⟨n, hn, he⟩ := hc
  obtain ⟨j, hj, hje⟩ := nI_of h.1
  have h2 := h.2
  rw [he, hje] at h2
  have : j < n := by
    rcases Nat.lt_or_ge j n with q | q
    · exact q
    · exact absurd (nI_le q hj) h2
  subst hje
  refine ⟨vp_in_nI (by omega) (by decide), ?_⟩
  unfold cnt
  rw [he, nI_clamp hj, nI_clamp (by omega)]
  exact this
theorem xR_call_open {E : cEnv} (hE : cOk E) (hT : ∀ (g : cG) (x : Int32), cSd E mR_takes [qR 0 0, qI x] g (some (qI (tkI x))) g) (g : cG) (op a b d : Int32) (hc : cntOk g) :
    (tkI op = -1 → cSd E mR_call [qR 0 0, qI op, qI a, qI b, qI d] g (some (qI (-1))) g) ∧
    (∀ s t : Int32, ¬ tkI op = -1 → s = (if tkI op ≤ 1 then a else b) → t = (if tkI op ≤ 2 then a else d) →
      (¬ (isEx g a ∧ isEx g s ∧ isEx g t) → cSd E mR_call [qR 0 0, qI op, qI a, qI b, qI d] g (some (qI (-1))) g) ∧
      (isEx g a → isEx g s → isEx g t → ¬ g.2.2.2.1.1 < 80 → cSd E mR_call [qR 0 0, qI op, qI a, qI b, qI d] g (some (qI (-3))) g) ∧
      (isEx g a → isEx g s → isEx g t → g.2.2.2.1.1 < 80 → cSd E mR_call [qR 0 0, qI op, qI a, qI b, qI d] g (some (qI g.2.2.2.1.1)) (bcS g op a.toNatClampNeg s.toNatClampNeg t.toNatClampNeg))) := by
  have ht := hT g op
  constructor
  · intro h
    refine qm_meth hE (by decide) rfl rfl (Nat.le_of_ble_eq_true rfl) ?_
    intro p e st mm args below meth c Q C _ _
    exact qm_step (sR_call hE) C 0 9999 100 ([0], [], [(_, g)]) ⟨ht, h, rfl, rfl⟩
  · intro s t h0 hs ht2
    -- to 42, whatever stands behind
    have go : ∀ (r : Option qm_v) (g' : cG), (∀ (p : Program) (e : Env) (st : State) (mm : MethodId) (args : Array Value) (below : List Frame) (meth : Method) (c : Code) (Q : State → Prop), qm_C (cLa E.2.2.2.1) cV (cHold E) (cA E.2.2.2.1) (fun r1 g1 => r1 = r ∧ g1 = g') prog_1_method_6_code 8 "FunctionRows" (wsT yR_call prog_1_method_6_code 8 (some .int)) (some .int) p st mm args below meth c Q → qm_W (cLa E.2.2.2.1) cV (cHold E) (cA E.2.2.2.1) 8 p E.1 e (rmL 2) st mm args below meth c Q 42 ([some (qR 0 0), some (qI op), some (qI a), some (qI b), some (qI d), some (qI (tkI op)), some (qI s), some (qI t)], [], g)) → cSd E mR_call [qR 0 0, qI op, qI a, qI b, qI d] g r g' := by
      intro r g' K
      refine qm_meth hE (by decide) rfl rfl (Nat.le_of_ble_eq_true rfl) ?_
      intro p e st mm args below meth c Q C _ _
      have K := K p e st mm args below meth c Q C
      by_cases h1 : tkI op ≤ 1
      · rw [if_pos h1] at hs
        have h2 : tkI op ≤ 2 := Int32.le_trans h1 (by decide)
        rw [if_pos h2] at ht2
        subst hs ht2
        exact qm_step (sR_call hE) C 0 42 100 ([1, 1, 1], [], [(_, g)]) ⟨ht, h0, h1, h2, K⟩
      · rw [if_neg h1] at hs
        by_cases h2 : tkI op ≤ 2
        · rw [if_pos h2] at ht2
          subst hs ht2
          exact qm_step (sR_call hE) C 0 42 100 ([1, 0, 1], [], [(_, g)]) ⟨ht, h0, h1, h2, K⟩
        · rw [if_neg h2] at ht2
          subst hs ht2
          exact qm_step (sR_call hE) C 0 42 100 ([1, 0, 0], [], [(_, g)]) ⟨ht, h0, h1, h2, K⟩
    refine ⟨fun h => ?_, fun h1 h2 h3 h4 => ?_, fun h1 h2 h3 h4 => ?_⟩
    · refine go _ _ fun p e st mm args below meth c Q C => ?_
      by_cases h1 : isEx g a
      · by_cases h2 : isEx g s
        · have h3 : ¬ isEx g t := fun q => h ⟨h1, h2, q⟩
          exact qm_step (sR_call hE) C 42 9999 100 ([0, 0, 0], [], [(_, g), (_, g), (_, g)]) ⟨(xR_isEx hE g a).1 h1, by decide, (xR_isEx hE g s).1 h2, by decide, (xR_isEx hE g t).2 h3, rfl, rfl, rfl⟩
        · exact qm_step (sR_call hE) C 42 9999 100 ([0, 1], [], [(_, g), (_, g)]) ⟨(xR_isEx hE g a).1 h1, by decide, (xR_isEx hE g s).2 h2, rfl, rfl, rfl⟩
      · exact qm_step (sR_call hE) C 42 9999 100 ([1], [], [(_, g)]) ⟨(xR_isEx hE g a).2 h1, rfl, rfl, rfl⟩
    · refine go _ _ fun p e st mm args below meth c Q C => ?_
      exact qm_step (sR_call hE) C 42 9999 100 ([0, 0, 1, 0], [], [(_, g), (_, g), (_, g)]) ⟨(xR_isEx hE g a).1 h1, by decide, (xR_isEx hE g s).1 h2, by decide, (xR_isEx hE g t).1 h3, by decide, h4, rfl, rfl⟩
    · refine go _ _ fun p e st mm args below meth c Q C => ?_
      obtain ⟨i1, j1⟩ := isEx_in hc h1
      obtain ⟨i2, j2⟩ := isEx_in hc h2
      obtain ⟨i3, j3⟩ := isEx_in hc h3
      have hbc := xE_becomeCall hE g (cnt g) a.toNatClampNeg s.toNatClampNeg t.toNatClampNeg op (by omega) (by omega) (by omega)
      exact qm_step (sR_call hE) C 42 9999 100 ([0, 0, 1, 1], [], [(_, g), (_, g), (_, g), (none, _)]) ⟨(xR_isEx hE g a).1 h1, by decide, (xR_isEx hE g s).1 h2, by decide, (xR_isEx hE g t).1 h3, by decide, h4, cnt_in hc h4, i1, i2, i3, hbc, rfl, rfl⟩
end
section
/-! FunctionRows.reckon, run: over contracts of goes and toWords that stand open -/
def lnN (g : cG) (j : Nat) : Nat := (g.1 j).2.2.2.toNatClampNeg
/-- a value as operations may meet it -/
def vOk (g : cG) (j : Nat) : Prop := ((g.1 j).1 = 3 → ∃ n : Nat, n ≤ 24 ∧ (g.1 j).2.2.2 = nI n) ∧ ((g.1 j).1 = 2 → -1000000000000000 ≤ (g.1 j).2.1.toInt ∧ (g.1 j).2.1.toInt ≤ 1000000000000000)
theorem vOk_len {g : cG} {j : Nat} (h : vOk g j) : ∃ n : Nat, n ≤ 24 ∧ ((g.1 j).1 = 3 → (g.1 j).2.2.2 = nI n ∧ lnN g j = n) := by
  by_cases h3 : (g.1 j).1 = 3
  · obtain ⟨n, hn, he⟩ := h.1 h3
    exact ⟨n, hn, fun _ => ⟨he, by unfold lnN; rw [he]; exact nI_clamp (by omega)⟩⟩
  · exact ⟨0, by omega, fun q => absurd q h3⟩
/-- what the contracts that stand open say -/
def goOpen (E : cEnv) (gI : cG → Nat → Nat → Int32) (gG : cG → Nat → Nat → cG) : Prop := ∀ (g : cG) (x y : Nat), vOk g x → vOk g y → cSd E mS_goes [qR 7 0, qR 1 x, qR 1 y] g (some (qI (gI g x y))) (gG g x y)
def woOpen (E : cEnv) : Prop := ∀ (g : cG) (i a n : Nat), a ≠ i → n ≤ 24 → ((g.1 a).1 = 3 → (g.1 a).2.2.2 = nI n) → cSd E mC_toWords [qR 1 i, qR 1 a] g none (twS g i a n)
def rkS (gI : cG → Nat → Nat → Int32) (gG : cG → Nat → Nat → cG) (op : Int32) (g : cG) (i a x n y k z m : Nat) : cG :=
  if op = 24 then sTr g i (gvI g a) else if op = 27 then sTr (gG g x y) i (gI g x y)
  else if ¬ op < 5 ∧ ¬ 9 < op then whS op g i x y
  else if (¬ op < 10 ∧ op ≤ 20) ∨ op = 28 then txS op g i x n y k z m
  else if ¬ op < 21 ∧ ¬ 26 < op then caS op g i x n y k z m else sTr g i (tRk op g x n y k z m)
theorem xR_reckon_open {E : cEnv} (hE : cOk E) (hX : qm_Nx E) {gI : cG → Nat → Nat → Int32} {gG : cG → Nat → Nat → cG} (hG : goOpen E gI gG) (hW : woOpen E) (g : cG) (i a b d x n y k z m : Nat) (op : Int32)
    (hv : (g.2.2.1 i).2.1 = i) (hop : (g.2.2.1 i).2.2.1 = op) (ha : (g.2.2.1 i).2.2.2.1 = some a) (hb : (g.2.2.1 i).2.2.2.2.1 = some b) (hd : (g.2.2.1 i).2.2.2.2.2.1 = some d)
    (hx : (g.2.2.1 a).2.1 = x) (hy : (g.2.2.1 b).2.1 = y) (hz : (g.2.2.1 d).2.1 = z) (hxi : x ≠ i) (hyi : y ≠ i) (hzi : z ≠ i) (ox : vOk g x) (oy : vOk g y) (oz : vOk g z)
    (hn : n ≤ 24) (hk : k ≤ 24) (hm : m ≤ 24) (lx : (g.1 x).1 = 3 → (g.1 x).2.2.2 = nI n) (ly : (g.1 y).1 = 3 → (g.1 y).2.2.2 = nI k) (lz : (g.1 z).1 = 3 → (g.1 z).2.2.2 = nI m) :
    cSd E mR_reckon [qR 0 0, qR 3 i] g none (rkS gI gG op g i a x n y k z m) := by
  refine qm_meth hE (by decide) rfl rfl (Nat.le_of_ble_eq_true rfl) ?_
  intro p e st mm args below meth c Q C _ _
  have h4 : rdE4 g i = some (3, a) := by unfold rdE4 cRf; rw [ha]; rfl
  have h5 : rdE5 g i = some (3, b) := by unfold rdE5 cRf; rw [hb]; rfl
  have h6 : rdE6 g i = some (3, d) := by unfold rdE6 cRf; rw [hd]; rfl
  subst hx hy hz hop
  unfold rkS at C
  have W0 : ∀ (K : qm_W (cLa E.2.2.2.1) cV (cHold E) (cA E.2.2.2.1) 5 p E.1 e (rmL 6) st mm args below meth c Q 25 ([some (qR 0 0), some (qR 3 i), some (qR 1 (g.2.2.1 a).2.1), some (qR 1 (g.2.2.1 b).2.1), some (qR 1 (g.2.2.1 d).2.1)], [], g)), qm_W (cLa E.2.2.2.1) cV (cHold E) (cA E.2.2.2.1) 5 p E.1 e (rmL 6) st mm args below meth c Q 0 (qm_ent 5 [qR 0 0, qR 3 i], [], g) := fun K => qm_step (sR_reckon hE) C 0 25 100 ([], [some (3, a), some (3, b), some (3, d)], []) ⟨h4, h5, h6, K⟩
  refine W0 ?_
  clear W0
  have vi : ∀ (P : Nat → Prop), P i → P (g.2.2.1 i).2.1 := fun P h => by rw [hv]; exact h
  by_cases c1 : (g.2.2.1 i).2.2.1 = 24
  · rw [if_pos c1] at C
    have hs := vi (fun w => cSd E mV_setTruth [qR 1 w, qI (gvI g a)] g none (sTr g i (gvI g a))) (xV_setTruth hE g i (gvI g a))
    exact qm_step (sR_reckon hE) C 25 9999 100 ([0], [some (3, a)], [(_, g), (none, _)]) ⟨c1, h4, xE_given hE g a, hs, rfl, rfl⟩
  rw [if_neg c1] at C
  by_cases c2 : (g.2.2.1 i).2.2.1 = 27
  · rw [if_pos c2] at C
    have hs := vi (fun w => cSd E mV_setTruth [qR 1 w, qI (gI g (g.2.2.1 a).2.1 (g.2.2.1 b).2.1)] (gG g (g.2.2.1 a).2.1 (g.2.2.1 b).2.1) none (sTr (gG g (g.2.2.1 a).2.1 (g.2.2.1 b).2.1) i (gI g (g.2.2.1 a).2.1 (g.2.2.1 b).2.1))) (xV_setTruth hE _ i _)
    exact qm_step (sR_reckon hE) C 25 9999 100 ([1, 0], [], [(_, gG g (g.2.2.1 a).2.1 (g.2.2.1 b).2.1), (none, _)]) ⟨c1, c2, hG g _ _ ox oy, hs, rfl, rfl⟩
  rw [if_neg c2] at C
  by_cases c3 : ¬ (g.2.2.1 i).2.2.1 < 5 ∧ ¬ 9 < (g.2.2.1 i).2.2.1
  · rw [if_pos c3] at C
    have hs := vi (fun w => cSd E mH_reckon [qI (g.2.2.1 i).2.2.1, qR 1 w, qR 1 (g.2.2.1 a).2.1, qR 1 (g.2.2.1 b).2.1] g none (whS (g.2.2.1 i).2.2.1 g i (g.2.2.1 a).2.1 (g.2.2.1 b).2.1)) (xH_reckon hE hX _ g i _ _)
    exact qm_step (sR_reckon hE) C 25 9999 100 ([1, 1, 0, 0], [], [(none, _)]) ⟨c1, c2, c3.1, c3.2, hs, rfl, rfl⟩
  rw [if_neg c3] at C
  have K112 : ∀ (K : qm_W (cLa E.2.2.2.1) cV (cHold E) (cA E.2.2.2.1) 5 p E.1 e (rmL 6) st mm args below meth c Q 112 ([some (qR 0 0), some (qR 3 i), some (qR 1 (g.2.2.1 a).2.1), some (qR 1 (g.2.2.1 b).2.1), some (qR 1 (g.2.2.1 d).2.1)], [], g)), qm_W (cLa E.2.2.2.1) cV (cHold E) (cA E.2.2.2.1) 5 p E.1 e (rmL 6) st mm args below meth c Q 25 ([some (qR 0 0), some (qR 3 i), some (qR 1 (g.2.2.1 a).2.1), some (qR 1 (g.2.2.1 b).2.1), some (qR 1 (g.2.2.1 d).2.1)], [], g) := by
    intro K
    by_cases c4 : (g.2.2.1 i).2.2.1 < 5
    · exact qm_step (sR_reckon hE) C 25 112 100 ([1, 1, 1], [], []) ⟨c1, c2, c4, K⟩
    · have c5 : 9 < (g.2.2.1 i).2.2.1 := Classical.not_not.mp fun q => c3 ⟨c4, q⟩
      exact qm_step (sR_reckon hE) C 25 112 100 ([1, 1, 0, 1], [], []) ⟨c1, c2, c4, c5, K⟩
  refine K112 ?_
  clear K112
  by_cases c6 : (¬ (g.2.2.1 i).2.2.1 < 10 ∧ (g.2.2.1 i).2.2.1 ≤ 20) ∨ (g.2.2.1 i).2.2.1 = 28
  · rw [if_pos c6] at C
    have hs := vi (fun w => cSd E mT_reckon [qI (g.2.2.1 i).2.2.1, qR 1 w, qR 1 (g.2.2.1 a).2.1, qR 1 (g.2.2.1 b).2.1, qR 1 (g.2.2.1 d).2.1] g none (txS (g.2.2.1 i).2.2.1 g i (g.2.2.1 a).2.1 n (g.2.2.1 b).2.1 k (g.2.2.1 d).2.1 m)) (xT_reckon hE hX _ g i _ n _ k _ m hxi hyi hzi hn hk hm lx ly lz oy.2 oz.2)
    by_cases c7 : (g.2.2.1 i).2.2.1 < 10
    · have c8 : (g.2.2.1 i).2.2.1 = 28 := c6.resolve_left (fun q => q.1 c7)
      exact qm_step (sR_reckon hE) C 112 9999 100 ([1, 0], [], [(none, _)]) ⟨c7, c8, hs, rfl, rfl⟩
    · by_cases c8 : (g.2.2.1 i).2.2.1 ≤ 20
      · exact qm_step (sR_reckon hE) C 112 9999 100 ([0, 1], [], [(none, _)]) ⟨c7, c8, hs, rfl, rfl⟩
      · have c9 : (g.2.2.1 i).2.2.1 = 28 := c6.resolve_left (fun q => c8 q.2)
        exact qm_step (sR_reckon hE) C 112 9999 100 ([0, 0, 0], [], [(none, _)]) ⟨c7, c8, c9, hs, rfl, rfl⟩
  rw [if_neg c6] at C
  have c28 : ¬ (g.2.2.1 i).2.2.1 = 28 := fun q => c6 (Or.inr q)
  have K157 : ∀ (K : qm_W (cLa E.2.2.2.1) cV (cHold E) (cA E.2.2.2.1) 5 p E.1 e (rmL 6) st mm args below meth c Q 157 ([some (qR 0 0), some (qR 3 i), some (qR 1 (g.2.2.1 a).2.1), some (qR 1 (g.2.2.1 b).2.1), some (qR 1 (g.2.2.1 d).2.1)], [], g)), qm_W (cLa E.2.2.2.1) cV (cHold E) (cA E.2.2.2.1) 5 p E.1 e (rmL 6) st mm args below meth c Q 112 ([some (qR 0 0), some (qR 3 i), some (qR 1 (g.2.2.1 a).2.1), some (qR 1 (g.2.2.1 b).2.1), some (qR 1 (g.2.2.1 d).2.1)], [], g) := by
    intro K
    by_cases c7 : (g.2.2.1 i).2.2.1 < 10
    · exact qm_step (sR_reckon hE) C 112 157 100 ([1, 1], [], []) ⟨c7, c28, K⟩
    · have c8 : ¬ (g.2.2.1 i).2.2.1 ≤ 20 := fun q => c6 (Or.inl ⟨c7, q⟩)
      exact qm_step (sR_reckon hE) C 112 157 100 ([0, 0, 1], [], []) ⟨c7, c8, c28, K⟩
  refine K157 ?_
  clear K157
  by_cases c7 : ¬ (g.2.2.1 i).2.2.1 < 21 ∧ ¬ 26 < (g.2.2.1 i).2.2.1
  · rw [if_pos c7] at C
    have hs := vi (fun w => cSd E mC_reckon [qI (g.2.2.1 i).2.2.1, qR 1 w, qR 1 (g.2.2.1 a).2.1, qR 1 (g.2.2.1 b).2.1, qR 1 (g.2.2.1 d).2.1] g none (caS (g.2.2.1 i).2.2.1 g i (g.2.2.1 a).2.1 n (g.2.2.1 b).2.1 k (g.2.2.1 d).2.1 m)) (xC_reckon_open hE hX hW _ g i _ n _ k _ m hxi hyi hzi hn hk hm lx ly lz)
    exact qm_step (sR_reckon hE) C 157 9999 100 ([0, 0], [], [(none, _)]) ⟨c7.1, c7.2, hs, rfl, rfl⟩
  · rw [if_neg c7] at C
    have hu := xU_reckon hE (g.2.2.1 i).2.2.1 g (g.2.2.1 a).2.1 (g.2.2.1 b).2.1 (g.2.2.1 d).2.1 n k m hn hk hm lx ly lz
    have hs := vi (fun w => cSd E mV_setTruth [qR 1 w, qI (tRk (g.2.2.1 i).2.2.1 g (g.2.2.1 a).2.1 n (g.2.2.1 b).2.1 k (g.2.2.1 d).2.1 m)] g none (sTr g i (tRk (g.2.2.1 i).2.2.1 g (g.2.2.1 a).2.1 n (g.2.2.1 b).2.1 k (g.2.2.1 d).2.1 m))) (xV_setTruth hE g i _)
    by_cases c8 : (g.2.2.1 i).2.2.1 < 21
    · exact qm_step (sR_reckon hE) C 157 9999 100 ([1], [], [(_, g), (none, _)]) ⟨c8, hu, hs, rfl, rfl⟩
    · have c9 : 26 < (g.2.2.1 i).2.2.1 := Classical.not_not.mp fun q => c7 ⟨c8, q⟩
      exact qm_step (sR_reckon hE) C 157 9999 100 ([0, 1], [], [(_, g), (none, _)]) ⟨c8, c9, hu, hs, rfl, rfl⟩
end
section
/-! FunctionRows.run -/
/-- what of an expression no run changes -/
def stE (g : cG) (j : Nat) : Int32 × Nat × Int32 × Option Nat × Option Nat × Option Nat := ((g.2.2.1 j).1, (g.2.2.1 j).2.1, (g.2.2.1 j).2.2.1, (g.2.2.1 j).2.2.2.1, (g.2.2.1 j).2.2.2.2.1, (g.2.2.1 j).2.2.2.2.2.1)
def waI (g : cG) (j : Nat) : Int32 := (g.2.2.1 j).2.2.2.2.2.2.2.2
theorem stE_wnE (g : cG) (k : Nat) (x : Int32) (j : Nat) : stE (wnE g k x) j = stE g j := by
  unfold stE
  by_cases h : j = k
  · subst h
    unfold wnE
    rw [uE_at]
  · rw [wnE_ne _ _ h]
def wfE (g : cG) (k : Nat) : Prop := ∀ i, i ≤ k → (g.2.2.1 i).1 = 2 → ∃ a b d : Nat, (g.2.2.1 i).2.2.2.1 = some a ∧ (g.2.2.1 i).2.2.2.2.1 = some b ∧ (g.2.2.1 i).2.2.2.2.2.1 = some d ∧ a < i ∧ b < i ∧ d < i
theorem wfE_of {g h : cG} (e : ∀ j, stE h j = stE g j) {k : Nat} (hw : wfE g k) : wfE h k := by
  intro i hi hf
  have e1 := e i
  unfold stE at e1
  obtain ⟨e2, e3, e4, e5, e6, e7⟩ := Prod.mk.injEq .. ▸ e1 |> fun q => (by simpa only [Prod.mk.injEq] using q)
  obtain ⟨a, b, d, h1, h2, h3, h4⟩ := hw i hi (e2 ▸ hf)
  exact ⟨a, b, d, e5.trans h1, e6.trans h2, e7.trans h3, h4⟩
def wA (g : cG) : Nat → cG
  | 0 => g
  | i + 1 => wnE (wA g i) i 0
def opA (g : cG) (i : Nat) : Nat := (g.2.2.1 i).2.2.2.1.getD 0
def opB (g : cG) (i : Nat) : Nat := (g.2.2.1 i).2.2.2.2.1.getD 0
def opD (g : cG) (i : Nat) : Nat := (g.2.2.1 i).2.2.2.2.2.1.getD 0
def woS (g : cG) (i : Nat) : cG := if waI g i = 0 then g else if (g.2.2.1 i).1 = 2 then wnE (wnE (wnE g (opA g i) 1) (opB g i) 1) (opD g i) 1 else g
def wB (g : cG) (k : Nat) : Nat → cG
  | 0 => g
  | j + 1 => woS (wB g k j) (k - j)
theorem stE_wA (g : cG) : ∀ i j, stE (wA g i) j = stE g j
  | 0, _ => rfl
  | i + 1, j => (stE_wnE _ _ _ _).trans (stE_wA g i j)
theorem stE_woS (g : cG) (i j : Nat) : stE (woS g i) j = stE g j := by
  unfold woS
  split
  · rfl
  · split
    · rw [stE_wnE, stE_wnE, stE_wnE]
    · rfl
theorem stE_wB (g : cG) (k : Nat) : ∀ i j, stE (wB g k i) j = stE g j
  | 0, _ => rfl
  | i + 1, j => (stE_woS _ _ _).trans (stE_wB g k i j)
/-- all that is wanted for k -/
def gWt (g : cG) (k : Nat) : cG := wB (wnE (wA g k) k 1) k (k + 1)
/-- a length that an operation may be told: that of a TEXT, else 0 -/
def lnT (g : cG) (j : Nat) : Nat := if (g.1 j).1 = 3 then lnN g j else 0
def rcW (gI : cG → Nat → Nat → Int32) (gG : cG → Nat → Nat → cG) (g : cG) (i : Nat) : cG :=
  if waI g i = 0 then g else if (g.2.2.1 i).1 = 2 then rkS gI gG (g.2.2.1 i).2.2.1 g i (opA g i) (g.2.2.1 (opA g i)).2.1 (lnT g (g.2.2.1 (opA g i)).2.1) (g.2.2.1 (opB g i)).2.1 (lnT g (g.2.2.1 (opB g i)).2.1) (g.2.2.1 (opD g i)).2.1 (lnT g (g.2.2.1 (opD g i)).2.1) else g
def rC (gI : cG → Nat → Nat → Int32) (gG : cG → Nat → Nat → cG) (g : cG) : Nat → cG
  | 0 => g
  | i + 1 => rcW gI gG (rC gI gG g i) i
theorem xR_run_bad {E : cEnv} (hE : cOk E) (g : cG) (x : Int32) (h : ¬ isEx g x) : cSd E mR_run [qR 0 0, qI x] g (some (qI (-1))) g := by
  refine qm_meth hE (by decide) rfl rfl (Nat.le_of_ble_eq_true rfl) ?_
  intro p e st mm args below meth c Q C _ _
  exact qm_step (sR_run hE) C 0 9999 100 ([0], [], [(some (qI 0), g)]) ⟨(xR_isEx hE g x).2 h, rfl, rfl, rfl⟩
theorem vOk_lnN {g : cG} {j : Nat} (h : vOk g j) (h3 : (g.1 j).1 = 3) : lnN g j ≤ 24 ∧ (g.1 j).2.2.2 = nI (lnN g j) := by
  obtain ⟨n, hn, he⟩ := h.1 h3
  have : lnN g j = n := by unfold lnN; rw [he]; exact nI_clamp (by omega)
  rw [this]
  exact ⟨hn, he⟩
theorem lnT_of {g : cG} {j : Nat} (h : vOk g j) : lnT g j ≤ 24 ∧ ((g.1 j).1 = 3 → (g.1 j).2.2.2 = nI (lnT g j)) := by
  unfold lnT
  by_cases h3 : (g.1 j).1 = 3
  · rw [if_pos h3]
    obtain ⟨h1, h2⟩ := vOk_lnN h h3
    exact ⟨h1, fun _ => h2⟩
  · rw [if_neg h3]
    exact ⟨by omega, fun q => absurd q h3⟩
end
section
def rnS (gI : cG → Nat → Nat → Int32) (gG : cG → Nat → Nat → cG) (g : cG) (k : Nat) : cG := cpS (rC gI gG (gWt g k) (k + 1)) 88 ((rC gI gG (gWt g k) (k + 1)).2.2.1 k).2.1 (lnT (rC gI gG (gWt g k) (k + 1)) ((rC gI gG (gWt g k) (k + 1)).2.2.1 k).2.1)
set_option maxHeartbeats 400000 in
theorem xR_run_open {E : cEnv} (hE : cOk E) (hX : qm_Nx E) {gI : cG → Nat → Nat → Int32} {gG : cG → Nat → Nat → cG} (hG : goOpen E gI gG) (hW : woOpen E) (g : cG) (k : Nat) (hk : k < 80) (hex : isEx g (nI k)) (hwf : wfE g k) (hval : ∀ i, i ≤ k → (g.2.2.1 i).1 = 2 → (g.2.2.1 i).2.1 = i) (hne : ∀ i, i ≤ k → ∀ a, a < i → (g.2.2.1 a).2.1 ≠ i) (hlt : ∀ i, i ≤ k → (g.2.2.1 i).2.1 < 88)
    (hS : ∀ i, i ≤ k + 1 → (rC gI gG (gWt g k) i).2.2.1 = (gWt g k).2.2.1) (hV : ∀ i, i ≤ k + 1 → ∀ x, x < 88 → vOk (rC gI gG (gWt g k) i) x) :
    cSd E mR_run [qR 0 0, qI (nI k)] g (some (qI ((rnS gI gG g k).1 88).1)) (rnS gI gG g k) := by
  refine qm_meth hE (by decide) rfl rfl (Nat.le_of_ble_eq_true rfl) ?_
  intro p e st mm args below meth c Q C _ _
  have cl : ∀ i, i < 80 → (nI i).toNatClampNeg = i := fun i hi => nI_clamp (by omega)
  have sW : ∀ j, stE (gWt g k) j = stE g j := fun j => (stE_wB _ _ _ _).trans ((stE_wnE _ _ _ _).trans (stE_wA _ _ _))
  have sC : ∀ i, i ≤ k + 1 → ∀ j, stE (rC gI gG (gWt g k) i) j = stE g j := by
    intro i hi j
    rw [← sW j]
    unfold stE
    rw [hS i hi]
  have sv : ∀ {h : cG} {j : Nat}, stE h j = stE g j → (h.2.2.1 j).1 = (g.2.2.1 j).1 ∧ (h.2.2.1 j).2.1 = (g.2.2.1 j).2.1 := by
    intro h j q
    unfold stE at q
    simp only [Prod.mk.injEq] at q
    exact ⟨q.1, q.2.1⟩
  -- the end
  have ends : ∀ w : Int32, qm_W (cLa E.2.2.2.1) cV (cHold E) (cA E.2.2.2.1) 3 p E.1 e (rmL 7) st mm args below meth c Q 123 ([some (qR 0 0), some (qI (nI k)), some (qI w)], [], rC gI gG (gWt g k) (k + 1)) := by
    intro w
    have hin : vp_in (nI k) 80 := vp_in_nI hk (by decide)
    have hvk := (sv (sC (k + 1) (by omega) k)).2
    have hl := hlt k (by omega)
    obtain ⟨l1, l2⟩ := lnT_of (hV (k + 1) (by omega) ((rC gI gG (gWt g k) (k + 1)).2.2.1 k).2.1 (by rw [hvk]; exact hl))
    have hcp := xV_copy hE (rC gI gG (gWt g k) (k + 1)) 88 ((rC gI gG (gWt g k) (k + 1)).2.2.1 k).2.1 _ (by rw [hvk]; omega) l1 l2
    have hcp2 : cSd E mV_copy [qR 1 88, qR 1 ((rC gI gG (gWt g k) (k + 1)).2.2.1 (nI k).toNatClampNeg).2.1] (rC gI gG (gWt g k) (k + 1)) none (rnS gI gG g k) := by rw [cl k hk]; exact hcp
    exact qm_step (sR_run hE) C 123 9999 100 ([], [], [(none, rnS gI gG g k)]) ⟨hin, hcp2, rfl, rfl⟩
  -- reckoning
  have loopC : ∀ (r i : Nat) (w : Int32), i + r = k + 1 → w = nI i → qm_W (cLa E.2.2.2.1) cV (cHold E) (cA E.2.2.2.1) 3 p E.1 e (rmL 7) st mm args below meth c Q 78 ([some (qR 0 0), some (qI (nI k)), some (qI w)], [], rC gI gG (gWt g k) i) := by
    intro r
    induction r with
    | zero =>
      intro i w hi hw
      subst hw
      have hc : nI k < nI i := nI_lt (by omega) (by omega)
      have hi2 : i = k + 1 := by omega
      subst hi2
      exact qm_step (sR_run hE) C 78 123 100 ([1], [], []) ⟨hc, ends _⟩
    | succ r ih =>
      intro i w hi hw
      subst hw
      have hc : ¬ nI k < nI i := nI_nlt (by omega) (by omega)
      have hin : vp_in (nI i) 80 := vp_in_nI (by omega) (by decide)
      have ci := cl i (by omega)
      have fin := ih (i + 1) (nI i + 1) (by omega) (nI_1 i)
      have hs : rC gI gG (gWt g k) (i + 1) = rcW gI gG (rC gI gG (gWt g k) i) i := rfl
      rw [hs] at fin
      have sCi := sC i (by omega)
      have hVi := hV i (by omega)
      generalize rC gI gG (gWt g k) i = g1 at fin sCi hVi ⊢
      unfold rcW at fin
      by_cases h0 : waI g1 i = 0
      · rw [if_pos h0] at fin
        have h0' : (g1.2.2.1 (nI i).toNatClampNeg).2.2.2.2.2.2.2.2 = 0 := by rw [ci]; exact h0
        exact qm_step (sR_run hE) C 78 78 100 ([0, 1], [], []) ⟨hc, hin, h0', fin⟩
      · rw [if_neg h0] at fin
        have h0' : ¬ (g1.2.2.1 (nI i).toNatClampNeg).2.2.2.2.2.2.2.2 = 0 := by rw [ci]; exact h0
        by_cases h2 : (g1.2.2.1 i).1 = 2
        · rw [if_pos h2] at fin
          have hwf1 := wfE_of sCi hwf
          obtain ⟨a, b, d, ha, hb, hd, la, lb, ld⟩ := hwf1 i (by omega) h2
          have hic : cSd E mE_isCall [qR 3 (nI i).toNatClampNeg] g1 (some (qI 1)) g1 := by rw [ci]; exact (xE_isCall hE g1 i).1 h2 a b d ha hb hd
          have ea : opA g1 i = a := by unfold opA; rw [ha]; rfl
          have eb : opB g1 i = b := by unfold opB; rw [hb]; rfl
          have ed : opD g1 i = d := by unfold opD; rw [hd]; rfl
          rw [ea, eb, ed] at fin
          have hf2 := (sv (sCi i)).1
          have hv1 : (g1.2.2.1 i).2.1 = i := (sv (sCi i)).2.trans (hval i (by omega) (hf2.symm.trans h2))
          have hx := (sv (sCi a)).2
          have hy := (sv (sCi b)).2
          have hz := (sv (sCi d)).2
          have ox := hVi (g1.2.2.1 a).2.1 (by rw [hx]; exact hlt a (by omega))
          have oy := hVi (g1.2.2.1 b).2.1 (by rw [hy]; exact hlt b (by omega))
          have oz := hVi (g1.2.2.1 d).2.1 (by rw [hz]; exact hlt d (by omega))
          have hrk := xR_reckon_open hE hX hG hW g1 i a b d (g1.2.2.1 a).2.1 (lnT g1 (g1.2.2.1 a).2.1) (g1.2.2.1 b).2.1 (lnT g1 (g1.2.2.1 b).2.1) (g1.2.2.1 d).2.1 (lnT g1 (g1.2.2.1 d).2.1) (g1.2.2.1 i).2.2.1 hv1 rfl ha hb hd rfl rfl rfl (by rw [hx]; exact hne i (by omega) a la) (by rw [hy]; exact hne i (by omega) b lb) (by rw [hz]; exact hne i (by omega) d ld) ox oy oz (lnT_of ox).1 (lnT_of oy).1 (lnT_of oz).1 (lnT_of ox).2 (lnT_of oy).2 (lnT_of oz).2
          generalize rkS gI gG (g1.2.2.1 i).2.2.1 g1 i a (g1.2.2.1 a).2.1 (lnT g1 (g1.2.2.1 a).2.1) (g1.2.2.1 b).2.1 (lnT g1 (g1.2.2.1 b).2.1) (g1.2.2.1 d).2.1 (lnT g1 (g1.2.2.1 d).2.1) = g2 at fin hrk
          have hrk2 : cSd E mR_reckon [qR 0 0, qR 3 (nI i).toNatClampNeg] g1 none g2 := by rw [ci]; exact hrk
          exact qm_step (sR_run hE) C 78 78 100 ([0, 0, 0], [], [(some (qI 1), g1), (none, g2)]) ⟨hc, hin, h0', hin, hic, by decide, hin, hrk2, fin⟩
        · rw [if_neg h2] at fin
          have hic : cSd E mE_isCall [qR 3 (nI i).toNatClampNeg] g1 (some (qI 0)) g1 := by rw [ci]; exact (xE_isCall hE g1 i).2 h2
          exact qm_step (sR_run hE) C 78 78 100 ([0, 0, 1], [], [(some (qI 0), g1)]) ⟨hc, hin, h0', hin, hic, rfl, fin⟩
  -- wanting
  have loopB : ∀ (r j : Nat) (w : Int32), j + r = k + 1 → w = nI r - 1 → qm_W (cLa E.2.2.2.1) cV (cHold E) (cA E.2.2.2.1) 3 p E.1 e (rmL 7) st mm args below meth c Q 45 ([some (qR 0 0), some (qI (nI k)), some (qI w)], [], wB (wnE (wA g k) k 1) k j) := by
    intro r
    induction r with
    | zero =>
      intro j w hj hw
      subst hw
      have hj2 : j = k + 1 := by omega
      subst hj2
      exact qm_step (sR_run hE) C 45 78 100 ([1], [], []) ⟨show nI 0 - 1 < 0 by decide, loopC (k + 1) 0 _ (by omega) rfl⟩
    | succ r ih =>
      intro j w hj hw
      rw [nI_pred] at hw
      subst hw
      have hc : ¬ nI r < 0 := nI_pos (by omega)
      have hin : vp_in (nI r) 80 := vp_in_nI (by omega) (by decide)
      have ci := cl r (by omega)
      have fin := ih (j + 1) (nI r + -1) (by omega) (Int32.sub_eq_add_neg _ _).symm
      have hs : wB (wnE (wA g k) k 1) k (j + 1) = woS (wB (wnE (wA g k) k 1) k j) (k - j) := rfl
      rw [hs, show k - j = r by omega] at fin
      have sBj : ∀ x, stE (wB (wnE (wA g k) k 1) k j) x = stE g x := fun x => (stE_wB _ _ _ _).trans ((stE_wnE _ _ _ _).trans (stE_wA _ _ _))
      generalize wB (wnE (wA g k) k 1) k j = g1 at fin sBj ⊢
      unfold woS at fin
      by_cases h0 : waI g1 r = 0
      · rw [if_pos h0] at fin
        have h0' : (g1.2.2.1 (nI r).toNatClampNeg).2.2.2.2.2.2.2.2 = 0 := by rw [ci]; exact h0
        exact qm_step (sR_run hE) C 45 45 100 ([0, 1], [], []) ⟨hc, hin, h0', fin⟩
      · rw [if_neg h0] at fin
        have h0' : ¬ (g1.2.2.1 (nI r).toNatClampNeg).2.2.2.2.2.2.2.2 = 0 := by rw [ci]; exact h0
        by_cases h2 : (g1.2.2.1 r).1 = 2
        · rw [if_pos h2] at fin
          obtain ⟨a, b, d, ha, hb, hd, la, lb, ld⟩ := wfE_of sBj hwf r (by omega) h2
          have ea : opA g1 r = a := by unfold opA; rw [ha]; rfl
          have eb : opB g1 r = b := by unfold opB; rw [hb]; rfl
          have ed : opD g1 r = d := by unfold opD; rw [hd]; rfl
          rw [ea, eb, ed] at fin
          have hw2 : cSd E mE_wantOperands [qR 3 (nI r).toNatClampNeg] g1 none (wnE (wnE (wnE g1 a 1) b 1) d 1) := by rw [ci]; exact xE_want_yes hE g1 r a b d h2 ha hb hd (by omega) (by omega)
          exact qm_step (sR_run hE) C 45 45 100 ([0, 0], [], [(none, wnE (wnE (wnE g1 a 1) b 1) d 1)]) ⟨hc, hin, h0', hin, hw2, fin⟩
        · rw [if_neg h2] at fin
          have hw2 : cSd E mE_wantOperands [qR 3 (nI r).toNatClampNeg] g1 none g1 := by rw [ci]; exact xE_want_no hE g1 r h2
          exact qm_step (sR_run hE) C 45 45 100 ([0, 0], [], [(none, g1)]) ⟨hc, hin, h0', hin, hw2, fin⟩
  -- nothing is wanted
  have loopA : ∀ (r i : Nat) (w : Int32), i + r = k → w = nI i → qm_W (cLa E.2.2.2.1) cV (cHold E) (cA E.2.2.2.1) 3 p E.1 e (rmL 7) st mm args below meth c Q 12 ([some (qR 0 0), some (qI (nI k)), some (qI w)], [], wA g i) := by
    intro r
    induction r with
    | zero =>
      intro i w hi hw
      subst hw
      have hi2 : i = k := by omega
      subst hi2
      have hin : vp_in (nI i) 80 := vp_in_nI hk (by decide)
      have fin := loopB (i + 1) 0 (nI i) (by omega) (nI_pred i).symm
      have e1 : wB (wnE (wA g i) i 1) i 0 = wnE (wA g i) (nI i).toNatClampNeg 1 := by rw [cl i hk]; rfl
      rw [e1] at fin
      exact qm_step (sR_run hE) C 12 45 100 ([1], [], []) ⟨Int32.le_refl _, hin, Or.inr rfl, fin⟩
    | succ r ih =>
      intro i w hi hw
      subst hw
      have hc : ¬ nI k ≤ nI i := nI_ge (by omega) (by omega)
      have hin : vp_in (nI i) 80 := vp_in_nI (by omega) (by decide)
      have fin := ih (i + 1) (nI i + 1) (by omega) (nI_1 i)
      have e1 : wA g (i + 1) = wnE (wA g i) (nI i).toNatClampNeg 0 := by rw [cl i (by omega)]; rfl
      rw [e1] at fin
      exact qm_step (sR_run hE) C 12 12 100 ([0], [], []) ⟨hc, hin, Or.inl rfl, fin⟩
  exact qm_step (sR_run hE) C 0 12 100 ([1], [], [(some (qI 1), g)]) ⟨(xR_isEx hE g _).1 hex, by decide, loopA k 0 _ (by omega) rfl⟩
end
section
/-! Search: the small methods. Its numbers: 0 states, 1 ways, 2 open, 3 first, 4 last, 5 current, 6 place; its arrays: 0 reached, 1 from, 2 to, 3 mask, 4 moving, 5 outerFirst, 6 outerLast -/
abbrev nN (g : cG) : Nat → Int32 := g.2.2.2.2.2.1
abbrev nA (g : cG) : Nat → Nat → Int32 := g.2.2.2.2.2.2
def uN (g : cG) (j : Nat) (x : Int32) : cG := (g.1, g.2.1, g.2.2.1, g.2.2.2.1, g.2.2.2.2.1, va_up g.2.2.2.2.2.1 j x, g.2.2.2.2.2.2)
def uA (g : cG) (j : Nat) (f : Nat → Int32) : cG := (g.1, g.2.1, g.2.2.1, g.2.2.2.1, g.2.2.2.2.1, g.2.2.2.2.2.1, va_up g.2.2.2.2.2.2 j f)
theorem xV_atH {E : cEnv} (hE : cOk E) (g : cG) (i n k : Nat) (hn : n ≤ 24) (hk : k < 2 ^ 31) (h2 : (g.1 i).2.2.2 = nI n) : cSd E mV_at [qR 1 i, qI (nI k)] g (some (qI (atV g i n k))) g := by
  unfold atV
  split
  · rename_i h
    exact xV_at_yes hE g i k n h hn h2
  · rename_i h
    exact xV_at_no hE g i (nI k) (Or.inr (by rw [h2]; exact nI_le (by omega) hk))
/-- a new state's number -/
def nsK (n : Nat) : Nat := min n 63
def nsS (g : cG) (n : Nat) : cG := uN (uA g 0 (upd (nA g 0) (nsK n) 0)) 0 (nI (nsK n + 1))
theorem xS_newState {E : cEnv} (hE : cOk E) (g : cG) (n : Nat) (hn : n ≤ 64) (h : nN g 0 = nI n) : cSd E mS_newState [qR 7 0] g (some (qI (nI (nsK n)))) (nsS g n) := by
  refine qm_meth hE (by decide) rfl rfl (Nat.le_of_ble_eq_true rfl) ?_
  intro p e st mm args below meth c Q C _ _
  have hk : nsK n ≤ 63 := by unfold nsK; omega
  have hm : (if (63 : Int32) < nN g 0 then 63 else nN g 0) = nI (nsK n) := by
    rw [h]
    by_cases h1 : 63 < n
    · have q : (63 : Int32) < nI n := nI_lt (a := 63) h1 (by omega)
      rw [if_pos q]
      unfold nsK
      rw [Nat.min_eq_right (by omega)]
      rfl
    · have q : ¬ (63 : Int32) < nI n := nI_nlt (b := n) (a := 63) (by omega) (by decide)
      rw [if_neg q]
      unfold nsK
      rw [Nat.min_eq_left (by omega)]
  have hin : vp_in (if (63 : Int32) < nN g 0 then 63 else nN g 0) 64 := by rw [hm]; exact vp_in_nI (by omega) (by decide)
  have e1 : (some (qI (if (63 : Int32) < nN g 0 then 63 else nN g 0)) : Option qm_v) = some (qI (nI (nsK n))) := by rw [hm]
  have e2 : uN (uA g 0 (upd (nA g 0) (if (63 : Int32) < nN g 0 then 63 else nN g 0).toNatClampNeg 0)) 0 ((if (63 : Int32) < nN g 0 then 63 else nN g 0) + 1) = nsS g n := by
    rw [hm, nI_clamp (by omega), nI_1]
    rfl
  exact qm_step (sS_newState hE) C 0 9999 100 ([], [], []) ⟨hin, e1, e2⟩
/-- one more way -/
def cnS (g : cG) (w : Nat) (a b m v : Int32) : cG := if w < 64 then uN (uA (uA (uA (uA g 1 (upd (nA g 1) w a)) 2 (upd (nA g 2) w b)) 3 (upd (nA g 3) w m)) 4 (upd (nA g 4) w v)) 1 (nI (w + 1)) else g
theorem xS_connect {E : cEnv} (hE : cOk E) (g : cG) (w : Nat) (a b m v : Int32) (hw : w ≤ 64) (h : nN g 1 = nI w) : cSd E mS_connect [qR 7 0, qI a, qI b, qI m, qI v] g none (cnS g w a b m v) := by
  refine qm_meth hE (by decide) rfl rfl (Nat.le_of_ble_eq_true rfl) ?_
  intro p e st mm args below meth c Q C _ _
  unfold cnS at C
  by_cases h1 : w < 64
  · rw [if_pos h1] at C
    have hl : nN g 1 < 64 := by rw [h]; exact nI_lt h1 (by decide)
    have hin : vp_in (nN g 1) 64 := by rw [h]; exact vp_in_nI h1 (by decide)
    have e2 : uN (uA (uA (uA (uA g 1 (upd (nA g 1) (nN g 1).toNatClampNeg a)) 2 (upd (nA g 2) (nN g 1).toNatClampNeg b)) 3 (upd (nA g 3) (nN g 1).toNatClampNeg m)) 4 (upd (nA g 4) (nN g 1).toNatClampNeg v)) 1 (nN g 1 + 1) = uN (uA (uA (uA (uA g 1 (upd (nA g 1) w a)) 2 (upd (nA g 2) w b)) 3 (upd (nA g 3) w m)) 4 (upd (nA g 4) w v)) 1 (nI (w + 1)) := by
      rw [h, nI_clamp (by omega), nI_1]
    exact qm_step (sS_connect hE) C 0 9999 100 ([1], [], []) ⟨hl, hin, hin, hin, hin, rfl, e2⟩
  · rw [if_neg h1] at C
    have hl : ¬ nN g 1 < 64 := by rw [h]; exact nI_nlt (b := 64) (by omega) (by omega)
    exact qm_step (sS_connect hE) C 0 9999 100 ([0], [], []) ⟨hl, rfl, rfl⟩
theorem nsS_N (g : cG) (n j : Nat) (h : j ≠ 0) : nN (nsS g n) j = nN g j := va_up_ne _ _ h
/-- a state of its own, entered from the current one -/
def enS (g : cG) (n w : Nat) : cG := cnS (nsS g n) w (nN g 5) (nI (nsK n)) (-1) 0
theorem xS_enter {E : cEnv} (hE : cOk E) (g : cG) (n w : Nat) (hn : n ≤ 64) (hw : w ≤ 64) (h : nN g 0 = nI n) (h2 : nN g 1 = nI w) : cSd E mS_enter [qR 7 0] g (some (qI (nI (nsK n)))) (enS g n w) := by
  refine qm_meth hE (by decide) rfl rfl (Nat.le_of_ble_eq_true rfl) ?_
  intro p e st mm args below meth c Q C _ _
  have hc := xS_connect hE (nsS g n) w (nN g 5) (nI (nsK n)) (-1) 0 hw (by rw [nsS_N _ _ _ (by decide)]; exact h2)
  have hc2 : cSd E mS_connect [qR 7 0, qI (nN (nsS g n) 5), qI (nI (nsK n)), qI (-1), qI 0] (nsS g n) none (enS g n w) := by rw [nsS_N _ _ _ (by decide)]; exact hc
  exact qm_step (sS_enter hE) C 0 9999 100 ([], [], [(some (qI (nI (nsK n))), nsS g n), (none, enS g n w)]) ⟨xS_newState hE g n hn h, hc2, rfl, rfl⟩
/-- ^ or $ -/
def acS (g : cG) (n w : Nat) (pl : Int32) : cG := uN (cnS (nsS g n) w (nN g 5) (nI (nsK n)) pl 0) 5 (nI (nsK n))
theorem xS_anchor {E : cEnv} (hE : cOk E) (g : cG) (n w : Nat) (pl : Int32) (hn : n ≤ 64) (hw : w ≤ 64) (h : nN g 0 = nI n) (h2 : nN g 1 = nI w) : cSd E mS_anchor [qR 7 0, qI pl] g (some (qI 1)) (acS g n w pl) := by
  refine qm_meth hE (by decide) rfl rfl (Nat.le_of_ble_eq_true rfl) ?_
  intro p e st mm args below meth c Q C _ _
  have hc := xS_connect hE (nsS g n) w (nN g 5) (nI (nsK n)) pl 0 hw (by rw [nsS_N _ _ _ (by decide)]; exact h2)
  have hc2 : cSd E mS_connect [qR 7 0, qI (nN (nsS g n) 5), qI (nI (nsK n)), qI pl, qI 0] (nsS g n) none (cnS (nsS g n) w (nN g 5) (nI (nsK n)) pl 0) := by rw [nsS_N _ _ _ (by decide)]; exact hc
  exact qm_step (sS_anchor hE) C 0 9999 100 ([], [], [(some (qI (nI (nsK n))), nsS g n), (none, cnS (nsS g n) w (nN g 5) (nI (nsK n)) pl 0)]) ⟨xS_newState hE g n hn h, hc2, Or.inr rfl, rfl, rfl⟩
def itB (x : Int32) : Bool := !(x == 0) && !(x == 94) && !(x == 93) && !(x == 45) && !(x == 92)
theorem xS_isItem {E : cEnv} (hE : cOk E) (g : cG) (x : Int32) : cSd E mS_isItem [qI x] g (some (qI (if itB x then 1 else 0))) g := by
  refine qm_meth hE (by decide) rfl rfl (Nat.le_of_ble_eq_true rfl) ?_
  intro p e st mm args below meth c Q C _ _
  unfold itB at C
  by_cases h1 : x = 0
  · rw [if_neg (by simp [h1])] at C
    exact qm_step (sS_isItem hE) C 0 9999 100 ([1], [], []) ⟨h1, Or.inl rfl, rfl, rfl⟩
  by_cases h2 : x = 94
  · rw [if_neg (by simp [h2])] at C
    exact qm_step (sS_isItem hE) C 0 9999 100 ([0, 1], [], []) ⟨h1, h2, Or.inl rfl, rfl, rfl⟩
  by_cases h3 : x = 93
  · rw [if_neg (by simp [h3])] at C
    exact qm_step (sS_isItem hE) C 0 9999 100 ([0, 0, 1], [], []) ⟨h1, h2, h3, Or.inl rfl, rfl, rfl⟩
  by_cases h4 : x = 45
  · rw [if_neg (by simp [h4])] at C
    exact qm_step (sS_isItem hE) C 0 9999 100 ([0, 0, 0, 1], [], []) ⟨h1, h2, h3, h4, Or.inl rfl, rfl, rfl⟩
  by_cases h5 : x = 92
  · rw [if_neg (by simp [h5])] at C
    exact qm_step (sS_isItem hE) C 0 9999 100 ([0, 0, 0, 0, 1], [], []) ⟨h1, h2, h3, h4, h5, Or.inl rfl, rfl, rfl⟩
  · rw [if_pos (by simp [h1, h2, h3, h4, h5])] at C
    exact qm_step (sS_isItem hE) C 0 9999 100 ([0, 0, 0, 0, 0], [], []) ⟨h1, h2, h3, h4, h5, Or.inr rfl, rfl, rfl⟩
/-- the places of a text's bytes from lo to hi, as bits -/
def plF (f : Nat → Int32) (lo hi : Int32) : Nat → Nat → Int32 → Int32
  | 0, _, acc => acc
  | r + 1, k, acc => plF f lo hi r (k + 1) (if ¬ f k < lo ∧ ¬ hi < f k then acc ||| 1 <<< (nI k &&& 31) else acc)
theorem plF_s (f : Nat → Int32) (lo hi : Int32) (r k : Nat) (acc : Int32) : plF f lo hi (r + 1) k acc = plF f lo hi r (k + 1) (if ¬ f k < lo ∧ ¬ hi < f k then acc ||| 1 <<< (nI k &&& 31) else acc) := rfl
theorem xS_placesOf {E : cEnv} (hE : cOk E) (g : cG) (i n : Nat) (lo hi : Int32) (hn : n ≤ 24) (h : (g.1 i).2.2.2 = nI n) : cSd E mS_placesOf [qR 1 i, qI lo, qI hi] g (some (qI (plF (g.2.1 i) lo hi n 0 0))) g := by
  refine qm_meth hE (by decide) rfl rfl (Nat.le_of_ble_eq_true rfl) ?_
  intro p e st mm args below meth c Q C _ _
  have loop : ∀ (r k : Nat) (w acc : Int32) (y : Option qm_v), k + r = n → w = nI k → plF (g.2.1 i) lo hi r k acc = plF (g.2.1 i) lo hi n 0 0 → qm_W (cLa E.2.2.2.1) cV (cHold E) (cA E.2.2.2.1) 6 p E.1 e (rmL 2) st mm args below meth c Q 5 ([some (qR 1 i), some (qI lo), some (qI hi), some (qI acc), some (qI w), y], [], g) := by
    intro r
    induction r with
    | zero =>
      intro k w acc y hk hw hf
      subst hw
      have hc : (g.1 i).2.2.2 ≤ nI k := by rw [h]; exact nI_le (by omega) (by omega)
      have e1 : (some (qI acc) : Option qm_v) = some (qI (plF (g.2.1 i) lo hi n 0 0)) := by rw [← hf]; rfl
      exact qm_step (sS_placesOf hE) C 5 9999 100 ([1], [], []) ⟨hc, e1, rfl⟩
    | succ r ih =>
      intro k w acc y hk hw hf
      subst hw
      have hc : ¬ (g.1 i).2.2.2 ≤ nI k := by rw [h]; exact nI_ge (by omega) (by omega)
      have hat := xV_at_yes hE g i k n (by omega) hn h
      rw [plF_s] at hf
      by_cases h1 : g.2.1 i k < lo
      · rw [if_neg (fun q => q.1 h1)] at hf
        have fin := ih (k + 1) (nI k + 1) acc (some (qI (g.2.1 i k))) (by omega) (nI_1 k) hf
        exact qm_step (sS_placesOf hE) C 5 5 100 ([0, 1], [], [(_, g)]) ⟨hc, hat, h1, fin⟩
      · by_cases h2 : hi < g.2.1 i k
        · rw [if_neg (fun q => q.2 h2)] at hf
          have fin := ih (k + 1) (nI k + 1) acc (some (qI (g.2.1 i k))) (by omega) (nI_1 k) hf
          exact qm_step (sS_placesOf hE) C 5 5 100 ([0, 0, 1], [], [(_, g)]) ⟨hc, hat, h1, h2, fin⟩
        · rw [if_pos ⟨h1, h2⟩] at hf
          have fin := ih (k + 1) (nI k + 1) (acc ||| 1 <<< (nI k &&& 31)) (some (qI (g.2.1 i k))) (by omega) (nI_1 k) hf
          exact qm_step (sS_placesOf hE) C 5 5 100 ([0, 0, 0], [], [(_, g)]) ⟨hc, hat, h1, h2, fin⟩
  exact qm_step (sS_placesOf hE) C 0 5 100 ([], [], []) (loop n 0 _ _ _ (by omega) rfl rfl)
end
section
/-! Search: begin, groups, atoms -/
theorem uN_at (g : cG) (j : Nat) (x : Int32) : nN (uN g j x) j = x := va_up_self _ _ _
theorem uN_ne (g : cG) {j k : Nat} (x : Int32) (h : k ≠ j) : nN (uN g j x) k = nN g k := va_up_ne _ _ h
theorem cnS_N (g : cG) (w : Nat) (a b m v : Int32) (j : Nat) (h : j ≠ 1) : nN (cnS g w a b m v) j = nN g j := by
  unfold cnS
  split
  · exact uN_ne _ _ h
  · rfl
theorem cnS_V (g : cG) (w : Nat) (a b m v : Int32) : (cnS g w a b m v).1 = g.1 ∧ (cnS g w a b m v).2.1 = g.2.1 := by
  unfold cnS
  split <;> exact ⟨rfl, rfl⟩
def cnK (w : Nat) : Nat := min (w + 1) 64
theorem cnS_w {g : cG} {w : Nat} {a b m v : Int32} (hw : w ≤ 64) (h : nN g 1 = nI w) : nN (cnS g w a b m v) 1 = nI (cnK w) := by
  unfold cnS cnK
  split
  · rename_i h1
    rw [uN_at, Nat.min_eq_left (by omega)]
  · rw [h, Nat.min_eq_right (by omega), show w = 64 by omega]
def bgA (g : cG) : cG := uN (uN (uN (uN g 0 0) 1 0) 2 0) 6 0
def bgB (g : cG) : cG := uN (nsS (bgA g) 0) 3 (nI 0)
def bgC (g : cG) : cG := uN (nsS (bgB g) 1) 4 (nI 1)
def bgS (g : cG) : cG := uN (bgC g) 5 (nI 0)
theorem xS_begin {E : cEnv} (hE : cOk E) (g : cG) : cSd E mS_begin [qR 7 0] g none (bgS g) := by
  refine qm_meth hE (by decide) rfl rfl (Nat.le_of_ble_eq_true rfl) ?_
  intro p e st mm args below meth c Q C _ _
  have h1 := xS_newState hE (bgA g) 0 (by omega) (by unfold bgA; rw [uN_ne _ _ (by decide), uN_ne _ _ (by decide), uN_ne _ _ (by decide), uN_at]; rfl)
  have h2 := xS_newState hE (bgB g) 1 (by omega) (by unfold bgB; rw [uN_ne _ _ (by decide)]; exact uN_at _ _ _)
  have e1 : uN (bgC g) 5 (nN (bgC g) 3) = bgS g := by
    have : nN (bgC g) 3 = nI 0 := by
      unfold bgC
      rw [uN_ne _ _ (by decide), nsS_N _ _ _ (by decide)]
      exact uN_at _ _ _
    rw [this]; rfl
  exact qm_step (sS_begin hE) C 0 9999 100 ([], [], [(some (qI (nI 0)), nsS (bgA g) 0), (some (qI (nI 1)), nsS (bgB g) 1)]) ⟨h1, h2, rfl, e1⟩
/-- behind an atom or a group: the sign b, and what it makes -/
def rpS (g : cG) (w : Nat) (e t b : Int32) (pl : Nat) : cG :=
  if b = 42 then uN (cnS (uN g 5 e) w t e (-1) 0) 6 (nI (pl + 1))
  else if b = 43 then uN (cnS (uN g 5 t) w t e (-1) 0) 6 (nI (pl + 1))
  else if b = 63 then uN (cnS (uN g 5 t) w e t (-1) 0) 6 (nI (pl + 1)) else uN g 5 t
theorem xS_repeat {E : cEnv} (hE : cOk E) (g : cG) (w : Nat) (e1 t : Int32) (i n pl : Nat) (hw : w ≤ 64) (h : nN g 1 = nI w) (hn : n ≤ 24) (hi : (g.1 i).2.2.2 = nI n) (hp : nN g 6 = nI pl) (hpl : pl < 100) : cSd E mS_repeat [qR 7 0, qI e1, qI t, qR 1 i] g none (rpS g w e1 t (atV g i n pl) pl) := by
  refine qm_meth hE (by decide) rfl rfl (Nat.le_of_ble_eq_true rfl) ?_
  intro p e st mm args below meth c Q C _ _
  have hat := xV_atH hE g i n pl hn (by omega) hi
  rw [← hp] at hat
  have key : ∀ (x a b : Int32), nN (cnS (uN g 5 x) w a b (-1) 0) 6 + 1 = nI (pl + 1) := by
    intro x a b
    rw [cnS_N _ _ _ _ _ _ _ (by decide), uN_ne _ _ (by decide), hp, nI_1]
  have cn : ∀ (x a b : Int32), cSd E mS_connect [qR 7 0, qI a, qI b, qI (-1), qI 0] (uN g 5 x) none (cnS (uN g 5 x) w a b (-1) 0) := fun x a b => xS_connect hE (uN g 5 x) w a b (-1) 0 hw (by rw [uN_ne _ _ (by decide)]; exact h)
  unfold rpS at C
  by_cases h1 : atV g i n pl = 42
  · rw [if_pos h1] at C
    have e2 : uN (cnS (uN g 5 e1) w t e1 (-1) 0) 6 (nN (cnS (uN g 5 e1) w t e1 (-1) 0) 6 + 1) = uN (cnS (uN g 5 e1) w t e1 (-1) 0) 6 (nI (pl + 1)) := by rw [key]
    exact qm_step (sS_repeat hE) C 0 9999 100 ([0, 1], [], [(_, g), (none, _)]) ⟨hat, h1, h1, cn e1 t e1, rfl, e2⟩
  rw [if_neg h1] at C
  by_cases h2 : atV g i n pl = 43
  · rw [if_pos h2] at C
    have e2 : uN (cnS (uN g 5 t) w t e1 (-1) 0) 6 (nN (cnS (uN g 5 t) w t e1 (-1) 0) 6 + 1) = uN (cnS (uN g 5 t) w t e1 (-1) 0) 6 (nI (pl + 1)) := by rw [key]
    exact qm_step (sS_repeat hE) C 0 9999 100 ([1, 0, 0], [], [(_, g), (none, _)]) ⟨hat, h1, h1, h2, cn t t e1, rfl, e2⟩
  rw [if_neg h2] at C
  by_cases h3 : atV g i n pl = 63
  · rw [if_pos h3] at C
    have e2 : uN (cnS (uN g 5 t) w e1 t (-1) 0) 6 (nN (cnS (uN g 5 t) w e1 t (-1) 0) 6 + 1) = uN (cnS (uN g 5 t) w e1 t (-1) 0) 6 (nI (pl + 1)) := by rw [key]
    exact qm_step (sS_repeat hE) C 0 9999 100 ([1, 0, 1, 0], [], [(_, g), (none, _)]) ⟨hat, h1, h1, h2, h3, cn t e1 t, rfl, e2⟩
  · rw [if_neg h3] at C
    exact qm_step (sS_repeat hE) C 0 9999 100 ([1, 0, 1, 1], [], [(_, g)]) ⟨hat, h1, h1, h2, h3, rfl, rfl⟩
theorem nsS_s (g : cG) (n : Nat) : nN (nsS g n) 0 = nI (nsK n + 1) := uN_at _ _ _
theorem enS_N (g : cG) (n w j : Nat) (h0 : j ≠ 0) (h1 : j ≠ 1) : nN (enS g n w) j = nN g j := by unfold enS; rw [cnS_N _ _ _ _ _ _ _ h1, nsS_N _ _ _ h0]
theorem enS_V (g : cG) (n w : Nat) : (enS g n w).1 = g.1 ∧ (enS g n w).2.1 = g.2.1 := cnS_V _ _ _ _ _ _
theorem enS_s (g : cG) (n w : Nat) : nN (enS g n w) 0 = nI (nsK n + 1) := by unfold enS; rw [cnS_N _ _ _ _ _ _ _ (by decide)]; exact nsS_s g n
theorem enS_w {g : cG} {n w : Nat} (hw : w ≤ 64) (h : nN g 1 = nI w) : nN (enS g n w) 1 = nI (cnK w) := cnS_w hw (by rw [nsS_N _ _ _ (by decide)]; exact h)
/-- an atom whose bytes stand at the places pl -/
def atA (g : cG) (n w : Nat) (pl : Int32) : cG := cnS (nsS (enS g n w) (nsK n + 1)) (cnK w) (nI (nsK n)) (nI (nsK (nsK n + 1))) pl 1
def atS (g : cG) (n w : Nat) (pl b : Int32) (q : Nat) : cG := rpS (atA g n w pl) (cnK (cnK w)) (nI (nsK n)) (nI (nsK (nsK n + 1))) b q
theorem xS_atom {E : cEnv} (hE : cOk E) (g : cG) (n w : Nat) (pl : Int32) (i m q : Nat) (hn : n ≤ 64) (hw : w ≤ 64) (h : nN g 0 = nI n) (h2 : nN g 1 = nI w) (hm : m ≤ 24) (hi : (g.1 i).2.2.2 = nI m) (hp : nN g 6 = nI q) (hq : q < 100) : (pl = -1 → cSd E mS_atom [qR 7 0, qI pl, qR 1 i] g (some (qI 0)) g) ∧ (¬ pl = -1 → cSd E mS_atom [qR 7 0, qI pl, qR 1 i] g (some (qI 1)) (atS g n w pl (atV g i m q) q)) := by
  have k1 : nsK n + 1 ≤ 64 := by unfold nsK; omega
  have k2 : cnK w ≤ 64 := by unfold cnK; omega
  have k3 : cnK (cnK w) ≤ 64 := by unfold cnK; omega
  constructor
  · intro hl
    refine qm_meth hE (by decide) rfl rfl (Nat.le_of_ble_eq_true rfl) ?_
    intro p e st mm args below meth c Q C _ _
    exact qm_step (sS_atom hE) C 0 9999 100 ([0], [], []) ⟨hl, Or.inl rfl, rfl, rfl⟩
  · intro hl
    refine qm_meth hE (by decide) rfl rfl (Nat.le_of_ble_eq_true rfl) ?_
    intro p e st mm args below meth c Q C _ _
    have c1 := xS_enter hE g n w hn hw h h2
    have c2 := xS_newState hE (enS g n w) (nsK n + 1) k1 (enS_s g n w)
    have c3 := xS_connect hE (nsS (enS g n w) (nsK n + 1)) (cnK w) (nI (nsK n)) (nI (nsK (nsK n + 1))) pl 1 k2 (by rw [nsS_N _ _ _ (by decide)]; exact enS_w hw h2)
    have v1 : (atA g n w pl).1 = g.1 := (cnS_V _ _ _ _ _ _).1.trans (show (nsS (enS g n w) (nsK n + 1)).1 = g.1 from (enS_V g n w).1)
    have v2 : (atA g n w pl).2.1 = g.2.1 := (cnS_V _ _ _ _ _ _).2.trans (show (nsS (enS g n w) (nsK n + 1)).2.1 = g.2.1 from (enS_V g n w).2)
    have c4 := xS_repeat hE (atA g n w pl) (cnK (cnK w)) (nI (nsK n)) (nI (nsK (nsK n + 1))) i m q k3 (cnS_w k2 (by rw [nsS_N _ _ _ (by decide)]; exact enS_w hw h2)) hm (by rw [v1]; exact hi) (by unfold atA; rw [cnS_N _ _ _ _ _ _ _ (by decide), nsS_N _ _ _ (by decide), enS_N _ _ _ _ (by decide) (by decide)]; exact hp) hq
    have e1 : atV (atA g n w pl) i m q = atV g i m q := by unfold atV; rw [v2]
    rw [e1] at c4
    exact qm_step (sS_atom hE) C 0 9999 100 ([1], [], [(some (qI (nI (nsK n))), enS g n w), (some (qI (nI (nsK (nsK n + 1)))), nsS (enS g n w) (nsK n + 1)), (none, atA g n w pl), (none, atS g n w pl (atV g i m q) q)]) ⟨hl, c1, c2, c3, c4, Or.inr rfl, rfl, rfl⟩
end
section
/-! Search: groups, escapes, items -/
def ogA (g : cG) (o : Nat) : cG := uN (uA (uA g 5 (upd (nA g 5) o (nN g 3))) 6 (upd (nA g 6) o (nN g 4))) 2 (nI (o + 1))
def ogB (g : cG) (o n w : Nat) : cG := uN (enS (ogA g o) n w) 3 (nI (nsK n))
def ogC (g : cG) (o n w : Nat) : cG := uN (nsS (ogB g o n w) (nsK n + 1)) 4 (nI (nsK (nsK n + 1)))
def ogS (g : cG) (o n w : Nat) : cG := uN (ogC g o n w) 5 (nI (nsK n))
theorem xS_openGroup {E : cEnv} (hE : cOk E) (g : cG) (o n w : Nat) (ho : o ≤ 24) (hn : n ≤ 64) (hw : w ≤ 64) (h0 : nN g 0 = nI n) (h1 : nN g 1 = nI w) (h2 : nN g 2 = nI o) : (¬ o < 24 → cSd E mS_openGroup [qR 7 0] g (some (qI 0)) g) ∧ (o < 24 → cSd E mS_openGroup [qR 7 0] g (some (qI 1)) (ogS g o n w)) := by
  have k1 : nsK n + 1 ≤ 64 := by unfold nsK; omega
  constructor
  · intro hl
    refine qm_meth hE (by decide) rfl rfl (Nat.le_of_ble_eq_true rfl) ?_
    intro p e st mm args below meth c Q C _ _
    have hc : ¬ nN g 2 < 24 := by rw [h2]; exact nI_nlt (b := 24) (by omega) (by omega)
    exact qm_step (sS_openGroup hE) C 0 9999 100 ([0], [], []) ⟨hc, Or.inl rfl, rfl, rfl⟩
  · intro hl
    refine qm_meth hE (by decide) rfl rfl (Nat.le_of_ble_eq_true rfl) ?_
    intro p e st mm args below meth c Q C _ _
    have hc : nN g 2 < 24 := by rw [h2]; exact nI_lt (b := 24) hl (by decide)
    have hin : vp_in (nN g 2) 24 := by rw [h2]; exact vp_in_nI hl (by decide)
    have e1 : uN (uA (uA g 5 (upd (nA g 5) (nN g 2).toNatClampNeg (nN g 3))) 6 (upd (nA g 6) (nN g 2).toNatClampNeg (nN g 4))) 2 (nN g 2 + 1) = ogA g o := by rw [h2, nI_clamp (by omega), nI_1]; rfl
    have c1 := xS_enter hE (ogA g o) n w hn hw (by unfold ogA; rw [uN_ne _ _ (by decide)]; exact h0) (by unfold ogA; rw [uN_ne _ _ (by decide)]; exact h1)
    rw [← e1] at c1
    have c2 := xS_newState hE (ogB g o n w) (nsK n + 1) k1 (by unfold ogB; rw [uN_ne _ _ (by decide)]; exact enS_s _ _ _)
    have e2 : uN (ogC g o n w) 5 (nN (ogC g o n w) 3) = ogS g o n w := by
      have : nN (ogC g o n w) 3 = nI (nsK n) := by
        unfold ogC
        rw [uN_ne _ _ (by decide), nsS_N _ _ _ (by decide)]
        exact uN_at _ _ _
      rw [this]; rfl
    have c1' : cSd E mS_enter [qR 7 0] (uN (uA (uA g 5 (upd (nA g 5) (nN g 2).toNatClampNeg (nN g 3))) 6 (upd (nA g 6) (nN g 2).toNatClampNeg (nN g 4))) 2 (nN g 2 + 1)) (some (qI (nI (nsK n)))) (enS (ogA g o) n w) := by rw [e1] at c1 ⊢; exact c1
    exact qm_step (sS_openGroup hE) C 0 9999 100 ([1], [], [(some (qI (nI (nsK n))), enS (ogA g o) n w), (some (qI (nI (nsK (nsK n + 1)))), nsS (ogB g o n w) (nsK n + 1))]) ⟨hc, hin, hin, c1', c2, Or.inr rfl, rfl, e2⟩
theorem rpS_N (g : cG) (w : Nat) (e t b : Int32) (pl j : Nat) (h1 : j ≠ 1) (h5 : j ≠ 5) (h6 : j ≠ 6) : nN (rpS g w e t b pl) j = nN g j := by
  unfold rpS
  split
  · rw [uN_ne _ _ h6, cnS_N _ _ _ _ _ _ _ h1, uN_ne _ _ h5]
  · split
    · rw [uN_ne _ _ h6, cnS_N _ _ _ _ _ _ _ h1, uN_ne _ _ h5]
    · split
      · rw [uN_ne _ _ h6, cnS_N _ _ _ _ _ _ _ h1, uN_ne _ _ h5]
      · rw [uN_ne _ _ h5]
theorem cnS_A (g : cG) (w : Nat) (a b m v : Int32) (j : Nat) (h : 5 ≤ j) : nA (cnS g w a b m v) j = nA g j := by
  unfold cnS
  split
  · show va_up (va_up (va_up (va_up g.2.2.2.2.2.2 1 _) 2 _) 3 _) 4 _ j = _
    rw [va_up_ne _ _ (by omega), va_up_ne _ _ (by omega), va_up_ne _ _ (by omega), va_up_ne _ _ (by omega)]
  · rfl
theorem rpS_A (g : cG) (w : Nat) (e t b : Int32) (pl j : Nat) (h : 5 ≤ j) : nA (rpS g w e t b pl) j = nA g j := by
  unfold rpS
  split
  · exact cnS_A _ _ _ _ _ _ _ h
  · split
    · exact cnS_A _ _ _ _ _ _ _ h
    · split
      · exact cnS_A _ _ _ _ _ _ _ h
      · rfl
def cgA (g : cG) (w : Nat) : cG := cnS g w (nN g 5) (nN g 4) (-1) 0
def cgB (g : cG) (w : Nat) (b : Int32) (q : Nat) : cG := rpS (cgA g w) (cnK w) (nN g 3) (nN g 4) b q
def cgS (g : cG) (o w : Nat) (b : Int32) (q : Nat) : cG := uN (uN (uN (cgB g w b q) 2 (nI o)) 3 (nA g 5 o)) 4 (nA g 6 o)
theorem xS_closeGroup {E : cEnv} (hE : cOk E) (g : cG) (o w i m q : Nat) (ho : o ≤ 24) (hw : w ≤ 64) (h1 : nN g 1 = nI w) (h2 : nN g 2 = nI o) (hm : m ≤ 24) (hi : (g.1 i).2.2.2 = nI m) (hp : nN g 6 = nI q) (hq : q < 100) : (o = 0 → cSd E mS_closeGroup [qR 7 0, qR 1 i] g (some (qI 0)) g) ∧ (0 < o → cSd E mS_closeGroup [qR 7 0, qR 1 i] g (some (qI 1)) (cgS g (o - 1) w (atV g i m q) q)) := by
  constructor
  · intro hl
    refine qm_meth hE (by decide) rfl rfl (Nat.le_of_ble_eq_true rfl) ?_
    intro p e st mm args below meth c Q C _ _
    have hc : ¬ 0 < nN g 2 := by rw [h2, hl]; decide
    exact qm_step (sS_closeGroup hE) C 0 9999 100 ([0], [], []) ⟨hc, Or.inl rfl, rfl, rfl⟩
  · intro hl
    refine qm_meth hE (by decide) rfl rfl (Nat.le_of_ble_eq_true rfl) ?_
    intro p e st mm args below meth c Q C _ _
    have hc : 0 < nN g 2 := by rw [h2]; exact nI_lt (a := 0) hl (by omega)
    have c1 := xS_connect hE g w (nN g 5) (nN g 4) (-1) 0 hw h1
    have v1 := cnS_V g w (nN g 5) (nN g 4) (-1) 0
    have n3 : nN (cgA g w) 3 = nN g 3 := cnS_N _ _ _ _ _ _ _ (by decide)
    have n4 : nN (cgA g w) 4 = nN g 4 := cnS_N _ _ _ _ _ _ _ (by decide)
    have c2 := xS_repeat hE (cgA g w) (cnK w) (nN g 3) (nN g 4) i m q (by unfold cnK; omega) (cnS_w hw h1) hm (by unfold cgA; rw [v1.1]; exact hi) (by unfold cgA; rw [cnS_N _ _ _ _ _ _ _ (by decide)]; exact hp) hq
    have e1 : atV (cgA g w) i m q = atV g i m q := by unfold atV cgA; rw [v1.2]
    rw [e1] at c2
    have c2' : cSd E mS_repeat [qR 7 0, qI (nN (cgA g w) 3), qI (nN (cgA g w) 4), qR 1 i] (cgA g w) none (cgB g w (atV g i m q) q) := by rw [n3, n4]; exact c2
    have b2 : nN (cgB g w (atV g i m q) q) 2 - 1 = nI (o - 1) := by
      unfold cgB cgA
      rw [rpS_N _ _ _ _ _ _ _ (by decide) (by decide) (by decide), cnS_N _ _ _ _ _ _ _ (by decide), h2, show nI o = nI (o - 1 + 1) by rw [Nat.sub_add_cancel hl], nI_pred]
    have bA : ∀ j, 5 ≤ j → nA (cgB g w (atV g i m q) q) j = nA g j := by
      intro j hj
      unfold cgB cgA
      rw [rpS_A _ _ _ _ _ _ _ hj, cnS_A _ _ _ _ _ _ _ hj]
    unfold cgS at C
    generalize cgB g w (atV g i m q) q = z at c2' b2 bA C
    have q1 : nN (uN z 2 (nN z 2 - 1)) 2 = nI (o - 1) := (uN_at _ _ _).trans b2
    have q2 : ∀ X : Int32, nN (uN (uN z 2 (nN z 2 - 1)) 3 X) 2 = nI (o - 1) := fun X => (uN_ne _ _ (by decide)).trans q1
    have hin2 : vp_in (nN (uN z 2 (nN z 2 - 1)) 2) 24 := by rw [q1]; exact vp_in_nI (by omega) (by decide)
    have hin3 : vp_in (nN (uN (uN z 2 (nN z 2 - 1)) 3 (nA z 5 (nN (uN z 2 (nN z 2 - 1)) 2).toNatClampNeg)) 2) 24 := by rw [q2]; exact vp_in_nI (by omega) (by decide)
    have e2 : uN (uN (uN z 2 (nN z 2 - 1)) 3 (nA z 5 (nN (uN z 2 (nN z 2 - 1)) 2).toNatClampNeg)) 4 (nA z 6 (nN (uN (uN z 2 (nN z 2 - 1)) 3 (nA z 5 (nN (uN z 2 (nN z 2 - 1)) 2).toNatClampNeg)) 2).toNatClampNeg) = uN (uN (uN z 2 (nI (o - 1))) 3 (nA g 5 (o - 1))) 4 (nA g 6 (o - 1)) := by
      rw [q2, q1, nI_clamp (by omega), bA 5 (by omega), bA 6 (by omega), b2]
    exact qm_step (sS_closeGroup hE) C 0 9999 100 ([1], [], [(none, cgA g w), (none, z)]) ⟨hc, c1, c2', hin2, hin3, Or.inr rfl, rfl, e2⟩
/-- \ and a byte -/
theorem xS_readEscaped {E : cEnv} (hE : cOk E) (g : cG) (i n j m q : Nat) (hn : n ≤ 24) (hm : m ≤ 24) (hi : (g.1 i).2.2.2 = nI n) (hj : (g.1 j).2.2.2 = nI m) (hp : nN g 6 = nI q) (hq : q < 100) : (¬ q < m → cSd E mS_readEscaped [qR 7 0, qR 1 i, qR 1 j] g (some (qI (-1))) g) ∧ (q < m → cSd E mS_readEscaped [qR 7 0, qR 1 i, qR 1 j] g (some (qI (plF (g.2.1 i) (g.2.1 j q) (g.2.1 j q) n 0 0))) (uN g 6 (nI (q + 1)))) := by
  constructor
  · intro hl
    refine qm_meth hE (by decide) rfl rfl (Nat.le_of_ble_eq_true rfl) ?_
    intro p e st mm args below meth c Q C _ _
    have hc : ¬ nN g 6 < (g.1 j).2.2.2 := by rw [hp, hj]; exact nI_nlt (by omega) (by omega)
    exact qm_step (sS_readEscaped hE) C 0 9999 100 ([0], [], []) ⟨hc, rfl, rfl⟩
  · intro hl
    refine qm_meth hE (by decide) rfl rfl (Nat.le_of_ble_eq_true rfl) ?_
    intro p e st mm args below meth c Q C _ _
    have hc : nN g 6 < (g.1 j).2.2.2 := by rw [hp, hj]; exact nI_lt hl (by omega)
    have hat := xV_at_yes hE g j q m hl hm hj
    rw [← hp] at hat
    have hpl := xS_placesOf hE (uN g 6 (nI (q + 1))) i n (g.2.1 j q) (g.2.1 j q) hn hi
    have e1 : uN g 6 (nN g 6 + 1) = uN g 6 (nI (q + 1)) := by rw [hp, nI_1]
    rw [← e1] at hpl
    exact qm_step (sS_readEscaped hE) C 0 9999 100 ([1], [], [(_, g), (_, uN g 6 (nN g 6 + 1))]) ⟨hc, hat, hpl, rfl, e1⟩
end
