section
def lw_okq (q : MethodName × Nat) : Prop := (q.1.cls ≠ "java/lang/invoke/MethodHandle" ∧ q.1.cls ≠ "java/lang/invoke/VarHandle") ∧ Cond.instantiable q.1.cls q.2 ∈ tables_1 ∧ Cond.privateMethod q.1 ∈ tables_1 ∧ Cond.instanceMethod q.1 ∈ tables_1
theorem lw_p0 : lw_okq (⟨"PointerAnalyzer$Contexts", "enter", "(I)V"⟩, 4) := ⟨⟨by decide +kernel, by decide +kernel⟩, List.mem_of_getElem? (i := 109) (by decide +kernel), List.mem_of_getElem? (i := 312) (by decide +kernel), List.mem_of_getElem? (i := 313) (by decide +kernel)⟩
theorem lw_p1 : lw_okq (⟨"PointerAnalyzer$Contexts", "find", "(I)I"⟩, 4) := ⟨⟨by decide +kernel, by decide +kernel⟩, List.mem_of_getElem? (i := 109) (by decide +kernel), List.mem_of_getElem? (i := 316) (by decide +kernel), List.mem_of_getElem? (i := 317) (by decide +kernel)⟩
theorem lw_p2 : lw_okq (⟨"PointerAnalyzer$Contexts", "followCalls", "(LPointerAnalyzer$Program;I)V"⟩, 4) := ⟨⟨by decide +kernel, by decide +kernel⟩, List.mem_of_getElem? (i := 109) (by decide +kernel), List.mem_of_getElem? (i := 324) (by decide +kernel), List.mem_of_getElem? (i := 325) (by decide +kernel)⟩
theorem lw_p3 : lw_okq (⟨"PointerAnalyzer$Contexts", "extended", "(II)I"⟩, 4) := ⟨⟨by decide +kernel, by decide +kernel⟩, List.mem_of_getElem? (i := 109) (by decide +kernel), List.mem_of_getElem? (i := 347) (by decide +kernel), List.mem_of_getElem? (i := 348) (by decide +kernel)⟩
theorem lw_p4 : lw_okq (⟨"PointerAnalyzer$Contexts", "sort", "()V"⟩, 4) := ⟨⟨by decide +kernel, by decide +kernel⟩, List.mem_of_getElem? (i := 109) (by decide +kernel), List.mem_of_getElem? (i := 354) (by decide +kernel), List.mem_of_getElem? (i := 355) (by decide +kernel)⟩
theorem lw_p5 : lw_okq (⟨"PointerAnalyzer$Contexts", "countBelow", "(I)I"⟩, 4) := ⟨⟨by decide +kernel, by decide +kernel⟩, List.mem_of_getElem? (i := 109) (by decide +kernel), List.mem_of_getElem? (i := 358) (by decide +kernel), List.mem_of_getElem? (i := 359) (by decide +kernel)⟩
theorem lw_p6 : lw_okq (⟨"PointerAnalyzer$Inclusion", "clear", "()V"⟩, 13) := ⟨⟨by decide +kernel, by decide +kernel⟩, List.mem_of_getElem? (i := 103) (by decide +kernel), List.mem_of_getElem? (i := 362) (by decide +kernel), List.mem_of_getElem? (i := 363) (by decide +kernel)⟩
theorem lw_p7 : lw_okq (⟨"PointerAnalyzer$Inclusion", "codeOf", "(I)I"⟩, 13) := ⟨⟨by decide +kernel, by decide +kernel⟩, List.mem_of_getElem? (i := 103) (by decide +kernel), List.mem_of_getElem? (i := 369) (by decide +kernel), List.mem_of_getElem? (i := 370) (by decide +kernel)⟩
theorem lw_p8 : lw_okq (⟨"PointerAnalyzer$Inclusion", "apply", "(LPointerAnalyzer$Program;I)V"⟩, 13) := ⟨⟨by decide +kernel, by decide +kernel⟩, List.mem_of_getElem? (i := 103) (by decide +kernel), List.mem_of_getElem? (i := 390) (by decide +kernel), List.mem_of_getElem? (i := 391) (by decide +kernel)⟩
theorem lw_p9 : lw_okq (⟨"PointerAnalyzer$Inclusion", "add", "(II)V"⟩, 13) := ⟨⟨by decide +kernel, by decide +kernel⟩, List.mem_of_getElem? (i := 103) (by decide +kernel), List.mem_of_getElem? (i := 413) (by decide +kernel), List.mem_of_getElem? (i := 414) (by decide +kernel)⟩
theorem lw_p10 : lw_okq (⟨"PointerAnalyzer$Inclusion", "addWord", "(IIJ)V"⟩, 13) := ⟨⟨by decide +kernel, by decide +kernel⟩, List.mem_of_getElem? (i := 103) (by decide +kernel), List.mem_of_getElem? (i := 417) (by decide +kernel), List.mem_of_getElem? (i := 418) (by decide +kernel)⟩
theorem lw_p11 : lw_okq (⟨"PointerAnalyzer$Inclusion", "addLoaded", "(II)V"⟩, 13) := ⟨⟨by decide +kernel, by decide +kernel⟩, List.mem_of_getElem? (i := 103) (by decide +kernel), List.mem_of_getElem? (i := 432) (by decide +kernel), List.mem_of_getElem? (i := 433) (by decide +kernel)⟩
theorem lw_p12 : lw_okq (⟨"PointerAnalyzer$Inclusion", "listPointees", "(I)I"⟩, 13) := ⟨⟨by decide +kernel, by decide +kernel⟩, List.mem_of_getElem? (i := 103) (by decide +kernel), List.mem_of_getElem? (i := 436) (by decide +kernel), List.mem_of_getElem? (i := 437) (by decide +kernel)⟩
theorem lw_p13 : lw_okq (⟨"PointerAnalyzer$Inclusion", "word", "(II)J"⟩, 13) := ⟨⟨by decide +kernel, by decide +kernel⟩, List.mem_of_getElem? (i := 103) (by decide +kernel), List.mem_of_getElem? (i := 440) (by decide +kernel), List.mem_of_getElem? (i := 441) (by decide +kernel)⟩
theorem lw_p14 : lw_okq (⟨"PointerAnalyzer$Inclusion", "addAll", "(II)V"⟩, 13) := ⟨⟨by decide +kernel, by decide +kernel⟩, List.mem_of_getElem? (i := 103) (by decide +kernel), List.mem_of_getElem? (i := 444) (by decide +kernel), List.mem_of_getElem? (i := 445) (by decide +kernel)⟩
theorem lw_p15 : lw_okq (⟨"PointerAnalyzer$Inclusion", "addStored", "(II)V"⟩, 13) := ⟨⟨by decide +kernel, by decide +kernel⟩, List.mem_of_getElem? (i := 103) (by decide +kernel), List.mem_of_getElem? (i := 448) (by decide +kernel), List.mem_of_getElem? (i := 449) (by decide +kernel)⟩
def lw_privs_1 : List (MethodName × Nat) := [(⟨"PointerAnalyzer$Contexts", "enter", "(I)V"⟩, 4), (⟨"PointerAnalyzer$Contexts", "find", "(I)I"⟩, 4), (⟨"PointerAnalyzer$Contexts", "followCalls", "(LPointerAnalyzer$Program;I)V"⟩, 4), (⟨"PointerAnalyzer$Contexts", "extended", "(II)I"⟩, 4), (⟨"PointerAnalyzer$Contexts", "sort", "()V"⟩, 4), (⟨"PointerAnalyzer$Contexts", "countBelow", "(I)I"⟩, 4), (⟨"PointerAnalyzer$Inclusion", "clear", "()V"⟩, 13), (⟨"PointerAnalyzer$Inclusion", "codeOf", "(I)I"⟩, 13), (⟨"PointerAnalyzer$Inclusion", "apply", "(LPointerAnalyzer$Program;I)V"⟩, 13), (⟨"PointerAnalyzer$Inclusion", "add", "(II)V"⟩, 13), (⟨"PointerAnalyzer$Inclusion", "addWord", "(IIJ)V"⟩, 13), (⟨"PointerAnalyzer$Inclusion", "addLoaded", "(II)V"⟩, 13), (⟨"PointerAnalyzer$Inclusion", "listPointees", "(I)I"⟩, 13), (⟨"PointerAnalyzer$Inclusion", "word", "(II)J"⟩, 13), (⟨"PointerAnalyzer$Inclusion", "addAll", "(II)V"⟩, 13), (⟨"PointerAnalyzer$Inclusion", "addStored", "(II)V"⟩, 13)]
theorem lw_r1 : ∀ q ∈ lw_privs_1, lw_okq q := List.forall_mem_cons.mpr ⟨lw_p0, List.forall_mem_cons.mpr ⟨lw_p1, List.forall_mem_cons.mpr ⟨lw_p2, List.forall_mem_cons.mpr ⟨lw_p3, List.forall_mem_cons.mpr ⟨lw_p4, List.forall_mem_cons.mpr ⟨lw_p5, List.forall_mem_cons.mpr ⟨lw_p6, List.forall_mem_cons.mpr ⟨lw_p7, List.forall_mem_cons.mpr ⟨lw_p8, List.forall_mem_cons.mpr ⟨lw_p9, List.forall_mem_cons.mpr ⟨lw_p10, List.forall_mem_cons.mpr ⟨lw_p11, List.forall_mem_cons.mpr ⟨lw_p12, List.forall_mem_cons.mpr ⟨lw_p13, List.forall_mem_cons.mpr ⟨lw_p14, List.forall_mem_cons.mpr ⟨lw_p15, fun _ h => absurd h List.not_mem_nil⟩⟩⟩⟩⟩⟩⟩⟩⟩⟩⟩⟩⟩⟩⟩⟩
theorem lw_p16 : lw_okq (⟨"PointerAnalyzer$Inclusion", "addShifted", "(III)V"⟩, 13) := ⟨⟨by decide +kernel, by decide +kernel⟩, List.mem_of_getElem? (i := 103) (by decide +kernel), List.mem_of_getElem? (i := 456) (by decide +kernel), List.mem_of_getElem? (i := 457) (by decide +kernel)⟩
theorem lw_p17 : lw_okq (⟨"PointerAnalyzer$Contexts", "keyAt", "(I)I"⟩, 4) := ⟨⟨by decide +kernel, by decide +kernel⟩, List.mem_of_getElem? (i := 109) (by decide +kernel), List.mem_of_getElem? (i := 466) (by decide +kernel), List.mem_of_getElem? (i := 467) (by decide +kernel)⟩
theorem lw_p18 : lw_okq (⟨"PointerAnalyzer", "drawPointers", "()V"⟩, 11) := ⟨⟨by decide +kernel, by decide +kernel⟩, List.mem_of_getElem? (i := 25) (by decide +kernel), List.mem_of_getElem? (i := 482) (by decide +kernel), List.mem_of_getElem? (i := 483) (by decide +kernel)⟩
theorem lw_p19 : lw_okq (⟨"PointerAnalyzer$Unification", "separate", "()V"⟩, 3) := ⟨⟨by decide +kernel, by decide +kernel⟩, List.mem_of_getElem? (i := 169) (by decide +kernel), List.mem_of_getElem? (i := 535) (by decide +kernel), List.mem_of_getElem? (i := 536) (by decide +kernel)⟩
theorem lw_p20 : lw_okq (⟨"PointerAnalyzer$Unification", "apply", "(LPointerAnalyzer$Program;I)V"⟩, 3) := ⟨⟨by decide +kernel, by decide +kernel⟩, List.mem_of_getElem? (i := 169) (by decide +kernel), List.mem_of_getElem? (i := 547) (by decide +kernel), List.mem_of_getElem? (i := 548) (by decide +kernel)⟩
theorem lw_p21 : lw_okq (⟨"PointerAnalyzer$Unification", "join", "(II)V"⟩, 3) := ⟨⟨by decide +kernel, by decide +kernel⟩, List.mem_of_getElem? (i := 169) (by decide +kernel), List.mem_of_getElem? (i := 555) (by decide +kernel), List.mem_of_getElem? (i := 556) (by decide +kernel)⟩
theorem lw_p22 : lw_okq (⟨"PointerAnalyzer$Unification", "root", "(I)I"⟩, 3) := ⟨⟨by decide +kernel, by decide +kernel⟩, List.mem_of_getElem? (i := 169) (by decide +kernel), List.mem_of_getElem? (i := 559) (by decide +kernel), List.mem_of_getElem? (i := 560) (by decide +kernel)⟩
theorem lw_p23 : lw_okq (⟨"PointerAnalyzer$Unification", "isFirstOfClass", "(I)Z"⟩, 3) := ⟨⟨by decide +kernel, by decide +kernel⟩, List.mem_of_getElem? (i := 169) (by decide +kernel), List.mem_of_getElem? (i := 574) (by decide +kernel), List.mem_of_getElem? (i := 575) (by decide +kernel)⟩
theorem lw_p24 : lw_okq (⟨"PointerAnalyzer$Machine", "takeCells", "(II)I"⟩, 11) := ⟨⟨by decide +kernel, by decide +kernel⟩, List.mem_of_getElem? (i := 195) (by decide +kernel), List.mem_of_getElem? (i := 595) (by decide +kernel), List.mem_of_getElem? (i := 596) (by decide +kernel)⟩
theorem lw_p25 : lw_okq (⟨"PointerAnalyzer$Machine", "open", "(LPointerAnalyzer$Program;I)V"⟩, 11) := ⟨⟨by decide +kernel, by decide +kernel⟩, List.mem_of_getElem? (i := 195) (by decide +kernel), List.mem_of_getElem? (i := 600) (by decide +kernel), List.mem_of_getElem? (i := 601) (by decide +kernel)⟩
theorem lw_p26 : lw_okq (⟨"PointerAnalyzer$Machine", "execute", "(LPointerAnalyzer$Program;I)V"⟩, 11) := ⟨⟨by decide +kernel, by decide +kernel⟩, List.mem_of_getElem? (i := 195) (by decide +kernel), List.mem_of_getElem? (i := 608) (by decide +kernel), List.mem_of_getElem? (i := 609) (by decide +kernel)⟩
theorem lw_p27 : lw_okq (⟨"PointerAnalyzer$Machine", "addressOf", "(I)I"⟩, 11) := ⟨⟨by decide +kernel, by decide +kernel⟩, List.mem_of_getElem? (i := 195) (by decide +kernel), List.mem_of_getElem? (i := 613) (by decide +kernel), List.mem_of_getElem? (i := 614) (by decide +kernel)⟩
theorem lw_p28 : lw_okq (⟨"PointerAnalyzer$Machine", "write", "(II)V"⟩, 11) := ⟨⟨by decide +kernel, by decide +kernel⟩, List.mem_of_getElem? (i := 195) (by decide +kernel), List.mem_of_getElem? (i := 619) (by decide +kernel), List.mem_of_getElem? (i := 620) (by decide +kernel)⟩
theorem lw_p29 : lw_okq (⟨"PointerAnalyzer$Machine", "read", "(I)I"⟩, 11) := ⟨⟨by decide +kernel, by decide +kernel⟩, List.mem_of_getElem? (i := 195) (by decide +kernel), List.mem_of_getElem? (i := 624) (by decide +kernel), List.mem_of_getElem? (i := 625) (by decide +kernel)⟩
theorem lw_p30 : lw_okq (⟨"PointerAnalyzer$Machine", "load", "(II)V"⟩, 11) := ⟨⟨by decide +kernel, by decide +kernel⟩, List.mem_of_getElem? (i := 195) (by decide +kernel), List.mem_of_getElem? (i := 628) (by decide +kernel), List.mem_of_getElem? (i := 629) (by decide +kernel)⟩
theorem lw_p31 : lw_okq (⟨"PointerAnalyzer$Machine", "store", "(II)V"⟩, 11) := ⟨⟨by decide +kernel, by decide +kernel⟩, List.mem_of_getElem? (i := 195) (by decide +kernel), List.mem_of_getElem? (i := 632) (by decide +kernel), List.mem_of_getElem? (i := 633) (by decide +kernel)⟩
def lw_privs_2 : List (MethodName × Nat) := [(⟨"PointerAnalyzer$Inclusion", "addShifted", "(III)V"⟩, 13), (⟨"PointerAnalyzer$Contexts", "keyAt", "(I)I"⟩, 4), (⟨"PointerAnalyzer", "drawPointers", "()V"⟩, 11), (⟨"PointerAnalyzer$Unification", "separate", "()V"⟩, 3), (⟨"PointerAnalyzer$Unification", "apply", "(LPointerAnalyzer$Program;I)V"⟩, 3), (⟨"PointerAnalyzer$Unification", "join", "(II)V"⟩, 3), (⟨"PointerAnalyzer$Unification", "root", "(I)I"⟩, 3), (⟨"PointerAnalyzer$Unification", "isFirstOfClass", "(I)Z"⟩, 3), (⟨"PointerAnalyzer$Machine", "takeCells", "(II)I"⟩, 11), (⟨"PointerAnalyzer$Machine", "open", "(LPointerAnalyzer$Program;I)V"⟩, 11), (⟨"PointerAnalyzer$Machine", "execute", "(LPointerAnalyzer$Program;I)V"⟩, 11), (⟨"PointerAnalyzer$Machine", "addressOf", "(I)I"⟩, 11), (⟨"PointerAnalyzer$Machine", "write", "(II)V"⟩, 11), (⟨"PointerAnalyzer$Machine", "read", "(I)I"⟩, 11), (⟨"PointerAnalyzer$Machine", "load", "(II)V"⟩, 11), (⟨"PointerAnalyzer$Machine", "store", "(II)V"⟩, 11)]
theorem lw_r2 : ∀ q ∈ lw_privs_2, lw_okq q := List.forall_mem_cons.mpr ⟨lw_p16, List.forall_mem_cons.mpr ⟨lw_p17, List.forall_mem_cons.mpr ⟨lw_p18, List.forall_mem_cons.mpr ⟨lw_p19, List.forall_mem_cons.mpr ⟨lw_p20, List.forall_mem_cons.mpr ⟨lw_p21, List.forall_mem_cons.mpr ⟨lw_p22, List.forall_mem_cons.mpr ⟨lw_p23, List.forall_mem_cons.mpr ⟨lw_p24, List.forall_mem_cons.mpr ⟨lw_p25, List.forall_mem_cons.mpr ⟨lw_p26, List.forall_mem_cons.mpr ⟨lw_p27, List.forall_mem_cons.mpr ⟨lw_p28, List.forall_mem_cons.mpr ⟨lw_p29, List.forall_mem_cons.mpr ⟨lw_p30, List.forall_mem_cons.mpr ⟨lw_p31, fun _ h => absurd h List.not_mem_nil⟩⟩⟩⟩⟩⟩⟩⟩⟩⟩⟩⟩⟩⟩⟩⟩
theorem lw_p32 : lw_okq (⟨"PointerAnalyzer$Machine", "shift", "(III)V"⟩, 11) := ⟨⟨by decide +kernel, by decide +kernel⟩, List.mem_of_getElem? (i := 195) (by decide +kernel), List.mem_of_getElem? (i := 639) (by decide +kernel), List.mem_of_getElem? (i := 640) (by decide +kernel)⟩
theorem lw_p33 : lw_okq (⟨"PointerAnalyzer$Machine", "call", "(LPointerAnalyzer$Program;II)V"⟩, 11) := ⟨⟨by decide +kernel, by decide +kernel⟩, List.mem_of_getElem? (i := 195) (by decide +kernel), List.mem_of_getElem? (i := 643) (by decide +kernel), List.mem_of_getElem? (i := 644) (by decide +kernel)⟩
theorem lw_p34 : lw_okq (⟨"PointerAnalyzer$Machine", "close", "(LPointerAnalyzer$Program;)V"⟩, 11) := ⟨⟨by decide +kernel, by decide +kernel⟩, List.mem_of_getElem? (i := 195) (by decide +kernel), List.mem_of_getElem? (i := 647) (by decide +kernel), List.mem_of_getElem? (i := 648) (by decide +kernel)⟩
theorem lw_p35 : lw_okq (⟨"PointerAnalyzer$Program", "number", "()V"⟩, 8) := ⟨⟨by decide +kernel, by decide +kernel⟩, List.mem_of_getElem? (i := 72) (by decide +kernel), List.mem_of_getElem? (i := 683) (by decide +kernel), List.mem_of_getElem? (i := 684) (by decide +kernel)⟩
theorem lw_p36 : lw_okq (⟨"java/lang/Throwable", "fillInStackTrace", "(I)Ljava/lang/Throwable;"⟩, 6) := ⟨⟨by decide +kernel, by decide +kernel⟩, List.mem_of_getElem? (i := 738) (by decide +kernel), List.mem_of_getElem? (i := 736) (by decide +kernel), List.mem_of_getElem? (i := 737) (by decide +kernel)⟩
theorem lw_p37 : lw_okq (⟨"PointerAnalyzer", "checkFunction", "(I)V"⟩, 11) := ⟨⟨by decide +kernel, by decide +kernel⟩, List.mem_of_getElem? (i := 25) (by decide +kernel), List.mem_of_getElem? (i := 824) (by decide +kernel), List.mem_of_getElem? (i := 825) (by decide +kernel)⟩
theorem lw_p38 : lw_okq (⟨"PointerAnalyzer$BodyText", "readStatement", "(LPointerAnalyzer$Draft;)Z"⟩, 4) := ⟨⟨by decide +kernel, by decide +kernel⟩, List.mem_of_getElem? (i := 33) (by decide +kernel), List.mem_of_getElem? (i := 850) (by decide +kernel), List.mem_of_getElem? (i := 851) (by decide +kernel)⟩
theorem lw_p39 : lw_okq (⟨"PointerAnalyzer$BodyText", "accept", "(C)Z"⟩, 4) := ⟨⟨by decide +kernel, by decide +kernel⟩, List.mem_of_getElem? (i := 33) (by decide +kernel), List.mem_of_getElem? (i := 854) (by decide +kernel), List.mem_of_getElem? (i := 855) (by decide +kernel)⟩
theorem lw_p40 : lw_okq (⟨"PointerAnalyzer$BodyText", "current", "()I"⟩, 4) := ⟨⟨by decide +kernel, by decide +kernel⟩, List.mem_of_getElem? (i := 33) (by decide +kernel), List.mem_of_getElem? (i := 858) (by decide +kernel), List.mem_of_getElem? (i := 859) (by decide +kernel)⟩
theorem lw_p41 : lw_okq (⟨"PointerAnalyzer$BodyText", "readStore", "(LPointerAnalyzer$Draft;)Z"⟩, 4) := ⟨⟨by decide +kernel, by decide +kernel⟩, List.mem_of_getElem? (i := 33) (by decide +kernel), List.mem_of_getElem? (i := 862) (by decide +kernel), List.mem_of_getElem? (i := 863) (by decide +kernel)⟩
theorem lw_p42 : lw_okq (⟨"PointerAnalyzer$BodyText", "readVariable", "()I"⟩, 4) := ⟨⟨by decide +kernel, by decide +kernel⟩, List.mem_of_getElem? (i := 33) (by decide +kernel), List.mem_of_getElem? (i := 866) (by decide +kernel), List.mem_of_getElem? (i := 867) (by decide +kernel)⟩
theorem lw_p43 : lw_okq (⟨"PointerAnalyzer$BodyText", "variableNamed", "(I)I"⟩, 4) := ⟨⟨by decide +kernel, by decide +kernel⟩, List.mem_of_getElem? (i := 33) (by decide +kernel), List.mem_of_getElem? (i := 870) (by decide +kernel), List.mem_of_getElem? (i := 871) (by decide +kernel)⟩
theorem lw_p44 : lw_okq (⟨"PointerAnalyzer$BodyText", "readOperand", "(LPointerAnalyzer$Draft;II)Z"⟩, 4) := ⟨⟨by decide +kernel, by decide +kernel⟩, List.mem_of_getElem? (i := 33) (by decide +kernel), List.mem_of_getElem? (i := 874) (by decide +kernel), List.mem_of_getElem? (i := 875) (by decide +kernel)⟩
theorem lw_p45 : lw_okq (⟨"PointerAnalyzer$BodyText", "readCall", "(LPointerAnalyzer$Draft;I)Z"⟩, 4) := ⟨⟨by decide +kernel, by decide +kernel⟩, List.mem_of_getElem? (i := 33) (by decide +kernel), List.mem_of_getElem? (i := 886) (by decide +kernel), List.mem_of_getElem? (i := 887) (by decide +kernel)⟩
theorem lw_p46 : lw_okq (⟨"PointerAnalyzer$BodyText", "readDigit", "(I)I"⟩, 4) := ⟨⟨by decide +kernel, by decide +kernel⟩, List.mem_of_getElem? (i := 33) (by decide +kernel), List.mem_of_getElem? (i := 890) (by decide +kernel), List.mem_of_getElem? (i := 891) (by decide +kernel)⟩
theorem lw_p47 : lw_okq (⟨"PointerAnalyzer$BodyText", "readCopyOrOffset", "(LPointerAnalyzer$Draft;I)Z"⟩, 4) := ⟨⟨by decide +kernel, by decide +kernel⟩, List.mem_of_getElem? (i := 33) (by decide +kernel), List.mem_of_getElem? (i := 894) (by decide +kernel), List.mem_of_getElem? (i := 895) (by decide +kernel)⟩
def lw_privs_3 : List (MethodName × Nat) := [(⟨"PointerAnalyzer$Machine", "shift", "(III)V"⟩, 11), (⟨"PointerAnalyzer$Machine", "call", "(LPointerAnalyzer$Program;II)V"⟩, 11), (⟨"PointerAnalyzer$Machine", "close", "(LPointerAnalyzer$Program;)V"⟩, 11), (⟨"PointerAnalyzer$Program", "number", "()V"⟩, 8), (⟨"java/lang/Throwable", "fillInStackTrace", "(I)Ljava/lang/Throwable;"⟩, 6), (⟨"PointerAnalyzer", "checkFunction", "(I)V"⟩, 11), (⟨"PointerAnalyzer$BodyText", "readStatement", "(LPointerAnalyzer$Draft;)Z"⟩, 4), (⟨"PointerAnalyzer$BodyText", "accept", "(C)Z"⟩, 4), (⟨"PointerAnalyzer$BodyText", "current", "()I"⟩, 4), (⟨"PointerAnalyzer$BodyText", "readStore", "(LPointerAnalyzer$Draft;)Z"⟩, 4), (⟨"PointerAnalyzer$BodyText", "readVariable", "()I"⟩, 4), (⟨"PointerAnalyzer$BodyText", "variableNamed", "(I)I"⟩, 4), (⟨"PointerAnalyzer$BodyText", "readOperand", "(LPointerAnalyzer$Draft;II)Z"⟩, 4), (⟨"PointerAnalyzer$BodyText", "readCall", "(LPointerAnalyzer$Draft;I)Z"⟩, 4), (⟨"PointerAnalyzer$BodyText", "readDigit", "(I)I"⟩, 4), (⟨"PointerAnalyzer$BodyText", "readCopyOrOffset", "(LPointerAnalyzer$Draft;I)Z"⟩, 4)]
theorem lw_r3 : ∀ q ∈ lw_privs_3, lw_okq q := List.forall_mem_cons.mpr ⟨lw_p32, List.forall_mem_cons.mpr ⟨lw_p33, List.forall_mem_cons.mpr ⟨lw_p34, List.forall_mem_cons.mpr ⟨lw_p35, List.forall_mem_cons.mpr ⟨lw_p36, List.forall_mem_cons.mpr ⟨lw_p37, List.forall_mem_cons.mpr ⟨lw_p38, List.forall_mem_cons.mpr ⟨lw_p39, List.forall_mem_cons.mpr ⟨lw_p40, List.forall_mem_cons.mpr ⟨lw_p41, List.forall_mem_cons.mpr ⟨lw_p42, List.forall_mem_cons.mpr ⟨lw_p43, List.forall_mem_cons.mpr ⟨lw_p44, List.forall_mem_cons.mpr ⟨lw_p45, List.forall_mem_cons.mpr ⟨lw_p46, List.forall_mem_cons.mpr ⟨lw_p47, fun _ h => absurd h List.not_mem_nil⟩⟩⟩⟩⟩⟩⟩⟩⟩⟩⟩⟩⟩⟩⟩⟩
theorem lw_p48 : lw_okq (⟨"PointerAnalyzer$Program", "countElsewhere", "(II)I"⟩, 8) := ⟨⟨by decide +kernel, by decide +kernel⟩, List.mem_of_getElem? (i := 72) (by decide +kernel), List.mem_of_getElem? (i := 915) (by decide +kernel), List.mem_of_getElem? (i := 916) (by decide +kernel)⟩
theorem lw_p49 : lw_okq (⟨"PointerAnalyzer", "forgetAnswers", "()V"⟩, 11) := ⟨⟨by decide +kernel, by decide +kernel⟩, List.mem_of_getElem? (i := 25) (by decide +kernel), List.mem_of_getElem? (i := 939) (by decide +kernel), List.mem_of_getElem? (i := 940) (by decide +kernel)⟩
theorem lw_p50 : lw_okq (⟨"PointerAnalyzer", "checkStatement", "(I)V"⟩, 11) := ⟨⟨by decide +kernel, by decide +kernel⟩, List.mem_of_getElem? (i := 25) (by decide +kernel), List.mem_of_getElem? (i := 960) (by decide +kernel), List.mem_of_getElem? (i := 961) (by decide +kernel)⟩
theorem lw_p51 : lw_okq (⟨"PointerAnalyzer", "checkContext", "(II)V"⟩, 11) := ⟨⟨by decide +kernel, by decide +kernel⟩, List.mem_of_getElem? (i := 25) (by decide +kernel), List.mem_of_getElem? (i := 1008) (by decide +kernel), List.mem_of_getElem? (i := 1009) (by decide +kernel)⟩
theorem lw_p52 : lw_okq (⟨"PointerAnalyzer", "checkVariable", "(I)V"⟩, 11) := ⟨⟨by decide +kernel, by decide +kernel⟩, List.mem_of_getElem? (i := 25) (by decide +kernel), List.mem_of_getElem? (i := 1040) (by decide +kernel), List.mem_of_getElem? (i := 1041) (by decide +kernel)⟩
theorem lw_p53 : lw_okq (⟨"PointerAnalyzer", "checkField", "(II)V"⟩, 11) := ⟨⟨by decide +kernel, by decide +kernel⟩, List.mem_of_getElem? (i := 25) (by decide +kernel), List.mem_of_getElem? (i := 1068) (by decide +kernel), List.mem_of_getElem? (i := 1069) (by decide +kernel)⟩
theorem lw_p54 : lw_okq (⟨"PointerAnalyzer", "checkPlainFact", "(II)V"⟩, 11) := ⟨⟨by decide +kernel, by decide +kernel⟩, List.mem_of_getElem? (i := 25) (by decide +kernel), List.mem_of_getElem? (i := 1095) (by decide +kernel), List.mem_of_getElem? (i := 1096) (by decide +kernel)⟩
theorem lw_p55 : lw_okq (⟨"PointerAnalyzer", "drawCalls", "()V"⟩, 11) := ⟨⟨by decide +kernel, by decide +kernel⟩, List.mem_of_getElem? (i := 25) (by decide +kernel), List.mem_of_getElem? (i := 1159) (by decide +kernel), List.mem_of_getElem? (i := 1160) (by decide +kernel)⟩
theorem lw_p56 : lw_okq (⟨"PointerAnalyzer", "drawFlow", "()V"⟩, 11) := ⟨⟨by decide +kernel, by decide +kernel⟩, List.mem_of_getElem? (i := 25) (by decide +kernel), List.mem_of_getElem? (i := 1190) (by decide +kernel), List.mem_of_getElem? (i := 1191) (by decide +kernel)⟩
theorem lw_p57 : lw_okq (⟨"PointerAnalyzerModel", "fails", "(I)I"⟩, 45) := ⟨⟨by decide +kernel, by decide +kernel⟩, List.mem_of_getElem? (i := 1261) (by decide +kernel), List.mem_of_getElem? (i := 1413) (by decide +kernel), List.mem_of_getElem? (i := 1414) (by decide +kernel)⟩
theorem lw_p58 : lw_okq (⟨"PointerAnalyzerModel", "takesText", "(I)Z"⟩, 45) := ⟨⟨by decide +kernel, by decide +kernel⟩, List.mem_of_getElem? (i := 1261) (by decide +kernel), List.mem_of_getElem? (i := 1424) (by decide +kernel), List.mem_of_getElem? (i := 1425) (by decide +kernel)⟩
theorem lw_p59 : lw_okq (⟨"PointerAnalyzerModel", "takesStatement", "(I)Z"⟩, 45) := ⟨⟨by decide +kernel, by decide +kernel⟩, List.mem_of_getElem? (i := 1261) (by decide +kernel), List.mem_of_getElem? (i := 1428) (by decide +kernel), List.mem_of_getElem? (i := 1429) (by decide +kernel)⟩
theorem lw_p60 : lw_okq (⟨"PointerAnalyzerModel", "skips", "(I)Z"⟩, 45) := ⟨⟨by decide +kernel, by decide +kernel⟩, List.mem_of_getElem? (i := 1261) (by decide +kernel), List.mem_of_getElem? (i := 1432) (by decide +kernel), List.mem_of_getElem? (i := 1433) (by decide +kernel)⟩
theorem lw_p61 : lw_okq (⟨"PointerAnalyzerModel", "next", "()I"⟩, 45) := ⟨⟨by decide +kernel, by decide +kernel⟩, List.mem_of_getElem? (i := 1261) (by decide +kernel), List.mem_of_getElem? (i := 1436) (by decide +kernel), List.mem_of_getElem? (i := 1437) (by decide +kernel)⟩
theorem lw_p62 : lw_okq (⟨"PointerAnalyzerModel", "takesStore", "(I)Z"⟩, 45) := ⟨⟨by decide +kernel, by decide +kernel⟩, List.mem_of_getElem? (i := 1261) (by decide +kernel), List.mem_of_getElem? (i := 1440) (by decide +kernel), List.mem_of_getElem? (i := 1441) (by decide +kernel)⟩
theorem lw_p63 : lw_okq (⟨"PointerAnalyzerModel", "name", "(I)I"⟩, 45) := ⟨⟨by decide +kernel, by decide +kernel⟩, List.mem_of_getElem? (i := 1261) (by decide +kernel), List.mem_of_getElem? (i := 1444) (by decide +kernel), List.mem_of_getElem? (i := 1445) (by decide +kernel)⟩
def lw_privs_4 : List (MethodName × Nat) := [(⟨"PointerAnalyzer$Program", "countElsewhere", "(II)I"⟩, 8), (⟨"PointerAnalyzer", "forgetAnswers", "()V"⟩, 11), (⟨"PointerAnalyzer", "checkStatement", "(I)V"⟩, 11), (⟨"PointerAnalyzer", "checkContext", "(II)V"⟩, 11), (⟨"PointerAnalyzer", "checkVariable", "(I)V"⟩, 11), (⟨"PointerAnalyzer", "checkField", "(II)V"⟩, 11), (⟨"PointerAnalyzer", "checkPlainFact", "(II)V"⟩, 11), (⟨"PointerAnalyzer", "drawCalls", "()V"⟩, 11), (⟨"PointerAnalyzer", "drawFlow", "()V"⟩, 11), (⟨"PointerAnalyzerModel", "fails", "(I)I"⟩, 45), (⟨"PointerAnalyzerModel", "takesText", "(I)Z"⟩, 45), (⟨"PointerAnalyzerModel", "takesStatement", "(I)Z"⟩, 45), (⟨"PointerAnalyzerModel", "skips", "(I)Z"⟩, 45), (⟨"PointerAnalyzerModel", "next", "()I"⟩, 45), (⟨"PointerAnalyzerModel", "takesStore", "(I)Z"⟩, 45), (⟨"PointerAnalyzerModel", "name", "(I)I"⟩, 45)]
theorem lw_r4 : ∀ q ∈ lw_privs_4, lw_okq q := List.forall_mem_cons.mpr ⟨lw_p48, List.forall_mem_cons.mpr ⟨lw_p49, List.forall_mem_cons.mpr ⟨lw_p50, List.forall_mem_cons.mpr ⟨lw_p51, List.forall_mem_cons.mpr ⟨lw_p52, List.forall_mem_cons.mpr ⟨lw_p53, List.forall_mem_cons.mpr ⟨lw_p54, List.forall_mem_cons.mpr ⟨lw_p55, List.forall_mem_cons.mpr ⟨lw_p56, List.forall_mem_cons.mpr ⟨lw_p57, List.forall_mem_cons.mpr ⟨lw_p58, List.forall_mem_cons.mpr ⟨lw_p59, List.forall_mem_cons.mpr ⟨lw_p60, List.forall_mem_cons.mpr ⟨lw_p61, List.forall_mem_cons.mpr ⟨lw_p62, List.forall_mem_cons.mpr ⟨lw_p63, fun _ h => absurd h List.not_mem_nil⟩⟩⟩⟩⟩⟩⟩⟩⟩⟩⟩⟩⟩⟩⟩⟩
theorem lw_p64 : lw_okq (⟨"PointerAnalyzerModel", "puts", "(IIII)V"⟩, 45) := ⟨⟨by decide +kernel, by decide +kernel⟩, List.mem_of_getElem? (i := 1261) (by decide +kernel), List.mem_of_getElem? (i := 1448) (by decide +kernel), List.mem_of_getElem? (i := 1449) (by decide +kernel)⟩
theorem lw_p65 : lw_okq (⟨"PointerAnalyzerModel", "takesCall", "(II)Z"⟩, 45) := ⟨⟨by decide +kernel, by decide +kernel⟩, List.mem_of_getElem? (i := 1261) (by decide +kernel), List.mem_of_getElem? (i := 1452) (by decide +kernel), List.mem_of_getElem? (i := 1453) (by decide +kernel)⟩
theorem lw_p66 : lw_okq (⟨"PointerAnalyzerModel", "digit", "(I)I"⟩, 45) := ⟨⟨by decide +kernel, by decide +kernel⟩, List.mem_of_getElem? (i := 1261) (by decide +kernel), List.mem_of_getElem? (i := 1456) (by decide +kernel), List.mem_of_getElem? (i := 1457) (by decide +kernel)⟩
theorem lw_p67 : lw_okq (⟨"PointerAnalyzerModel", "many", "(II)I"⟩, 45) := ⟨⟨by decide +kernel, by decide +kernel⟩, List.mem_of_getElem? (i := 1261) (by decide +kernel), List.mem_of_getElem? (i := 1460) (by decide +kernel), List.mem_of_getElem? (i := 1461) (by decide +kernel)⟩
theorem lw_p68 : lw_okq (⟨"PointerAnalyzerModel", "copies", "(II)V"⟩, 45) := ⟨⟨by decide +kernel, by decide +kernel⟩, List.mem_of_getElem? (i := 1261) (by decide +kernel), List.mem_of_getElem? (i := 1464) (by decide +kernel), List.mem_of_getElem? (i := 1465) (by decide +kernel)⟩
theorem lw_p69 : lw_okq (⟨"PointerAnalyzerModel", "forgets", "()V"⟩, 45) := ⟨⟨by decide +kernel, by decide +kernel⟩, List.mem_of_getElem? (i := 1261) (by decide +kernel), List.mem_of_getElem? (i := 1468) (by decide +kernel), List.mem_of_getElem? (i := 1469) (by decide +kernel)⟩
theorem lw_p70 : lw_okq (⟨"PointerAnalyzerModel", "statements", "()I"⟩, 45) := ⟨⟨by decide +kernel, by decide +kernel⟩, List.mem_of_getElem? (i := 1261) (by decide +kernel), List.mem_of_getElem? (i := 1480) (by decide +kernel), List.mem_of_getElem? (i := 1481) (by decide +kernel)⟩
theorem lw_p71 : lw_okq (⟨"PointerAnalyzerModel", "isStatement", "(I)Z"⟩, 45) := ⟨⟨by decide +kernel, by decide +kernel⟩, List.mem_of_getElem? (i := 1261) (by decide +kernel), List.mem_of_getElem? (i := 1488) (by decide +kernel), List.mem_of_getElem? (i := 1489) (by decide +kernel)⟩
theorem lw_p72 : lw_okq (⟨"PointerAnalyzerModel", "placeOf", "(I)I"⟩, 45) := ⟨⟨by decide +kernel, by decide +kernel⟩, List.mem_of_getElem? (i := 1261) (by decide +kernel), List.mem_of_getElem? (i := 1492) (by decide +kernel), List.mem_of_getElem? (i := 1493) (by decide +kernel)⟩
theorem lw_p73 : lw_okq (⟨"PointerAnalyzerModel", "sites", "()I"⟩, 45) := ⟨⟨by decide +kernel, by decide +kernel⟩, List.mem_of_getElem? (i := 1261) (by decide +kernel), List.mem_of_getElem? (i := 1504) (by decide +kernel), List.mem_of_getElem? (i := 1505) (by decide +kernel)⟩
theorem lw_p74 : lw_okq (⟨"PointerAnalyzerModel", "refreshes", "()V"⟩, 45) := ⟨⟨by decide +kernel, by decide +kernel⟩, List.mem_of_getElem? (i := 1261) (by decide +kernel), List.mem_of_getElem? (i := 1516) (by decide +kernel), List.mem_of_getElem? (i := 1517) (by decide +kernel)⟩
theorem lw_p75 : lw_okq (⟨"PointerAnalyzerModel", "findRanks", "()V"⟩, 45) := ⟨⟨by decide +kernel, by decide +kernel⟩, List.mem_of_getElem? (i := 1261) (by decide +kernel), List.mem_of_getElem? (i := 1520) (by decide +kernel), List.mem_of_getElem? (i := 1521) (by decide +kernel)⟩
theorem lw_p76 : lw_okq (⟨"PointerAnalyzerModel", "findContexts", "(I)V"⟩, 45) := ⟨⟨by decide +kernel, by decide +kernel⟩, List.mem_of_getElem? (i := 1261) (by decide +kernel), List.mem_of_getElem? (i := 1524) (by decide +kernel), List.mem_of_getElem? (i := 1525) (by decide +kernel)⟩
theorem lw_p77 : lw_okq (⟨"PointerAnalyzerModel", "addsContext", "(II)V"⟩, 45) := ⟨⟨by decide +kernel, by decide +kernel⟩, List.mem_of_getElem? (i := 1261) (by decide +kernel), List.mem_of_getElem? (i := 1528) (by decide +kernel), List.mem_of_getElem? (i := 1529) (by decide +kernel)⟩
theorem lw_p78 : lw_okq (⟨"PointerAnalyzerModel", "numberOf", "(I)I"⟩, 45) := ⟨⟨by decide +kernel, by decide +kernel⟩, List.mem_of_getElem? (i := 1261) (by decide +kernel), List.mem_of_getElem? (i := 1532) (by decide +kernel), List.mem_of_getElem? (i := 1533) (by decide +kernel)⟩
theorem lw_p79 : lw_okq (⟨"PointerAnalyzerModel", "contextOf", "(II)I"⟩, 45) := ⟨⟨by decide +kernel, by decide +kernel⟩, List.mem_of_getElem? (i := 1261) (by decide +kernel), List.mem_of_getElem? (i := 1539) (by decide +kernel), List.mem_of_getElem? (i := 1540) (by decide +kernel)⟩
def lw_privs_5 : List (MethodName × Nat) := [(⟨"PointerAnalyzerModel", "puts", "(IIII)V"⟩, 45), (⟨"PointerAnalyzerModel", "takesCall", "(II)Z"⟩, 45), (⟨"PointerAnalyzerModel", "digit", "(I)I"⟩, 45), (⟨"PointerAnalyzerModel", "many", "(II)I"⟩, 45), (⟨"PointerAnalyzerModel", "copies", "(II)V"⟩, 45), (⟨"PointerAnalyzerModel", "forgets", "()V"⟩, 45), (⟨"PointerAnalyzerModel", "statements", "()I"⟩, 45), (⟨"PointerAnalyzerModel", "isStatement", "(I)Z"⟩, 45), (⟨"PointerAnalyzerModel", "placeOf", "(I)I"⟩, 45), (⟨"PointerAnalyzerModel", "sites", "()I"⟩, 45), (⟨"PointerAnalyzerModel", "refreshes", "()V"⟩, 45), (⟨"PointerAnalyzerModel", "findRanks", "()V"⟩, 45), (⟨"PointerAnalyzerModel", "findContexts", "(I)V"⟩, 45), (⟨"PointerAnalyzerModel", "addsContext", "(II)V"⟩, 45), (⟨"PointerAnalyzerModel", "numberOf", "(I)I"⟩, 45), (⟨"PointerAnalyzerModel", "contextOf", "(II)I"⟩, 45)]
theorem lw_r5 : ∀ q ∈ lw_privs_5, lw_okq q := List.forall_mem_cons.mpr ⟨lw_p64, List.forall_mem_cons.mpr ⟨lw_p65, List.forall_mem_cons.mpr ⟨lw_p66, List.forall_mem_cons.mpr ⟨lw_p67, List.forall_mem_cons.mpr ⟨lw_p68, List.forall_mem_cons.mpr ⟨lw_p69, List.forall_mem_cons.mpr ⟨lw_p70, List.forall_mem_cons.mpr ⟨lw_p71, List.forall_mem_cons.mpr ⟨lw_p72, List.forall_mem_cons.mpr ⟨lw_p73, List.forall_mem_cons.mpr ⟨lw_p74, List.forall_mem_cons.mpr ⟨lw_p75, List.forall_mem_cons.mpr ⟨lw_p76, List.forall_mem_cons.mpr ⟨lw_p77, List.forall_mem_cons.mpr ⟨lw_p78, List.forall_mem_cons.mpr ⟨lw_p79, fun _ h => absurd h List.not_mem_nil⟩⟩⟩⟩⟩⟩⟩⟩⟩⟩⟩⟩⟩⟩⟩⟩
theorem lw_p80 : lw_okq (⟨"PointerAnalyzerModel", "clears", "()V"⟩, 45) := ⟨⟨by decide +kernel, by decide +kernel⟩, List.mem_of_getElem? (i := 1261) (by decide +kernel), List.mem_of_getElem? (i := 1543) (by decide +kernel), List.mem_of_getElem? (i := 1544) (by decide +kernel)⟩
theorem lw_p81 : lw_okq (⟨"PointerAnalyzerModel", "follows", "([JIII)V"⟩, 45) := ⟨⟨by decide +kernel, by decide +kernel⟩, List.mem_of_getElem? (i := 1261) (by decide +kernel), List.mem_of_getElem? (i := 1547) (by decide +kernel), List.mem_of_getElem? (i := 1548) (by decide +kernel)⟩
theorem lw_p82 : lw_okq (⟨"PointerAnalyzerModel", "adds", "(II)V"⟩, 45) := ⟨⟨by decide +kernel, by decide +kernel⟩, List.mem_of_getElem? (i := 1261) (by decide +kernel), List.mem_of_getElem? (i := 1554) (by decide +kernel), List.mem_of_getElem? (i := 1555) (by decide +kernel)⟩
theorem lw_p83 : lw_okq (⟨"PointerAnalyzerModel", "addsAll", "([JII)V"⟩, 45) := ⟨⟨by decide +kernel, by decide +kernel⟩, List.mem_of_getElem? (i := 1261) (by decide +kernel), List.mem_of_getElem? (i := 1561) (by decide +kernel), List.mem_of_getElem? (i := 1562) (by decide +kernel)⟩
theorem lw_p84 : lw_okq (⟨"PointerAnalyzerModel", "siteOf", "(I)I"⟩, 45) := ⟨⟨by decide +kernel, by decide +kernel⟩, List.mem_of_getElem? (i := 1261) (by decide +kernel), List.mem_of_getElem? (i := 1566) (by decide +kernel), List.mem_of_getElem? (i := 1567) (by decide +kernel)⟩
theorem lw_p85 : lw_okq (⟨"PointerAnalyzerModel", "notes", "(II)V"⟩, 45) := ⟨⟨by decide +kernel, by decide +kernel⟩, List.mem_of_getElem? (i := 1261) (by decide +kernel), List.mem_of_getElem? (i := 1570) (by decide +kernel), List.mem_of_getElem? (i := 1571) (by decide +kernel)⟩
theorem lw_p86 : lw_okq (⟨"PointerAnalyzerModel", "targetOf", "(I)I"⟩, 45) := ⟨⟨by decide +kernel, by decide +kernel⟩, List.mem_of_getElem? (i := 1261) (by decide +kernel), List.mem_of_getElem? (i := 1574) (by decide +kernel), List.mem_of_getElem? (i := 1575) (by decide +kernel)⟩
theorem lw_p87 : lw_okq (⟨"PointerAnalyzerModel", "findUnification", "()V"⟩, 45) := ⟨⟨by decide +kernel, by decide +kernel⟩, List.mem_of_getElem? (i := 1261) (by decide +kernel), List.mem_of_getElem? (i := 1578) (by decide +kernel), List.mem_of_getElem? (i := 1579) (by decide +kernel)⟩
theorem lw_p88 : lw_okq (⟨"PointerAnalyzerModel", "made", "()I"⟩, 45) := ⟨⟨by decide +kernel, by decide +kernel⟩, List.mem_of_getElem? (i := 1261) (by decide +kernel), List.mem_of_getElem? (i := 1582) (by decide +kernel), List.mem_of_getElem? (i := 1583) (by decide +kernel)⟩
theorem lw_p89 : lw_okq (⟨"PointerAnalyzerModel", "pointed", "(I)I"⟩, 45) := ⟨⟨by decide +kernel, by decide +kernel⟩, List.mem_of_getElem? (i := 1261) (by decide +kernel), List.mem_of_getElem? (i := 1586) (by decide +kernel), List.mem_of_getElem? (i := 1587) (by decide +kernel)⟩
theorem lw_p90 : lw_okq (⟨"PointerAnalyzerModel", "rootOf", "(I)I"⟩, 45) := ⟨⟨by decide +kernel, by decide +kernel⟩, List.mem_of_getElem? (i := 1261) (by decide +kernel), List.mem_of_getElem? (i := 1590) (by decide +kernel), List.mem_of_getElem? (i := 1591) (by decide +kernel)⟩
theorem lw_p91 : lw_okq (⟨"PointerAnalyzerModel", "unifiesBy", "(I)V"⟩, 45) := ⟨⟨by decide +kernel, by decide +kernel⟩, List.mem_of_getElem? (i := 1261) (by decide +kernel), List.mem_of_getElem? (i := 1594) (by decide +kernel), List.mem_of_getElem? (i := 1595) (by decide +kernel)⟩
theorem lw_p92 : lw_okq (⟨"PointerAnalyzerModel", "unifies", "(II)V"⟩, 45) := ⟨⟨by decide +kernel, by decide +kernel⟩, List.mem_of_getElem? (i := 1261) (by decide +kernel), List.mem_of_getElem? (i := 1598) (by decide +kernel), List.mem_of_getElem? (i := 1599) (by decide +kernel)⟩
theorem lw_p93 : lw_okq (⟨"PointerAnalyzerModel", "contextsOf", "(I)I"⟩, 45) := ⟨⟨by decide +kernel, by decide +kernel⟩, List.mem_of_getElem? (i := 1261) (by decide +kernel), List.mem_of_getElem? (i := 1602) (by decide +kernel), List.mem_of_getElem? (i := 1603) (by decide +kernel)⟩
theorem lw_p94 : lw_okq (⟨"PointerAnalyzerModel", "codeOf", "(II)I"⟩, 45) := ⟨⟨by decide +kernel, by decide +kernel⟩, List.mem_of_getElem? (i := 1261) (by decide +kernel), List.mem_of_getElem? (i := 1610) (by decide +kernel), List.mem_of_getElem? (i := 1611) (by decide +kernel)⟩
theorem lw_p95 : lw_okq (⟨"PointerAnalyzerModel", "firstOf", "(I)I"⟩, 45) := ⟨⟨by decide +kernel, by decide +kernel⟩, List.mem_of_getElem? (i := 1261) (by decide +kernel), List.mem_of_getElem? (i := 1614) (by decide +kernel), List.mem_of_getElem? (i := 1615) (by decide +kernel)⟩
def lw_privs_6 : List (MethodName × Nat) := [(⟨"PointerAnalyzerModel", "clears", "()V"⟩, 45), (⟨"PointerAnalyzerModel", "follows", "([JIII)V"⟩, 45), (⟨"PointerAnalyzerModel", "adds", "(II)V"⟩, 45), (⟨"PointerAnalyzerModel", "addsAll", "([JII)V"⟩, 45), (⟨"PointerAnalyzerModel", "siteOf", "(I)I"⟩, 45), (⟨"PointerAnalyzerModel", "notes", "(II)V"⟩, 45), (⟨"PointerAnalyzerModel", "targetOf", "(I)I"⟩, 45), (⟨"PointerAnalyzerModel", "findUnification", "()V"⟩, 45), (⟨"PointerAnalyzerModel", "made", "()I"⟩, 45), (⟨"PointerAnalyzerModel", "pointed", "(I)I"⟩, 45), (⟨"PointerAnalyzerModel", "rootOf", "(I)I"⟩, 45), (⟨"PointerAnalyzerModel", "unifiesBy", "(I)V"⟩, 45), (⟨"PointerAnalyzerModel", "unifies", "(II)V"⟩, 45), (⟨"PointerAnalyzerModel", "contextsOf", "(I)I"⟩, 45), (⟨"PointerAnalyzerModel", "codeOf", "(II)I"⟩, 45), (⟨"PointerAnalyzerModel", "firstOf", "(I)I"⟩, 45)]
theorem lw_r6 : ∀ q ∈ lw_privs_6, lw_okq q := List.forall_mem_cons.mpr ⟨lw_p80, List.forall_mem_cons.mpr ⟨lw_p81, List.forall_mem_cons.mpr ⟨lw_p82, List.forall_mem_cons.mpr ⟨lw_p83, List.forall_mem_cons.mpr ⟨lw_p84, List.forall_mem_cons.mpr ⟨lw_p85, List.forall_mem_cons.mpr ⟨lw_p86, List.forall_mem_cons.mpr ⟨lw_p87, List.forall_mem_cons.mpr ⟨lw_p88, List.forall_mem_cons.mpr ⟨lw_p89, List.forall_mem_cons.mpr ⟨lw_p90, List.forall_mem_cons.mpr ⟨lw_p91, List.forall_mem_cons.mpr ⟨lw_p92, List.forall_mem_cons.mpr ⟨lw_p93, List.forall_mem_cons.mpr ⟨lw_p94, List.forall_mem_cons.mpr ⟨lw_p95, fun _ h => absurd h List.not_mem_nil⟩⟩⟩⟩⟩⟩⟩⟩⟩⟩⟩⟩⟩⟩⟩⟩
theorem lw_p96 : lw_okq (⟨"PointerAnalyzerModel", "targetsBy", "(I)J"⟩, 45) := ⟨⟨by decide +kernel, by decide +kernel⟩, List.mem_of_getElem? (i := 1261) (by decide +kernel), List.mem_of_getElem? (i := 1629) (by decide +kernel), List.mem_of_getElem? (i := 1630) (by decide +kernel)⟩
theorem lw_p97 : lw_okq (⟨"PointerAnalyzerModel", "targetsOf", "(I)J"⟩, 45) := ⟨⟨by decide +kernel, by decide +kernel⟩, List.mem_of_getElem? (i := 1261) (by decide +kernel), List.mem_of_getElem? (i := 1633) (by decide +kernel), List.mem_of_getElem? (i := 1634) (by decide +kernel)⟩
theorem lw_p98 : lw_okq (⟨"PointerAnalyzerModel", "isField", "(II)Z"⟩, 45) := ⟨⟨by decide +kernel, by decide +kernel⟩, List.mem_of_getElem? (i := 1261) (by decide +kernel), List.mem_of_getElem? (i := 1645) (by decide +kernel), List.mem_of_getElem? (i := 1646) (by decide +kernel)⟩
theorem lw_p99 : lw_okq (⟨"PointerAnalyzerModel", "refuses", "(I)Z"⟩, 45) := ⟨⟨by decide +kernel, by decide +kernel⟩, List.mem_of_getElem? (i := 1261) (by decide +kernel), List.mem_of_getElem? (i := 1660) (by decide +kernel), List.mem_of_getElem? (i := 1661) (by decide +kernel)⟩
theorem lw_p100 : lw_okq (⟨"PointerAnalyzerModel", "reached", "(I)J"⟩, 45) := ⟨⟨by decide +kernel, by decide +kernel⟩, List.mem_of_getElem? (i := 1261) (by decide +kernel), List.mem_of_getElem? (i := 1668) (by decide +kernel), List.mem_of_getElem? (i := 1669) (by decide +kernel)⟩
theorem lw_p101 : lw_okq (⟨"PointerAnalyzerModel", "factAt", "(II)I"⟩, 45) := ⟨⟨by decide +kernel, by decide +kernel⟩, List.mem_of_getElem? (i := 1261) (by decide +kernel), List.mem_of_getElem? (i := 1681) (by decide +kernel), List.mem_of_getElem? (i := 1682) (by decide +kernel)⟩
theorem lw_p102 : lw_okq (⟨"PointerAnalyzerModel", "isTarget", "(I)Z"⟩, 45) := ⟨⟨by decide +kernel, by decide +kernel⟩, List.mem_of_getElem? (i := 1261) (by decide +kernel), List.mem_of_getElem? (i := 1685) (by decide +kernel), List.mem_of_getElem? (i := 1686) (by decide +kernel)⟩
theorem lw_p103 : lw_okq (⟨"PointerAnalyzerModel", "unified", "(I)J"⟩, 45) := ⟨⟨by decide +kernel, by decide +kernel⟩, List.mem_of_getElem? (i := 1261) (by decide +kernel), List.mem_of_getElem? (i := 1701) (by decide +kernel), List.mem_of_getElem? (i := 1702) (by decide +kernel)⟩
theorem lw_p104 : lw_okq (⟨"PointerAnalyzerModel", "called", "(I)I"⟩, 45) := ⟨⟨by decide +kernel, by decide +kernel⟩, List.mem_of_getElem? (i := 1261) (by decide +kernel), List.mem_of_getElem? (i := 1717) (by decide +kernel), List.mem_of_getElem? (i := 1718) (by decide +kernel)⟩
theorem lw_p105 : lw_okq (⟨"PointerAnalyzerModel", "led", "(IZ)I"⟩, 45) := ⟨⟨by decide +kernel, by decide +kernel⟩, List.mem_of_getElem? (i := 1261) (by decide +kernel), List.mem_of_getElem? (i := 1733) (by decide +kernel), List.mem_of_getElem? (i := 1734) (by decide +kernel)⟩
theorem lw_p106 : lw_okq (⟨"PointerAnalyzerModel", "opens", "(I)V"⟩, 45) := ⟨⟨by decide +kernel, by decide +kernel⟩, List.mem_of_getElem? (i := 1261) (by decide +kernel), List.mem_of_getElem? (i := 1744) (by decide +kernel), List.mem_of_getElem? (i := 1745) (by decide +kernel)⟩
theorem lw_p107 : lw_okq (⟨"PointerAnalyzerModel", "closes", "()V"⟩, 45) := ⟨⟨by decide +kernel, by decide +kernel⟩, List.mem_of_getElem? (i := 1261) (by decide +kernel), List.mem_of_getElem? (i := 1748) (by decide +kernel), List.mem_of_getElem? (i := 1749) (by decide +kernel)⟩
theorem lw_p108 : lw_okq (⟨"PointerAnalyzerModel", "placeIn", "(I)I"⟩, 45) := ⟨⟨by decide +kernel, by decide +kernel⟩, List.mem_of_getElem? (i := 1261) (by decide +kernel), List.mem_of_getElem? (i := 1752) (by decide +kernel), List.mem_of_getElem? (i := 1753) (by decide +kernel)⟩
theorem lw_p109 : lw_okq (⟨"PointerAnalyzerModel", "assigns", "(II)V"⟩, 45) := ⟨⟨by decide +kernel, by decide +kernel⟩, List.mem_of_getElem? (i := 1261) (by decide +kernel), List.mem_of_getElem? (i := 1756) (by decide +kernel), List.mem_of_getElem? (i := 1757) (by decide +kernel)⟩
theorem lw_p110 : lw_okq (⟨"PointerAnalyzerModel", "executes", "(I)V"⟩, 45) := ⟨⟨by decide +kernel, by decide +kernel⟩, List.mem_of_getElem? (i := 1261) (by decide +kernel), List.mem_of_getElem? (i := 1760) (by decide +kernel), List.mem_of_getElem? (i := 1761) (by decide +kernel)⟩
theorem lw_p111 : lw_okq (⟨"PointerAnalyzerModel", "makesObject", "(I)I"⟩, 45) := ⟨⟨by decide +kernel, by decide +kernel⟩, List.mem_of_getElem? (i := 1261) (by decide +kernel), List.mem_of_getElem? (i := 1764) (by decide +kernel), List.mem_of_getElem? (i := 1765) (by decide +kernel)⟩
def lw_privs_7 : List (MethodName × Nat) := [(⟨"PointerAnalyzerModel", "targetsBy", "(I)J"⟩, 45), (⟨"PointerAnalyzerModel", "targetsOf", "(I)J"⟩, 45), (⟨"PointerAnalyzerModel", "isField", "(II)Z"⟩, 45), (⟨"PointerAnalyzerModel", "refuses", "(I)Z"⟩, 45), (⟨"PointerAnalyzerModel", "reached", "(I)J"⟩, 45), (⟨"PointerAnalyzerModel", "factAt", "(II)I"⟩, 45), (⟨"PointerAnalyzerModel", "isTarget", "(I)Z"⟩, 45), (⟨"PointerAnalyzerModel", "unified", "(I)J"⟩, 45), (⟨"PointerAnalyzerModel", "called", "(I)I"⟩, 45), (⟨"PointerAnalyzerModel", "led", "(IZ)I"⟩, 45), (⟨"PointerAnalyzerModel", "opens", "(I)V"⟩, 45), (⟨"PointerAnalyzerModel", "closes", "()V"⟩, 45), (⟨"PointerAnalyzerModel", "placeIn", "(I)I"⟩, 45), (⟨"PointerAnalyzerModel", "assigns", "(II)V"⟩, 45), (⟨"PointerAnalyzerModel", "executes", "(I)V"⟩, 45), (⟨"PointerAnalyzerModel", "makesObject", "(I)I"⟩, 45)]
theorem lw_r7 : ∀ q ∈ lw_privs_7, lw_okq q := List.forall_mem_cons.mpr ⟨lw_p96, List.forall_mem_cons.mpr ⟨lw_p97, List.forall_mem_cons.mpr ⟨lw_p98, List.forall_mem_cons.mpr ⟨lw_p99, List.forall_mem_cons.mpr ⟨lw_p100, List.forall_mem_cons.mpr ⟨lw_p101, List.forall_mem_cons.mpr ⟨lw_p102, List.forall_mem_cons.mpr ⟨lw_p103, List.forall_mem_cons.mpr ⟨lw_p104, List.forall_mem_cons.mpr ⟨lw_p105, List.forall_mem_cons.mpr ⟨lw_p106, List.forall_mem_cons.mpr ⟨lw_p107, List.forall_mem_cons.mpr ⟨lw_p108, List.forall_mem_cons.mpr ⟨lw_p109, List.forall_mem_cons.mpr ⟨lw_p110, List.forall_mem_cons.mpr ⟨lw_p111, fun _ h => absurd h List.not_mem_nil⟩⟩⟩⟩⟩⟩⟩⟩⟩⟩⟩⟩⟩⟩⟩⟩
theorem lw_p112 : lw_okq (⟨"PointerAnalyzerModel", "offsets", "(III)V"⟩, 45) := ⟨⟨by decide +kernel, by decide +kernel⟩, List.mem_of_getElem? (i := 1261) (by decide +kernel), List.mem_of_getElem? (i := 1768) (by decide +kernel), List.mem_of_getElem? (i := 1769) (by decide +kernel)⟩
theorem lw_p113 : lw_okq (⟨"PointerAnalyzerModel", "passState", "(Z)V"⟩, 45) := ⟨⟨by decide +kernel, by decide +kernel⟩, List.mem_of_getElem? (i := 1261) (by decide +kernel), List.mem_of_getElem? (i := 1800) (by decide +kernel), List.mem_of_getElem? (i := 1801) (by decide +kernel)⟩
theorem lw_p114 : lw_okq (⟨"PointerAnalyzerModel", "passes", "(I)I"⟩, 45) := ⟨⟨by decide +kernel, by decide +kernel⟩, List.mem_of_getElem? (i := 1261) (by decide +kernel), List.mem_of_getElem? (i := 1804) (by decide +kernel), List.mem_of_getElem? (i := 1805) (by decide +kernel)⟩
def lw_privs_8 : List (MethodName × Nat) := [(⟨"PointerAnalyzerModel", "offsets", "(III)V"⟩, 45), (⟨"PointerAnalyzerModel", "passState", "(Z)V"⟩, 45), (⟨"PointerAnalyzerModel", "passes", "(I)I"⟩, 45)]
theorem lw_r8 : ∀ q ∈ lw_privs_8, lw_okq q := List.forall_mem_cons.mpr ⟨lw_p112, List.forall_mem_cons.mpr ⟨lw_p113, List.forall_mem_cons.mpr ⟨lw_p114, fun _ h => absurd h List.not_mem_nil⟩⟩⟩
def lw_privs : List (MethodName × Nat) := lw_privs_1 ++ (lw_privs_2 ++ (lw_privs_3 ++ (lw_privs_4 ++ (lw_privs_5 ++ (lw_privs_6 ++ (lw_privs_7 ++ (lw_privs_8)))))))
def lw_tbl : List Cond := k2_sels lw_privs ++ tables_1
theorem lw_privs_ok : ∀ q ∈ lw_privs, lw_okq q := by
  show ∀ q ∈ lw_privs_1 ++ (lw_privs_2 ++ (lw_privs_3 ++ (lw_privs_4 ++ (lw_privs_5 ++ (lw_privs_6 ++ (lw_privs_7 ++ (lw_privs_8))))))), lw_okq q
  exact List.forall_mem_append.mpr ⟨lw_r1, List.forall_mem_append.mpr ⟨lw_r2, List.forall_mem_append.mpr ⟨lw_r3, List.forall_mem_append.mpr ⟨lw_r4, List.forall_mem_append.mpr ⟨lw_r5, List.forall_mem_append.mpr ⟨lw_r6, List.forall_mem_append.mpr ⟨lw_r7, lw_r8⟩⟩⟩⟩⟩⟩⟩
abbrev lw_cs : List Choice := [Jvm.Choice.named "NaN.bits"]
theorem lw_bits : nanBits ∈ lw_cs := by first | decide | exact List.mem_cons_self | simp [lw_cs, nanBits]
end
section
theorem goodIn_r {big : List Cond} (ws : List Cond) (ps : List Nat) (hp : ws = ps.filterMap (fun i => big[i]?)) (h : ws.all goodWord = true) : GoodIn big ws := by
  intro w hw
  have h1 := List.all_eq_true.mp h w hw
  rw [hp] at hw
  obtain ⟨i, -, hi⟩ := List.mem_filterMap.mp hw
  have hm : w ∈ big := by first | exact List.mem_of_getElem? hi | exact List.getElem?_mem hi
  exact ⟨hm, good_of_word h1⟩
theorem goodIn_app {big a b : List Cond} (ha : GoodIn big a) (hb : GoodIn big b) : GoodIn big (a ++ b) := fun w h => (List.mem_append.mp h).elim (ha w) (hb w)
theorem goodIn_ca {big a b : List Cond} {c : Cond} (ha : GoodIn big (c :: a)) (hb : GoodIn big b) : GoodIn big (c :: (a ++ b)) := fun w h => (List.mem_cons.mp h).elim (fun e => ha w (List.mem_cons.mpr (Or.inl e))) (fun h => (List.mem_append.mp h).elim (fun h => ha w (List.mem_cons.mpr (Or.inr h))) (hb w))
theorem goodIn_sub {big ws : List Cond} (hm : ∀ w ∈ ws, w ∈ big) (h : ws.all goodWord = true) : GoodIn big ws := fun w hw => ⟨hm w hw, good_of_word (List.all_eq_true.mp h w hw)⟩
section VXA
def vx_T (XC : String → State → State → Prop) (st : State) (q : Addr) (t : State) (mc ms : Nat) (free : Addr → Prop) : Prop :=
  ∃ (E : String) (ce : Cell) (L : List Loc), XC E st t ∧ t.heap[q]? = some ce ∧ ce.vm = .none ∧ st.vm.findClass E = some ce.cls ∧ st.WarmedH t.vm ∧ st.sameButNew ({ t with vm := st.vm } : State) L mc ms ∧ ∀ z ∈ L, free z.base
def vx_Q (Qc : Array Value → State → Outcome → State → Prop) (XC : String → State → State → Prop) (mc ms : Nat) (free : Addr → Prop) : Array Value → State → Outcome → State → Prop := fun a st o t =>
  (Qc a st o t ∧ ∃ L, FrameEnd st o t L mc ms ∧ ∀ q ∈ L, free q.base) ∨ ∃ q, o = .threw q ∧ vx_T XC st q t mc ms free
def vx_Met (l : Launch) (y : MethodName) (ws : List Cond) (rm : Room) (Pc : Array Value → State → Prop) (Qc : Array Value → State → Outcome → State → Prop) (XC : String → State → State → Prop) (mc ms : Nat) (free : Addr → Prop) : Prop :=
  MetFree l y (headSpec ws rm) Pc (fun _ _ _ _ _ => True) (vx_Q Qc XC mc ms free)
def vx_Post (XC : String → State → State → Prop) (mc ms : Nat) (free : Addr → Prop) : Pt → Array Value → Addr → Pt → Prop := fun A a q B =>
  ∃ (g : JFrame) (mk : MethodId) (t : State) (L : List Loc) (E : String) (ce : Cell), B.U.heap = t.heap ∧ B.U.vm = t.vm ∧ XC E (A.U.calling g mk a) t ∧ t.heap[q]? = some ce ∧ ce.vm = .none ∧ A.U.vm.findClass E = some ce.cls ∧ B.locs = A.locs ++ L ∧ (∀ z ∈ L, free z.base) ∧ B.cells = A.cells + mc ∧ B.slots = A.slots + ms
def vx_Back (l : Launch) (R : Room) (p : Program) (e : Env) (below : List Frame) (s : State) (sargs : Array Value) (y : MethodName) (len W9 : Nat)
    (Pre : Pt → Array Value → Prop) (Post : Pt → Array Value → Option Value → Pt → Prop) (PostX : Pt → Array Value → Addr → Pt → Prop) : Prop :=
  ∀ (m : MethodId) (meth : Method) (c : Code) (A : Pt) (g : JFrame) (ig : Instr) (mk : MethodId) (a : Array Value),
    Stand p l e R s m sargs below meth c A.U A.locs A.cells A.slots → g.method = m → g.locals.size = c.maxLocals → decode c.code g.pc = .ok (ig, len) →
    2 * g.monitorRoom + (g.stack.map fun v => v.category).sum ≤ W9 → A.U.methodNamed? y = some mk → Pre A a →
    (∃ (v : Option Value) (B : Pt), Stand p l e R s m sargs below meth c B.U B.locs B.cells B.slots ∧ Post A a v B ∧
      Steps p.tables e below (doInvoke e (A.U.setTop g) [] mk a).1 (B.U.setTop { g with pc := g.pc + len, stack := v.toList ++ g.stack })) ∨
    (∃ (q : Addr) (B : Pt), Stand p l e R s m sargs below meth c B.U B.locs B.cells B.slots ∧ PostX A a q B ∧
      Steps p.tables e below (doInvoke e (A.U.setTop g) [] mk a).1 ((B.U.setTop g).pushFrame (.throwing q)))
section Payer
variable {l : Launch} {R : Room} {p : Program} {e : Env} {below : List Frame} {s : State} {sargs : Array Value} {y : MethodName} {len W9 : Nat}
theorem vx_back {ws : List Cond} {rm : Room} {Pc : Array Value → State → Prop} {Qc : Array Value → State → Outcome → State → Prop} {XC : String → State → State → Prop} {mc ms : Nat} {free : Addr → Prop} {bytes : ByteArray} {maxL : Nat} {ret : Option FieldType}
    (hM : vx_Met l y ws rm Pc Qc XC mc ms free) (hblind : FrameBlind Pc) (hrc : rm.cells = mc) (hrs : rm.slots = ms)
    (hframes : rm.frames + 1 ≤ R.frames) (hlocals : W9 + (maxL + 11) + rm.locals ≤ R.locals)
    (hws : ∀ w ∈ ws, ∀ a' U, s.WarmedH U.vm → w.before a' U = true) (hcode : Cond.code y bytes maxL ret ∈ ws) (hinit : ∀ a' U, s.WarmedH U.vm → (Cond.initialized y.cls).before a' U = true) :
    vx_Back l R p e below s sargs y len W9 (PreOf R mc ms Pc) (PostOf Qc mc ms free) (vx_Post XC mc ms free) := by
  intro m meth c A g ig mk a X hg hsize hdg hW hn hp
  have h1 : (headSpec ws rm).pre.before a A.U = true := atoms_intro fun w hw => hws w hw _ _ X.warmed
  have h2 : (Cond.code y bytes maxL ret).before a A.U = true := hws _ hcode _ _ X.warmed
  have h3 : (Cond.initialized y.cls).before a A.U = true := hinit _ _ X.warmed
  have h4 : A.cells + (headSpec ws rm).room.cells ≤ R.cells := by rw [show (headSpec ws rm).room.cells = mc from hrc]; exact hp.1
  have h5 : A.slots + (headSpec ws rm).room.slots ≤ R.slots := by rw [show (headSpec ws rm).room.slots = ms from hrs]; exact hp.2.1
  have hPc : Pc a (A.U.calling g mk a) := hblind _ _ _ _ hp.2.2
  obtain ⟨U, Ls, c0, s0⟩ := A
  dsimp only [Pt.U, Pt.locs, Pt.cells, Pt.slots] at h1 h2 h3 h4 h5 X hn hPc ⊢
  obtain ⟨methY, cY, hmY, hcY, -, hlY, -, -, -, -⟩ := Cond.code_spec hn h2
  obtain ⟨kY, hkY, -⟩ := className_of_methodNamed hn
  have hinitY : kY.init = .initialized := Cond.initialized_spec (findClass_of_methodNamed hn) hkY h3
  have h : At U g.method c below := by rw [hg]; exact X.here
  have hlocals9 : W9 + (maxL + 11) + (headSpec ws rm).room.locals ≤ R.locals := hlocals
  have happ : (headSpec ws rm).appliesLoose y e.platform (U.calling g mk a) = true :=
    Spec.appliesLoose_calling (g := g) h hdg hn hkY hinitY
      (X.room_calling (g := g) (R' := (headSpec ws rm).room) hsize hmY hcY hframes (by rw [hlY]; omega) h4 h5) h1
  obtain ⟨mid, hmid⟩ := h.above
  have hfr : (U.setTop g).frames = (.java g :: mid) ++ below := by rw [State.frames_setTop' g h.top, hmid]; rfl
  obtain ⟨o, s₂, hsteps, -, hend, hq⟩ := Steps.callFree hM p X.admits X.cas X.clock (acts := []) hfr happ hPc trivial
  have hq' : vx_Q Qc XC mc ms free a (U.calling g mk a) o s₂ := hq
  rw [State.frames_setTop' g h.top] at hend
  obtain ⟨g₀, hg0⟩ := Option.isSome_iff_exists.mp h.top
  obtain ⟨r, hr⟩ := State.topJava?_eq_some.mp hg0
  have hr' : (({ U with heap := s₂.heap, slotsUsed := s₂.slotsUsed } : State).setVm s₂.vm).frames = .java g₀ :: r := hr
  rcases hq' with ⟨hqc, L, hfe, hL⟩ | ⟨q, rfl, E, ce, L, hx, hce, hcv, hcl, hW₂, hsm, hL⟩
  · obtain ⟨⟨v, rfl⟩, hW₂, e2, q2, q3, q4, q5, q6⟩ := id hfe
    have e3 : s₂ = ({ (U.calling g mk a).setFrames s₂.frames with heap := s₂.heap, slotsUsed := s₂.slotsUsed } : State).setVm s₂.vm := by
      have : s₂ = ({ s₂ with vm := (U.calling g mk a).vm } : State).setVm s₂.vm := rfl
      rw [e2] at this
      exact this
    obtain ⟨c₂, i₂, len₂, hc₂, hd₂, hf₂⟩ := hend
    have hW' : U.WarmedH s₂.vm := hW₂
    have hcc : c₂ = c := by
      have h1 : s₂.code? g.method = U.code? g.method := by
        rw [State.code?_eq, State.code?_eq, hW'.alike.method?]
      exact Option.some.inj (hc₂.symm.trans (h1.trans h.code))
    subst hcc
    have hlen : len₂ = len := by rw [hdg] at hd₂; cases hd₂; rfl
    subst hlen
    have hs₂ : s₂ = (({ U with heap := s₂.heap, slotsUsed := s₂.slotsUsed } : State).setVm s₂.vm).setTop { g with pc := g.pc + len₂, stack := v.toList ++ g.stack } := by
      refine e3.trans ?_
      rw [hf₂, State.calling_eq h.top, State.setFrames_setFrames, State.setTop_of_frames _ hr', hr]
      rfl
    have hsame : U.sameButNew ({ U with heap := s₂.heap, slotsUsed := s₂.slotsUsed } : State) L mc ms := by
      refine ⟨?_, q2, q3, q4, q5, q6⟩
      obtain ⟨t, ht, -⟩ := State.frames_cons hr
      show ({ U with heap := s₂.heap, slotsUsed := s₂.slotsUsed } : State) = { U.setFrames U.frames with heap := s₂.heap, slotsUsed := s₂.slotsUsed }
      rw [State.setFrames_self ht]
    subst hg
    refine Or.inl ⟨v, ⟨(({ U with heap := s₂.heap, slotsUsed := s₂.slotsUsed } : State).setVm s₂.vm), Ls ++ L, c0 + mc, s0 + ms⟩,
      ⟨X.admits, X.cas, X.clock, X.frames, X.room, X.hears, X.method, X.code, (X.here.setHeapUsed s₂.heap s₂.slotsUsed).setVm hW'.alike, X.tail, State.WarmedH.trans X.warmed hW', X.limits, X.bytes, X.same.trans (hsame.setVm s.vm)⟩,
      ⟨g, mk, s₂, L, rfl, rfl, hqc, rfl, hL, rfl, rfl⟩, ?_⟩
    show Steps p.tables e below _ ((({ U with heap := s₂.heap, slotsUsed := s₂.slotsUsed } : State).setVm s₂.vm).setTop { g with pc := g.pc + len₂, stack := v.toList ++ g.stack })
    rw [← hs₂]
    exact hsteps
  · obtain ⟨e2, q2, q3, q4, q5, q6⟩ := id hsm
    have e3 : s₂ = ({ (U.calling g mk a).setFrames s₂.frames with heap := s₂.heap, slotsUsed := s₂.slotsUsed } : State).setVm s₂.vm := by
      have : s₂ = ({ s₂ with vm := (U.calling g mk a).vm } : State).setVm s₂.vm := rfl
      rw [e2] at this
      exact this
    have hf₂ : s₂.frames = .throwing q :: .java g :: U.frames.tail := hend
    have hW' : U.WarmedH s₂.vm := hW₂
    have hs₂ : s₂ = ((({ U with heap := s₂.heap, slotsUsed := s₂.slotsUsed } : State).setVm s₂.vm).setTop g).pushFrame (.throwing q) := by
      refine e3.trans ?_
      rw [hf₂, State.calling_eq h.top, State.setFrames_setFrames, State.pushFrame, State.frames_setTop _ hr', State.setTop_of_frames _ hr', State.setFrames_setFrames, hr]
      rfl
    have hsame : U.sameButNew ({ U with heap := s₂.heap, slotsUsed := s₂.slotsUsed } : State) L mc ms := by
      refine ⟨?_, q2, q3, q4, q5, q6⟩
      obtain ⟨t, ht, -⟩ := State.frames_cons hr
      show ({ U with heap := s₂.heap, slotsUsed := s₂.slotsUsed } : State) = { U.setFrames U.frames with heap := s₂.heap, slotsUsed := s₂.slotsUsed }
      rw [State.setFrames_self ht]
    subst hg
    refine Or.inr ⟨q, ⟨(({ U with heap := s₂.heap, slotsUsed := s₂.slotsUsed } : State).setVm s₂.vm), Ls ++ L, c0 + mc, s0 + ms⟩,
      ⟨X.admits, X.cas, X.clock, X.frames, X.room, X.hears, X.method, X.code, (X.here.setHeapUsed s₂.heap s₂.slotsUsed).setVm hW'.alike, X.tail, State.WarmedH.trans X.warmed hW', X.limits, X.bytes, X.same.trans (hsame.setVm s.vm)⟩,
      ⟨g, mk, s₂, L, E, ce, rfl, rfl, hx, hce, hcv, hcl, rfl, hL, rfl, rfl⟩, ?_⟩
    show Steps p.tables e below _ (((({ U with heap := s₂.heap, slotsUsed := s₂.slotsUsed } : State).setVm s₂.vm).setTop g).pushFrame (.throwing q))
    rw [← hs₂]
    exact hsteps
end Payer
section Calls
variable {p : Program} {l : Launch} {e : Env} {R : Room} {s : State} {m : MethodId} {args : Array Value} {below : List Frame} {meth : Method} {c : Code} {T : State} {locs : List Loc} {cells slots : Nat}
theorem vx_callV (X : Stand p l e R s m args below meth c T locs cells slots) (hexec : p.tables.exec = Jvm.exec) {own C : String} {index : Nat} {y : MethodName} {bytes : ByteArray} {maxL : Nat} {ret : Option FieldType}
    (hown : s.vm.findClass own = some m.cls) (hlink : (Cond.methodLink own index y).before args s = true) (hinst : (Cond.instanceMethod y).before args s = true) (hsel : (Cond.selects C y y).before args s = true)
    (hcode : (Cond.code y bytes maxL ret).before args s = true) (hy : y.cls ≠ "java/lang/invoke/MethodHandle" ∧ y.cls ≠ "java/lang/invoke/VarHandle")
    {W9 : Nat} {Pre : Pt → Array Value → Prop} {Post : Pt → Array Value → Option Value → Pt → Prop} {PostX : Pt → Array Value → Addr → Pt → Prop} (hK : vx_Back l R p e below s args y 3 W9 Pre Post PostX)
    {b : Addr} {cellB : Cell} (hcell : T.heap[b]? = some cellB) (hobj : cellB.vm.isStatics = false) (hcls : s.vm.findClass C = some cellB.cls)
    {g : JFrame} (hg : g.method = m) (hsize : g.locals.size = c.maxLocals) {argsL rest : List Value} (hlen : ∀ sig, parseMethodDescriptor y.desc = some sig → argsL.length = sig.parameters.length)
    (hstack : g.stack = argsL.reverse ++ .ref b :: rest) (hW : 2 * g.monitorRoom + (rest.map fun v => v.category).sum ≤ W9) (hdg : decode c.code g.pc = .ok (.invokevirtual index, 3))
    (hpre : ∀ vm₁, s.WarmedH vm₁ → Pre ⟨T.setVm vm₁, locs, cells, slots⟩ (Value.ref b :: argsL).toArray) :
    (∃ (v : Option Value) (vm₁ : Vm) (B : Pt), s.WarmedH vm₁ ∧ Stand p l e R s m args below meth c B.U B.locs B.cells B.slots ∧ Post ⟨T.setVm vm₁, locs, cells, slots⟩ (Value.ref b :: argsL).toArray v B ∧
      ∀ target, Steps p.tables e below (B.U.setTop { g with pc := g.pc + 3, stack := v.toList ++ rest }) target → Steps p.tables e below (T.setTop g) target) ∨
    (∃ (q : Addr) (vm₁ : Vm) (B : Pt), s.WarmedH vm₁ ∧ Stand p l e R s m args below meth c B.U B.locs B.cells B.slots ∧ PostX ⟨T.setVm vm₁, locs, cells, slots⟩ (Value.ref b :: argsL).toArray q B ∧
      Steps p.tables e below (T.setTop g) ((B.U.setTop { g with stack := rest }).pushFrame (.throwing q))) := by
  obtain ⟨mk, methM, hnamed, hmethM, hstM, habM⟩ := Cond.instanceMethod_spec hinst
  obtain ⟨methM', cM, hmethM', -, -, -, -, -, -, hsigM⟩ := Cond.code_spec hnamed hcode
  cases hmethM.symm.trans hmethM'
  obtain ⟨c2, r2, m2, q1, q2, q3, q4, kP, hkP, hkPi⟩ := Cond.selects_spec hsel
  cases hcls.symm.trans q1
  cases (State.methodFound?_of_named hnamed hy).symm.trans q2
  cases hnamed.symm.trans q3
  have hselP : selectMethod e.platform s.vm cellB.cls mk = .method mk := by rw [Launch.admits_selectMethod X.admits]; exact q4
  obtain ⟨vm₁, X₁, hstep₁⟩ := X.invokevirtual hexec hown hlink hnamed hmethM hstM hkP hkPi hy (a := b) (cell := cellB) hcell
    (fun z h => by rw [h] at hobj; cases hobj) hselP hmethM habM hkP hkPi (g := g) hg (argsL := argsL) (rest := rest) (hlen _ hsigM) hstack hdg
  rcases hK m meth c ⟨T.setVm vm₁, locs, cells, slots⟩ { g with stack := rest } (.invokevirtual index) mk (Value.ref b :: argsL).toArray X₁ hg hsize hdg hW (X₁.named hnamed) (hpre vm₁ X₁.warmed) with ⟨v, B, X', hpost, hsteps⟩ | ⟨q, B, X', hpost, hsteps⟩
  · exact Or.inl ⟨v, vm₁, B, X₁.warmed, X', hpost, fun target h => hstep₁ _ fun acts => by rw [doInvoke_state]; exact hsteps.trans h⟩
  · exact Or.inr ⟨q, vm₁, B, X₁.warmed, X', hpost, hstep₁ _ fun acts => by rw [doInvoke_state]; exact hsteps⟩
theorem vx_callS (X : Stand p l e R s m args below meth c T locs cells slots) (hexec : p.tables.exec = Jvm.exec) {own : String} {index : Nat} {y : MethodName} {bytes : ByteArray} {maxL : Nat} {ret : Option FieldType}
    (hown : s.vm.findClass own = some m.cls) (hlink : (Cond.methodLink own index y).before args s = true) (hstat : (Cond.static y).before args s = true) (hinit : (Cond.initialized y.cls).before args s = true)
    (hcode : (Cond.code y bytes maxL ret).before args s = true) (hy : y.cls ≠ "java/lang/invoke/MethodHandle" ∧ y.cls ≠ "java/lang/invoke/VarHandle")
    {W9 : Nat} {Pre : Pt → Array Value → Prop} {Post : Pt → Array Value → Option Value → Pt → Prop} {PostX : Pt → Array Value → Addr → Pt → Prop} (hK : vx_Back l R p e below s args y 3 W9 Pre Post PostX)
    {g : JFrame} (hg : g.method = m) (hsize : g.locals.size = c.maxLocals) {argsL rest : List Value} (hlen : ∀ sig, parseMethodDescriptor y.desc = some sig → argsL.length = sig.parameters.length)
    (hstack : g.stack = argsL.reverse ++ rest) (hW : 2 * g.monitorRoom + (rest.map fun v => v.category).sum ≤ W9) (hdg : decode c.code g.pc = .ok (.invokestatic index, 3))
    (hpre : ∀ vm₁, s.WarmedH vm₁ → Pre ⟨T.setVm vm₁, locs, cells, slots⟩ argsL.toArray) :
    (∃ (v : Option Value) (vm₁ : Vm) (B : Pt), s.WarmedH vm₁ ∧ Stand p l e R s m args below meth c B.U B.locs B.cells B.slots ∧ Post ⟨T.setVm vm₁, locs, cells, slots⟩ argsL.toArray v B ∧
      ∀ target, Steps p.tables e below (B.U.setTop { g with pc := g.pc + 3, stack := v.toList ++ rest }) target → Steps p.tables e below (T.setTop g) target) ∨
    (∃ (q : Addr) (vm₁ : Vm) (B : Pt), s.WarmedH vm₁ ∧ Stand p l e R s m args below meth c B.U B.locs B.cells B.slots ∧ PostX ⟨T.setVm vm₁, locs, cells, slots⟩ argsL.toArray q B ∧
      Steps p.tables e below (T.setTop g) ((B.U.setTop { g with stack := rest }).pushFrame (.throwing q))) := by
  obtain ⟨mk, hnamed⟩ := Cond.code_named hcode
  obtain ⟨methM, cM, hmethM, -, -, -, -, -, -, hsigM⟩ := Cond.code_spec hnamed hcode
  have hstatic : methM.isStatic = true := Cond.static_spec hnamed hmethM hstat
  obtain ⟨kP, hkP, -⟩ := className_of_methodNamed hnamed
  have hinitP : kP.init = .initialized := Cond.initialized_spec (findClass_of_methodNamed hnamed) hkP hinit
  obtain ⟨vm₁, X₁, hstep₁⟩ := X.invokestatic hexec hown hlink hnamed hmethM hstatic hkP hinitP hy (g := g) hg (argsL := argsL) (rest := rest) (hlen _ hsigM) hstack hdg
  rcases hK m meth c ⟨T.setVm vm₁, locs, cells, slots⟩ { g with stack := rest } (.invokestatic index) mk argsL.toArray X₁ hg hsize hdg hW (X₁.named hnamed) (hpre vm₁ X₁.warmed) with ⟨v, B, X', hpost, hsteps⟩ | ⟨q, B, X', hpost, hsteps⟩
  · exact Or.inl ⟨v, vm₁, B, X₁.warmed, X', hpost, fun target h => hstep₁ _ fun acts => by rw [doInvoke_state]; exact hsteps.trans h⟩
  · exact Or.inr ⟨q, vm₁, B, X₁.warmed, X', hpost, hstep₁ _ fun acts => by rw [doInvoke_state]; exact hsteps⟩
end Calls
theorem vx_cls {s : State} {T : State} {vm₁ : Vm} {E : String} {k : ClassId} (hW : s.WarmedH vm₁) (h : (T.setVm vm₁).vm.findClass E = some k) : s.vm.findClass E = some k := by
  have h1 : vm₁.findClass E = some k := h
  rw [hW.alike.findClass] at h1
  exact h1
def vx_W (p : Program) (l : Launch) (e : Env) (R : Room) (s : State) (m : MethodId) (args : Array Value) (below : List Frame) (meth : Method) (c : Code) (H : Heap) (locs : List Loc) (cells slots : Nat) (Q : State → Prop) (g : JFrame) (q : Addr) : Prop :=
  ∀ T : State, T.heap = H → Stand p l e R s m args below meth c T locs cells slots → ∃ t, Steps p.tables e below ((T.setTop g).pushFrame (.throwing q)) t ∧ Q t
def vx_Run (p : Program) (l : Launch) (e : Env) (R : Room) (s : State) (m : MethodId) (args : Array Value) (below : List Frame) (meth : Method) (c : Code) (H : Heap) (locs : List Loc) (cells slots mc ms : Nat) (g : JFrame) (rest : List Value) (Qa : State → Outcome → State → Prop) (XC : String → State → State → Prop) (free : Addr → Prop) : Prop :=
  ∀ T : State, T.heap = H → Stand p l e R s m args below meth c T locs cells slots →
    (∃ (v : Option Value) (st₀ t T' : State) (L : List Loc), st₀.heap = H ∧ Stand p l e R s m args below meth c T' (locs ++ L) (cells + mc) (slots + ms) ∧ (∀ q ∈ L, free q.base) ∧ T'.heap = t.heap ∧ T'.vm = t.vm ∧ Qa st₀ (.returned v) t ∧
      Goes p e below T g T' { g with pc := g.pc + 3, stack := v.toList ++ rest }) ∨
    (∃ (q : Addr) (st₀ t T' : State) (L : List Loc) (E : String) (ce : Cell), st₀.heap = H ∧ Stand p l e R s m args below meth c T' (locs ++ L) (cells + mc) (slots + ms) ∧ (∀ z ∈ L, free z.base) ∧ T'.heap = t.heap ∧ T'.vm = t.vm ∧ XC E st₀ t ∧ t.heap[q]? = some ce ∧ ce.vm = .none ∧ s.vm.findClass E = some ce.cls ∧
      Steps p.tables e below (T.setTop g) ((T'.setTop { g with stack := rest }).pushFrame (.throwing q)))
def vx_X {S : Type} (px : S → Prop) (B : String → S → State → Prop) (A : Nat → Prop) : String → State → State → Prop := fun E st t => ∃ u : S, px u ∧ B E u t ∧ va_F A st t
section Runs
variable {p : Program} {l : Launch} {e : Env} {R : Room} {s : State} {m : MethodId} {args : Array Value} {below : List Frame} {meth : Method} {c : Code} {H : Heap} {locs : List Loc} {cells slots : Nat}
variable {y : MethodName} {bytes cc : ByteArray} {maxL nL mc ms n index : Nat} {ret : Option FieldType} {ws : List Cond} {rm : Room} {Pc : Array Value → State → Prop} {Qc : Array Value → State → Outcome → State → Prop} {XC : String → State → State → Prop} {free : Addr → Prop} {Ts : List Cond} {own C : String} {b : Addr} {As rest : List Value} {g : JFrame}
theorem vx_callBack (cb : CallB R s args own index y bytes maxL ret ws rm mc ms n) (hM : vx_Met l y ws rm Pc Qc XC mc ms free) (hbl : FrameBlind Pc) : vx_Back l R p e below s args y 3 8 (PreOf R mc ms Pc) (PostOf Qc mc ms free) (vx_Post XC mc ms free) := by
  obtain ⟨hrc, hrs, hfr, hlo, hws, hcw, -, hini, -⟩ := cb
  exact vx_back (bytes := bytes) (maxL := maxL) (ret := ret) hM hbl hrc hrs hfr hlo hws hcw (fun a' U hW => word_at hW (Or.inl (by first | rfl | simp [Cond.onTables, Cond.keeps, Cond.steady])) hini)
theorem vx_runV (S : CallFix p m c cc nL s args Ts own) (hM : vx_Met l y ws rm Pc Qc XC mc ms free) (cw : CallW R s args own C index y bytes maxL ret ws rm mc ms n) (hp : PreV s H C b Pc As)
    (hg : g.method = m) (hn : As.length = n) (hsize : g.locals.size = nL) (hstack : g.stack = As.reverse ++ .ref b :: rest) (hW : 2 * g.monitorRoom + (rest.map fun v => v.category).sum ≤ 8) (hdg : decode cc g.pc = .ok (.invokevirtual index, 3)) (hf : cells + mc ≤ R.cells ∧ slots + ms ≤ R.slots) :
    vx_Run p l e R s m args below meth c H locs cells slots mc ms g rest (Qc (Value.ref b :: As).toArray) XC free := by
  have hK : vx_Back l R p e below s args y 3 8 (PreOf R mc ms Pc) (PostOf Qc mc ms free) (vx_Post XC mc ms free) := vx_callBack cw.1 hM hp.1
  obtain ⟨⟨-, -, -, -, -, -, hcode, -, hy, hlen, hl⟩, hin, hse⟩ := cw
  obtain ⟨hx, hb, hml, ho, -⟩ := S
  obtain ⟨-, ⟨cellB, hcB, hoB, hclB⟩, hPc⟩ := hp
  intro T hT X
  rcases vx_callV X hx (C := C) (bytes := bytes) (maxL := maxL) (ret := ret) ho hl hin hse hcode hy hK (by rw [hT]; exact hcB) hoB hclB hg (hsize.trans hml.symm) (argsL := As) (rest := rest) (fun sig h => hn.trans (hlen sig h)) hstack hW (by rw [hb]; exact hdg)
    (fun vm₁ hW₁ => ⟨hf.1, hf.2, hPc (T.setVm vm₁) hT hW₁⟩) with ⟨v, vm₁, ⟨U', l2, c2, s2⟩, hW₁, X', ⟨g', mk, t, L, e1, e2, hq, h1, hL, h2, h3⟩, st⟩ | ⟨q, vm₁, ⟨U', l2, c2, s2⟩, hW₁, X', ⟨g', mk, t, L, E, ce, e1, e2, hq, hce, hcv, hcl, h1, hL, h2, h3⟩, st⟩
  · dsimp only [Pt.U, Pt.locs, Pt.cells, Pt.slots] at X' e1 e2 h1 h2 h3 st
    subst h1; subst h2; subst h3
    exact Or.inl ⟨v, (T.setVm vm₁).calling g' mk (Value.ref b :: As).toArray, t, U', L, hT, X', hL, e1, e2, hq, st⟩
  · dsimp only [Pt.U, Pt.locs, Pt.cells, Pt.slots] at X' e1 e2 h1 h2 h3 st hcl
    subst h1; subst h2; subst h3
    exact Or.inr ⟨q, (T.setVm vm₁).calling g' mk (Value.ref b :: As).toArray, t, U', L, E, ce, hT, X', hL, e1, e2, hq, hce, hcv, vx_cls hW₁ hcl, st⟩
theorem vx_runS (S : CallFix p m c cc nL s args Ts own) (hM : vx_Met l y ws rm Pc Qc XC mc ms free) (cw : CallB R s args own index y bytes maxL ret ws rm mc ms n ∧ (Cond.static y).before args s = true) (hp : PreS s H Pc As)
    (hg : g.method = m) (hn : As.length = n) (hsize : g.locals.size = nL) (hstack : g.stack = As.reverse ++ rest) (hW : 2 * g.monitorRoom + (rest.map fun v => v.category).sum ≤ 8) (hdg : decode cc g.pc = .ok (.invokestatic index, 3)) (hf : cells + mc ≤ R.cells ∧ slots + ms ≤ R.slots) :
    vx_Run p l e R s m args below meth c H locs cells slots mc ms g rest (Qc As.toArray) XC free := by
  have hK : vx_Back l R p e below s args y 3 8 (PreOf R mc ms Pc) (PostOf Qc mc ms free) (vx_Post XC mc ms free) := vx_callBack cw.1 hM hp.1
  obtain ⟨⟨-, -, -, -, -, -, hcode, hini, hy, hlen, hl⟩, hstt⟩ := cw
  obtain ⟨hx, hb, hml, ho, -⟩ := S
  intro T hT X
  rcases vx_callS X hx (bytes := bytes) (maxL := maxL) (ret := ret) ho hl hstt hini hcode hy hK hg (hsize.trans hml.symm) (argsL := As) (rest := rest) (fun sig h => hn.trans (hlen sig h)) hstack hW (by rw [hb]; exact hdg)
    (fun vm₁ hW₁ => ⟨hf.1, hf.2, hp.2 (T.setVm vm₁) hT hW₁⟩) with ⟨v, vm₁, ⟨U', l2, c2, s2⟩, hW₁, X', ⟨g', mk, t, L, e1, e2, hq, h1, hL, h2, h3⟩, st⟩ | ⟨q, vm₁, ⟨U', l2, c2, s2⟩, hW₁, X', ⟨g', mk, t, L, E, ce, e1, e2, hq, hce, hcv, hcl, h1, hL, h2, h3⟩, st⟩
  · dsimp only [Pt.U, Pt.locs, Pt.cells, Pt.slots] at X' e1 e2 h1 h2 h3 st
    subst h1; subst h2; subst h3
    exact Or.inl ⟨v, (T.setVm vm₁).calling g' mk As.toArray, t, U', L, hT, X', hL, e1, e2, hq, st⟩
  · dsimp only [Pt.U, Pt.locs, Pt.cells, Pt.slots] at X' e1 e2 h1 h2 h3 st hcl
    subst h1; subst h2; subst h3
    exact Or.inr ⟨q, (T.setVm vm₁).calling g' mk As.toArray, t, U', L, E, ce, hT, X', hL, e1, e2, hq, hce, hcv, vx_cls hW₁ hcl, st⟩
end Runs
section Rows
variable {p : Program} {l : Launch} {e : Env} {R : Room} {s : State} {m : MethodId} {args : Array Value} {below : List Frame} {meth : Method} {c : Code} {H : Heap} {locs : List Loc} {cells slots : Nat} {Q : State → Prop}
variable {mc ms : Nat} {free : Addr → Prop} {A0 A1 : Nat → Prop} {H0 : Heap} {a : Array Value} {pc : Nat} {ls : Array Slot} {st0 rest : List Value}
theorem vx_keep {st₀ t T' : State} {L : List Loc} (h0 : st₀.heap = H) (e1 : T'.heap = t.heap) (hS : va_S A0 H0 H locs) (hA : ∀ q, q < H.size → A1 q → A0 q) (hf : ∀ q, free q → A0 q) (hL : ∀ q ∈ L, free q.base) (hF : va_F A1 st₀ t) :
    H.size ≤ T'.heap.size ∧ (∀ q : Nat, q < H.size → ¬ A1 q → T'.heap[q]? = H[q]?) ∧ va_S A0 H0 T'.heap (locs ++ L) := by
  obtain ⟨hz, hk⟩ := hF
  rw [h0] at hz hk
  exact ⟨by rw [e1]; exact hz, fun q h1 h2 => by rw [e1]; exact hk q h1 h2,
    ⟨Nat.le_trans hS.1 (by rw [e1]; exact hz), fun q h1 h2 => by rw [e1, hk q (Nat.lt_of_lt_of_le h1 hS.1) (fun z => h2 (hA q (Nat.lt_of_lt_of_le h1 hS.1) z))]; exact hS.2.1 q h1 h2, fun q hq => by
      rcases List.mem_append.mp hq with h | h
      · exact hS.2.2 q h
      · exact hf _ (hL q h)⟩⟩
theorem vx_calli {S SX : Type} {post : Int32 → S → Prop} {px : SX → Prop} {B : S → State → Prop} {BX : String → SX → State → Prop} {AX : Nat → Prop} (hr : vx_Run p l e R s m args below meth c H locs cells slots mc ms (F0 m pc ls st0) rest (va_Qi post B A1 a) (vx_X px BX AX) free) (hS : va_S A0 H0 H locs) (hA : ∀ q, q < H.size → A1 q → A0 q) (hf : ∀ q, free q → A0 q) (hAX : ∀ q, q < H.size → AX q → A0 q)
    (kx : ∀ (E : String) (ce : Cell) (q9 : Addr) (u : SX) (t : State) (H1 : Heap) (locs1 : List Loc), t.heap = H1 → s.vm.Alike t.vm → px u → BX E u t → H.size ≤ H1.size → (∀ q : Nat, q < H.size → ¬ AX q → H1[q]? = H[q]?) → va_S A0 H0 H1 locs1 → H1[q9]? = some ce → ce.vm = .none → s.vm.findClass E = some ce.cls → vx_W p l e R s m args below meth c H1 locs1 (cells + mc) (slots + ms) Q (F0 m pc ls rest) q9)
    (kk : ∀ (r : Int32) (u : S) (t : State) (H1 : Heap) (locs1 : List Loc), t.heap = H1 → s.vm.Alike t.vm → post r u → B u t → H.size ≤ H1.size → (∀ q : Nat, q < H.size → ¬ A1 q → H1[q]? = H[q]?) → va_S A0 H0 H1 locs1 → W p l e R s m args below meth c H1 locs1 (cells + mc) (slots + ms) Q (F0 m (pc + 3) ls (.int r :: rest))) : W p l e R s m args below meth c H locs cells slots Q (F0 m pc ls st0) := by
  intro T hT X
  rcases hr T hT X with ⟨v, st₀, t, T', L, h0, X', hL, e1, e2, ⟨⟨r, u, hv, hp, hb⟩, hF⟩, st⟩ | ⟨q, st₀, t, T', L, E, ce, h0, X', hL, e1, e2, ⟨u, hp, hb, hF⟩, hce, hcv, hcl, st⟩
  · cases hv
    obtain ⟨k1, k2, k3⟩ := vx_keep h0 e1 hS hA hf hL hF
    obtain ⟨t2, a1, b1⟩ := kk r u t T'.heap (locs ++ L) e1.symm (by rw [← e2]; exact X'.warmed.alike) hp hb k1 k2 k3 T' rfl X'
    exact ⟨t2, st t2 a1, b1⟩
  · obtain ⟨k1, k2, k3⟩ := vx_keep h0 e1 hS hAX hf hL hF
    obtain ⟨t2, a1, b1⟩ := kx E ce q u t T'.heap (locs ++ L) e1.symm (by rw [← e2]; exact X'.warmed.alike) hp hb k1 k2 k3 (by rw [e1]; exact hce) hcv hcl T' rfl X'
    exact ⟨t2, st.trans a1, b1⟩
theorem vx_calll {S SX : Type} {post : Int64 → S → Prop} {px : SX → Prop} {B : S → State → Prop} {BX : String → SX → State → Prop} {AX : Nat → Prop} (hr : vx_Run p l e R s m args below meth c H locs cells slots mc ms (F0 m pc ls st0) rest (va_Ql post B A1 a) (vx_X px BX AX) free) (hS : va_S A0 H0 H locs) (hA : ∀ q, q < H.size → A1 q → A0 q) (hf : ∀ q, free q → A0 q) (hAX : ∀ q, q < H.size → AX q → A0 q)
    (kx : ∀ (E : String) (ce : Cell) (q9 : Addr) (u : SX) (t : State) (H1 : Heap) (locs1 : List Loc), t.heap = H1 → s.vm.Alike t.vm → px u → BX E u t → H.size ≤ H1.size → (∀ q : Nat, q < H.size → ¬ AX q → H1[q]? = H[q]?) → va_S A0 H0 H1 locs1 → H1[q9]? = some ce → ce.vm = .none → s.vm.findClass E = some ce.cls → vx_W p l e R s m args below meth c H1 locs1 (cells + mc) (slots + ms) Q (F0 m pc ls rest) q9)
    (kk : ∀ (r : Int64) (u : S) (t : State) (H1 : Heap) (locs1 : List Loc), t.heap = H1 → s.vm.Alike t.vm → post r u → B u t → H.size ≤ H1.size → (∀ q : Nat, q < H.size → ¬ A1 q → H1[q]? = H[q]?) → va_S A0 H0 H1 locs1 → W p l e R s m args below meth c H1 locs1 (cells + mc) (slots + ms) Q (F0 m (pc + 3) ls (.long r :: rest))) : W p l e R s m args below meth c H locs cells slots Q (F0 m pc ls st0) := by
  intro T hT X
  rcases hr T hT X with ⟨v, st₀, t, T', L, h0, X', hL, e1, e2, ⟨⟨r, u, hv, hp, hb⟩, hF⟩, st⟩ | ⟨q, st₀, t, T', L, E, ce, h0, X', hL, e1, e2, ⟨u, hp, hb, hF⟩, hce, hcv, hcl, st⟩
  · cases hv
    obtain ⟨k1, k2, k3⟩ := vx_keep h0 e1 hS hA hf hL hF
    obtain ⟨t2, a1, b1⟩ := kk r u t T'.heap (locs ++ L) e1.symm (by rw [← e2]; exact X'.warmed.alike) hp hb k1 k2 k3 T' rfl X'
    exact ⟨t2, st t2 a1, b1⟩
  · obtain ⟨k1, k2, k3⟩ := vx_keep h0 e1 hS hAX hf hL hF
    obtain ⟨t2, a1, b1⟩ := kx E ce q u t T'.heap (locs ++ L) e1.symm (by rw [← e2]; exact X'.warmed.alike) hp hb k1 k2 k3 (by rw [e1]; exact hce) hcv hcl T' rfl X'
    exact ⟨t2, st.trans a1, b1⟩
theorem vx_callf {S SX : Type} {post : UInt32 → S → Prop} {px : SX → Prop} {B : S → State → Prop} {BX : String → SX → State → Prop} {AX : Nat → Prop} (hr : vx_Run p l e R s m args below meth c H locs cells slots mc ms (F0 m pc ls st0) rest (va_Qf post B A1 a) (vx_X px BX AX) free) (hS : va_S A0 H0 H locs) (hA : ∀ q, q < H.size → A1 q → A0 q) (hf : ∀ q, free q → A0 q) (hAX : ∀ q, q < H.size → AX q → A0 q)
    (kx : ∀ (E : String) (ce : Cell) (q9 : Addr) (u : SX) (t : State) (H1 : Heap) (locs1 : List Loc), t.heap = H1 → s.vm.Alike t.vm → px u → BX E u t → H.size ≤ H1.size → (∀ q : Nat, q < H.size → ¬ AX q → H1[q]? = H[q]?) → va_S A0 H0 H1 locs1 → H1[q9]? = some ce → ce.vm = .none → s.vm.findClass E = some ce.cls → vx_W p l e R s m args below meth c H1 locs1 (cells + mc) (slots + ms) Q (F0 m pc ls rest) q9)
    (kk : ∀ (r : UInt32) (u : S) (t : State) (H1 : Heap) (locs1 : List Loc), t.heap = H1 → s.vm.Alike t.vm → post r u → B u t → H.size ≤ H1.size → (∀ q : Nat, q < H.size → ¬ A1 q → H1[q]? = H[q]?) → va_S A0 H0 H1 locs1 → W p l e R s m args below meth c H1 locs1 (cells + mc) (slots + ms) Q (F0 m (pc + 3) ls (.float r :: rest))) : W p l e R s m args below meth c H locs cells slots Q (F0 m pc ls st0) := by
  intro T hT X
  rcases hr T hT X with ⟨v, st₀, t, T', L, h0, X', hL, e1, e2, ⟨⟨r, u, hv, hp, hb⟩, hF⟩, st⟩ | ⟨q, st₀, t, T', L, E, ce, h0, X', hL, e1, e2, ⟨u, hp, hb, hF⟩, hce, hcv, hcl, st⟩
  · cases hv
    obtain ⟨k1, k2, k3⟩ := vx_keep h0 e1 hS hA hf hL hF
    obtain ⟨t2, a1, b1⟩ := kk r u t T'.heap (locs ++ L) e1.symm (by rw [← e2]; exact X'.warmed.alike) hp hb k1 k2 k3 T' rfl X'
    exact ⟨t2, st t2 a1, b1⟩
  · obtain ⟨k1, k2, k3⟩ := vx_keep h0 e1 hS hAX hf hL hF
    obtain ⟨t2, a1, b1⟩ := kx E ce q u t T'.heap (locs ++ L) e1.symm (by rw [← e2]; exact X'.warmed.alike) hp hb k1 k2 k3 (by rw [e1]; exact hce) hcv hcl T' rfl X'
    exact ⟨t2, st.trans a1, b1⟩
theorem vx_calld {S SX : Type} {post : UInt64 → S → Prop} {px : SX → Prop} {B : S → State → Prop} {BX : String → SX → State → Prop} {AX : Nat → Prop} (hr : vx_Run p l e R s m args below meth c H locs cells slots mc ms (F0 m pc ls st0) rest (va_Qd post B A1 a) (vx_X px BX AX) free) (hS : va_S A0 H0 H locs) (hA : ∀ q, q < H.size → A1 q → A0 q) (hf : ∀ q, free q → A0 q) (hAX : ∀ q, q < H.size → AX q → A0 q)
    (kx : ∀ (E : String) (ce : Cell) (q9 : Addr) (u : SX) (t : State) (H1 : Heap) (locs1 : List Loc), t.heap = H1 → s.vm.Alike t.vm → px u → BX E u t → H.size ≤ H1.size → (∀ q : Nat, q < H.size → ¬ AX q → H1[q]? = H[q]?) → va_S A0 H0 H1 locs1 → H1[q9]? = some ce → ce.vm = .none → s.vm.findClass E = some ce.cls → vx_W p l e R s m args below meth c H1 locs1 (cells + mc) (slots + ms) Q (F0 m pc ls rest) q9)
    (kk : ∀ (r : UInt64) (u : S) (t : State) (H1 : Heap) (locs1 : List Loc), t.heap = H1 → s.vm.Alike t.vm → post r u → B u t → H.size ≤ H1.size → (∀ q : Nat, q < H.size → ¬ A1 q → H1[q]? = H[q]?) → va_S A0 H0 H1 locs1 → W p l e R s m args below meth c H1 locs1 (cells + mc) (slots + ms) Q (F0 m (pc + 3) ls (.double r :: rest))) : W p l e R s m args below meth c H locs cells slots Q (F0 m pc ls st0) := by
  intro T hT X
  rcases hr T hT X with ⟨v, st₀, t, T', L, h0, X', hL, e1, e2, ⟨⟨r, u, hv, hp, hb⟩, hF⟩, st⟩ | ⟨q, st₀, t, T', L, E, ce, h0, X', hL, e1, e2, ⟨u, hp, hb, hF⟩, hce, hcv, hcl, st⟩
  · cases hv
    obtain ⟨k1, k2, k3⟩ := vx_keep h0 e1 hS hA hf hL hF
    obtain ⟨t2, a1, b1⟩ := kk r u t T'.heap (locs ++ L) e1.symm (by rw [← e2]; exact X'.warmed.alike) hp hb k1 k2 k3 T' rfl X'
    exact ⟨t2, st t2 a1, b1⟩
  · obtain ⟨k1, k2, k3⟩ := vx_keep h0 e1 hS hAX hf hL hF
    obtain ⟨t2, a1, b1⟩ := kx E ce q u t T'.heap (locs ++ L) e1.symm (by rw [← e2]; exact X'.warmed.alike) hp hb k1 k2 k3 (by rw [e1]; exact hce) hcv hcl T' rfl X'
    exact ⟨t2, st.trans a1, b1⟩
theorem vx_callv {S SX : Type} {post : S → Prop} {px : SX → Prop} {B : S → State → Prop} {BX : String → SX → State → Prop} {AX : Nat → Prop} (hr : vx_Run p l e R s m args below meth c H locs cells slots mc ms (F0 m pc ls st0) rest (va_Qv post B A1 a) (vx_X px BX AX) free) (hS : va_S A0 H0 H locs) (hA : ∀ q, q < H.size → A1 q → A0 q) (hf : ∀ q, free q → A0 q) (hAX : ∀ q, q < H.size → AX q → A0 q)
    (kx : ∀ (E : String) (ce : Cell) (q9 : Addr) (u : SX) (t : State) (H1 : Heap) (locs1 : List Loc), t.heap = H1 → s.vm.Alike t.vm → px u → BX E u t → H.size ≤ H1.size → (∀ q : Nat, q < H.size → ¬ AX q → H1[q]? = H[q]?) → va_S A0 H0 H1 locs1 → H1[q9]? = some ce → ce.vm = .none → s.vm.findClass E = some ce.cls → vx_W p l e R s m args below meth c H1 locs1 (cells + mc) (slots + ms) Q (F0 m pc ls rest) q9)
    (kk : ∀ (u : S) (t : State) (H1 : Heap) (locs1 : List Loc), t.heap = H1 → s.vm.Alike t.vm → post u → B u t → H.size ≤ H1.size → (∀ q : Nat, q < H.size → ¬ A1 q → H1[q]? = H[q]?) → va_S A0 H0 H1 locs1 → W p l e R s m args below meth c H1 locs1 (cells + mc) (slots + ms) Q (F0 m (pc + 3) ls (rest))) : W p l e R s m args below meth c H locs cells slots Q (F0 m pc ls st0) := by
  intro T hT X
  rcases hr T hT X with ⟨v, st₀, t, T', L, h0, X', hL, e1, e2, ⟨⟨u, hv, hp, hb⟩, hF⟩, st⟩ | ⟨q, st₀, t, T', L, E, ce, h0, X', hL, e1, e2, ⟨u, hp, hb, hF⟩, hce, hcv, hcl, st⟩
  · cases hv
    obtain ⟨k1, k2, k3⟩ := vx_keep h0 e1 hS hA hf hL hF
    obtain ⟨t2, a1, b1⟩ := kk u t T'.heap (locs ++ L) e1.symm (by rw [← e2]; exact X'.warmed.alike) hp hb k1 k2 k3 T' rfl X'
    exact ⟨t2, st t2 a1, b1⟩
  · obtain ⟨k1, k2, k3⟩ := vx_keep h0 e1 hS hAX hf hL hF
    obtain ⟨t2, a1, b1⟩ := kx E ce q u t T'.heap (locs ++ L) e1.symm (by rw [← e2]; exact X'.warmed.alike) hp hb k1 k2 k3 (by rw [e1]; exact hce) hcv hcl T' rfl X'
    exact ⟨t2, st.trans a1, b1⟩
theorem vx_catch {own name : String} {E : String} {ce : Cell} {q : Addr} (hown : s.vm.findClass own = some m.cls) (pre : List ExceptionTableEntry) (x : ExceptionTableEntry) (suf : List ExceptionTableEntry) (hsplit : c.exceptionTable.toList = pre ++ x :: suf)
    (hpass : ∀ z ∈ pre, covers z pc = false ∨ (z.catchType ≠ 0 ∧ ∃ nm : String, (Cond.classLink own z.catchType nm).before args s = true ∧ va_Nc E nm s)) (hx : covers x pc = true) (h0 : x.catchType ≠ 0)
    (hlink : (Cond.classLink own x.catchType name).before args s = true) (hcast : (Cond.castable E name).before args s = true) (hcell : H[q]? = some ce) (hv : ce.vm = .none) (hcl : s.vm.findClass E = some ce.cls)
    (kk : W p l e R s m args below meth c H locs cells slots Q (F0 m x.handlerPc ls [.ref q])) : vx_W p l e R s m args below meth c H locs cells slots Q (F0 m pc ls rest) q := by
  intro T hT X
  have hpl : e.platform.magicAccessors = ({} : Platform).magicAccessors := by rw [X.admits.platform]
  obtain ⟨c3, c4, hc3, hc4, hasg⟩ := Cond.castable_spec hcast
  cases Option.some.inj (hc3.symm.trans hcl)
  obtain ⟨c5, hc5, hcl5⟩ := Cond.classLink_spec hown hlink e.platform hpl
  cases Option.some.inj (hc4.symm.trans hc5)
  obtain ⟨vm', X', st⟩ := X.thenCaughtThrough q (g := F0 m pc ls rest) rfl (Steps.refl _) (by rw [hT]; exact hcell) (by rw [hv]; rfl) (by obtain ⟨k9, h9, -⟩ := Vm.findClass_spec hcl; exact ⟨k9, h9⟩) pre x suf hsplit
    (fun z hz => by
      rcases hpass z hz with h | ⟨hz0, nm, hl1, hn1⟩
      · exact Or.inl h
      · obtain ⟨c6, hc6, hcl6⟩ := Cond.classLink_spec hown hl1 e.platform hpl
        obtain ⟨a8, b8, h1, h2, h3⟩ := hn1
        cases Option.some.inj (h1.symm.trans hcl)
        cases Option.some.inj (h2.symm.trans hc6)
        exact Or.inr ⟨hz0, _, hcl6, h3⟩) hx (Or.inr ⟨h0, c4, hcl5, hasg⟩)
  obtain ⟨t, a1, b1⟩ := kk (T.setVm vm') hT X'
  exact ⟨t, st.trans a1, b1⟩
end Rows
section Ends
variable {p : Program} {l : Launch} {e : Env} {R : Room} {s : State} {m : MethodId} {args : Array Value} {below : List Frame} {meth : Method} {c : Code} {H : Heap} {locs : List Loc} {cells slots : Nat} {Q : State → Prop}
variable {mc ms : Nat} {free : Addr → Prop} {A0 A1 : Nat → Prop} {H0 : Heap} {a : Array Value} {ls : Array Slot} {st0 rest : List Value}
variable {Qc : Array Value → State → Outcome → State → Prop} {XC : String → State → State → Prop}
def vx_MQ (below : List Frame) (Qc : Array Value → State → Outcome → State → Prop) (XC : String → State → State → Prop) (a : Array Value) (s : State) (mc ms : Nat) (free : Addr → Prop) : State → Prop := fun t =>
  ∃ o, t.status = .running ∧ Ended t below o ∧ vx_Q Qc XC mc ms free a s o t
theorem vx_ret {g : JFrame} {mc ms : Nat} (k : W p l e R s m args below meth c H locs cells slots (MQ below Qc args s mc ms free) g) : W p l e R s m args below meth c H locs cells slots (vx_MQ below Qc XC args s mc ms free) g := by
  intro T hT X
  obtain ⟨t, a1, o, b1, b2, b3, b4⟩ := k T hT X
  exact ⟨t, a1, o, b1, b2, Or.inl ⟨b3, b4⟩⟩
theorem vx_widen {g : JFrame} {q : Addr} {k n : Nat} (h1 : cells ≤ k) (h2 : slots ≤ n) (kk : vx_W p l e R s m args below meth c H locs k n Q g q) : vx_W p l e R s m args below meth c H locs cells slots Q g q := fun T hT X => kk T hT (stand_widen X h1 h2)
theorem vx_out {pc : Nat} {E : String} {ce : Cell} {q : Addr} {mc ms : Nat} (hout : ∀ x ∈ c.exceptionTable.toList, covers x pc = false) (hlocks : meth.locks = false) (hcell : H[q]? = some ce) (hv : ce.vm = .none) (hcl : s.vm.findClass E = some ce.cls)
    (hx : ∀ t : State, t.heap = H → s.vm.Alike t.vm → XC E s t) (hf : ∀ z ∈ locs, free z.base) (hc : cells ≤ mc) (hs : slots ≤ ms) :
    vx_W p l e R s m args below meth c H locs cells slots (vx_MQ below Qc XC args s mc ms free) (F0 m pc ls rest) q := by
  intro T hT X
  obtain ⟨st1, hrun, hend, hW, hsm⟩ := X.leaveThrown q (g := F0 m pc ls rest) rfl rfl rfl hout hlocks
  have hcell9 : (T.setFrames (.throwing q :: below)).heap[q]? = some ce := by
    show T.heap[q]? = some ce
    rw [hT]; exact hcell
  exact ⟨_, st1, .threw q, hrun, hend, Or.inr ⟨q, rfl, E, ce, locs, hx _ hT hW.alike, hcell9, hv, hcl, hW, hsm.mono hc hs, hf⟩⟩
theorem vx_frame {U : State} {k n : Nat} (h : s.sameButNew ({ U with vm := s.vm } : State) locs k n) : s.heap.size ≤ U.heap.size ∧ ∀ q : Nat, q < s.heap.size → (∀ z ∈ locs, z.base ≠ q) → U.heap[q]? = s.heap[q]? := by
  obtain ⟨-, h2, -, -, -, h6⟩ := h
  refine ⟨h2, fun q hq hz => ?_⟩
  obtain ⟨c9, e1, e2, e3, e4⟩ := h6 q _ (Array.getElem?_eq_getElem hq)
  have hs : c9.slots = (s.heap[q]).slots := Array.ext_getElem? fun i => e4 i fun hm => hz _ hm rfl
  have h9 : c9 = s.heap[q] := by
    rw [hs] at e2
    exact e2
  have e5 : U.heap[q]? = some c9 := e1
  rw [e5, h9, Array.getElem?_eq_getElem hq]
def vx_no (w : Cond) : Bool := decide (w ≠ .isRef (.static Bundle.tN "UNASSIGNED_STACK" Bundle.steD)) && decide (w ≠ .isRef (.static Bundle.tN "SUPPRESSED_SENTINEL" Bundle.listD)) && decide (w ≠ .laysStatic Bundle.tN "UNASSIGNED_STACK" Bundle.steD) && decide (w ≠ .laysStatic Bundle.tN "SUPPRESSED_SENTINEL" Bundle.listD)
def vx_at0 (own : String) (ic : Nat) (X : String) (names : List String) : List Cond := (Bundle.ownAtoms0 own ic X names).filter vx_no
def vx_atS (own : String) (ic : Nat) (X : String) (names : List String) : List Cond := (Bundle.ownAtoms own ic X names).filter vx_no
def vx_ot (w : Cond) : Bool := w.onTables || goodWord w
theorem vx_ot_at {args a' : Array Value} {s U : State} {w : Cond} (hW : s.WarmedH U.vm) (hvm : s.vm = U.vm) (hg : vx_ot w = true) (h : w.before args s = true) : w.before a' U = true := by
  simp only [vx_ot, Bool.or_eq_true] at hg
  rcases hg with hg | hg
  · exact va_tabs hg hvm h
  · exact word_at hW (good_of_word hg) h
theorem vx_hat {args : Array Value} {s : State} {L B : List Cond} (h1 : ∀ w ∈ L.filter goodWord, w.before args s = true) (h2 : ∀ w ∈ L.filter (fun w => !goodWord w), w ∈ B) (h3 : ∀ w ∈ B, w.before args s = true) : ∀ w ∈ L, w.before args s = true := by
  intro w hw
  by_cases g : goodWord w = true
  · exact h1 w (List.mem_filter.mpr ⟨hw, g⟩)
  · refine h3 w (h2 w (List.mem_filter.mpr ⟨hw, ?_⟩))
    show (!goodWord w) = true
    cases hgw : goodWord w
    · rfl
    · exact absurd hgw g
theorem vx_c {args : Array Value} {s : State} {w : Cond} {B : List Cond} (h : w.before args s = true) (t : ∀ w ∈ B, w.before args s = true) : ∀ w' ∈ w :: B, w'.before args s = true := fun w' h' => (List.mem_cons.mp h').elim (fun e => by rw [e]; exact h) (t w')
theorem vx_n {args : Array Value} {s : State} : ∀ w ∈ ([] : List Cond), w.before args s = true := fun _ h => nomatch h
theorem vx_own {args : Array Value} {s : State} {L : List Cond} (h1 : ∀ w ∈ L.filter vx_no, w.before args s = true)
    (hU : (Cond.isRef (.static Bundle.tN "UNASSIGNED_STACK" Bundle.steD)).before args s = true) (hN : (Cond.isRef (.static Bundle.tN "SUPPRESSED_SENTINEL" Bundle.listD)).before args s = true)
    (lU : (Cond.laysStatic Bundle.tN "UNASSIGNED_STACK" Bundle.steD).before args s = true) (lN : (Cond.laysStatic Bundle.tN "SUPPRESSED_SENTINEL" Bundle.listD).before args s = true) : ∀ w ∈ L, w.before args s = true := by
  intro w hw
  by_cases e1 : w = .isRef (.static Bundle.tN "UNASSIGNED_STACK" Bundle.steD)
  · rw [e1]; exact hU
  · by_cases e2 : w = .isRef (.static Bundle.tN "SUPPRESSED_SENTINEL" Bundle.listD)
    · rw [e2]; exact hN
    · by_cases e3 : w = .laysStatic Bundle.tN "UNASSIGNED_STACK" Bundle.steD
      · rw [e3]; exact lU
      · by_cases e4 : w = .laysStatic Bundle.tN "SUPPRESSED_SENTINEL" Bundle.listD
        · rw [e4]; exact lN
        · exact h1 w (List.mem_filter.mpr ⟨hw, by unfold vx_no; rw [decide_eq_true e1, decide_eq_true e2, decide_eq_true e3, decide_eq_true e4]; rfl⟩)
def vx_L (C n d : String) (A : Nat → Prop) (U : State) (H : Heap) : Prop := ∃ (c : ClassId) (k : Class) (i : Nat) (f : Field) (a : Nat) (cell : Cell), U.vm.findClass C = some c ∧ U.fieldFound? C n d = some (c, k, i, f) ∧ f.isStatic = true ∧ k.statics = some a ∧ H[a]? = some cell ∧ cell.vm.isStatics = true ∧ cell.cls = c ∧ f.slot < cell.slots.size ∧ k.staticTypes[f.slot]? = some f.type ∧ ¬ A a
theorem vx_L.moved {C n d : String} {A : Nat → Prop} {u U : State} {H : Heap} (hvm : u.vm.Alike U.vm) (h : vx_L C n d A u H) : vx_L C n d A U H := by
  obtain ⟨c, k, i, f, a, cell, h1, h2, h3, h4, h5, h6, h7, h8, h9, h10⟩ := h
  obtain ⟨k', hi', he⟩ := State.fieldFound?_setVm hvm h2
  exact ⟨c, k', i, f, a, cell, by rw [hvm.findClass]; exact h1, hi', h3, by rw [he]; exact h4, h5, h6, h7, h8, by rw [he]; exact h9, h10⟩
theorem vx_L.kept {C n d : String} {A : Nat → Prop} {U : State} {H H1 : Heap} (h : vx_L C n d A U H) (hq : ∀ a : Nat, a < H.size → ¬ A a → H1[a]? = H[a]?) : vx_L C n d A U H1 := by
  obtain ⟨c, k, i, f, a, cell, h1, h2, h3, h4, h5, h6, h7, h8, h9, h10⟩ := h
  exact ⟨c, k, i, f, a, cell, h1, h2, h3, h4, by rw [hq a (Array.getElem?_eq_some_iff.mp h5).1 h10]; exact h5, h6, h7, h8, h9, h10⟩
theorem vx_L.narrow {C n d : String} {A B : Nat → Prop} {U : State} {H : Heap} (h : vx_L C n d A U H) (hAB : ∀ q, B q → A q) : vx_L C n d B U H := by
  obtain ⟨c, k, i, f, a, cell, h1, h2, h3, h4, h5, h6, h7, h8, h9, h10⟩ := h
  exact ⟨c, k, i, f, a, cell, h1, h2, h3, h4, h5, h6, h7, h8, h9, fun z => h10 (hAB _ z)⟩
theorem vx_L.word {C n d : String} {A : Nat → Prop} {s : State} {args : Array Value} (h : vx_L C n d A s s.heap) : (Cond.laysStatic C n d).before args s = true := by
  obtain ⟨c, k, i, f, a, cell, h1, h2, h3, h4, h5, h6, h7, h8, h9, -⟩ := h
  show (Cond.laysStatic C n d).holds args s none s [] = true
  exact Cond.laysStatic_of h1 h2 h3 h4 h5 h6 h7 h8 h9
def vx_Zq (C n d : String) (A : Nat → Prop) (U : State) (H : Heap) : Prop := va_Zq C n d A U H ∧ vx_L C n d A U H
theorem vx_Zq.moved {C n d : String} {A : Nat → Prop} {u U : State} {H : Heap} (hvm : u.vm.Alike U.vm) (h : vx_Zq C n d A u H) : vx_Zq C n d A U H := ⟨va_Zq.moved hvm h.1, vx_L.moved hvm h.2⟩
theorem vx_Zq.kept {C n d : String} {A : Nat → Prop} {U : State} {H H1 : Heap} (h : vx_Zq C n d A U H) (hq : ∀ a : Nat, a < H.size → ¬ A a → H1[a]? = H[a]?) : vx_Zq C n d A U H1 := ⟨va_Zq.kept h.1 hq, vx_L.kept h.2 hq⟩
theorem vx_Zq.narrow {C n d : String} {A B : Nat → Prop} {U : State} {H : Heap} (h : vx_Zq C n d A U H) (hAB : ∀ q, B q → A q) : vx_Zq C n d B U H := ⟨va_Zq.narrow h.1 hAB, vx_L.narrow h.2 hAB⟩
theorem vx_Zqof {args : Array Value} {s : State} {C n d : String} {A : Nat → Prop} (hl : (Cond.laysStatic C n d).before args s = true) (hini : (Cond.initialized C).before args s = true) (h : (Cond.isRef (.static C n d)).before args s = true) (hA : ∀ a : Nat, a < s.heap.size → ¬ A a) : vx_Zq C n d A s s.heap := by
  refine ⟨va_Zqof hl hini h hA, ?_⟩
  obtain ⟨c, k, i, f, a, cell, h1, h2, h3, h4, h5, h6, h7, h8, h9⟩ := Cond.laysStatic_spec hl
  exact ⟨c, k, i, f, a, cell, h1, h2, h3, h4, h5, h6, h7, h8, h9, hA a (Array.getElem?_eq_some_iff.mp h5).1⟩
theorem vx_isRef {C n d : String} {v : Value} {A : Nat → Prop} {s : State} {args : Array Value} (h : va_Z C n d v A s s.heap) (hv : v.isRef = true) : (Cond.isRef (.static C n d)).before args s = true := by
  obtain ⟨cf, kf, fi, f, a, cell, h1, h2, h3, h4, h5, h6, h7, -⟩ := h
  have he : (Term.static C n d).eval args s none [] s = some v := by
    simp [Term.eval, State.fieldNamed?, h1, h2, h4, h5, h6, h7]
  simp only [Cond.before, Cond.holds, Cond.value, he]
  cases v <;> simp_all [Value.isRef]
theorem vx_isRefq {C n d : String} {A : Nat → Prop} {s : State} {args : Array Value} (h : va_Zq C n d A s s.heap) : (Cond.isRef (.static C n d)).before args s = true := by
  rcases h with h | ⟨t, h⟩
  · exact vx_isRef h rfl
  · exact vx_isRef h rfl
theorem vx_rebase {T : State} (X : Stand p l e R s m args below meth c T locs cells slots) {R' : Room} (hf : R'.frames ≤ R.frames) (hl : R'.locals ≤ R.locals) (hc : cells + R'.cells ≤ R.cells) (hs : slots + R'.slots ≤ R.slots) :
    Stand p l e R' ((T.setVm s.vm).setFrames (.invoking m args :: below)) m args below meth c T [] 0 0 := by
  have htop : (T.setVm s.vm).topJava?.isSome := X.here.top
  have hF : ((T.setVm s.vm).setFrames (.invoking m args :: below)).frames = .invoking m args :: below := State.frames_setFrames _ (State.cur_lt_of_top htop)
  obtain ⟨g₀, hg0⟩ := Option.isSome_iff_exists.mp htop
  obtain ⟨r, hr⟩ := State.topJava?_eq_some.mp hg0
  have hl9 : e.platform.stackLimits (T.setVm s.vm).me = e.platform.stackLimits s.me := X.limits
  have hb9 : (T.setVm s.vm).me.stackBytes = s.me.stackBytes := X.bytes
  refine ⟨X.admits, X.cas, X.clock, hF, ?_, X.hears, X.method, X.code, X.here, X.tail, X.warmed, ?_, ?_, ?_⟩
  · have h := X.room
    have hU : ((T.setVm s.vm).setFrames (.invoking m args :: below)).localsInUse = s.localsInUse := by
      rw [State.localsInUse_invoking hF (meth := meth) (c := c) X.method X.code, State.localsInUse_invoking X.frames X.method X.code]
    simp only [State.hasRoom, Bool.and_eq_true, decide_eq_true_eq] at h ⊢
    obtain ⟨⟨⟨⟨h1, h2, h3, h4, h5, h6⟩, h7⟩, h8⟩, h9⟩ := h
    rw [X.frames, List.length_cons] at h2 h3
    have q1 := X.heapSize
    have q2 := X.used
    simp only [hF, hU, List.length_cons, State.stackLimits_setFrames, State.stackBytes_setFrames, hl9, hb9]
    refine ⟨⟨⟨⟨by omega, by omega, by omega, by omega, by omega, h6⟩, ?_⟩, ?_⟩, X.book⟩
    · show T.heap.size + R'.cells ≤ e.platform.maxCells
      omega
    · show T.slotsUsed + R'.slots ≤ e.platform.maxSlots
      omega
  · rw [State.stackLimits_setFrames]; rfl
  · rw [State.stackBytes_setFrames]; rfl
  · refine ⟨?_, Nat.le_refl _, Nat.le_refl _, ?_, ?_, fun a c9 h9 => ⟨c9, h9, rfl, rfl, fun _ _ => rfl⟩⟩
    · obtain ⟨t, ht, -⟩ := State.frames_cons hr
      show T.setVm s.vm = { ((T.setVm s.vm).setFrames (.invoking m args :: below)).setFrames (T.setVm s.vm).frames with heap := T.heap, slotsUsed := T.slotsUsed }
      rw [State.setFrames_setFrames, State.setFrames_self ht]
      rfl
    · show T.slotsUsed = T.slotsUsed + ((T.heap.toList.drop T.heap.size).map (·.slots.size)).sum
      rw [List.drop_eq_nil_of_le (Nat.le_of_eq Array.length_toList)]
      rfl
    · show ((T.heap.toList.drop T.heap.size).map (·.slots.size)).sum ≤ 0
      rw [List.drop_eq_nil_of_le (Nat.le_of_eq Array.length_toList)]
      exact Nat.le_refl _
theorem vx_throw0 {cc : ByteArray} {pc : Nat} (hexec : p.tables.exec = Jvm.exec) (hb : c.code = cc) (hl : l.stackTraces = false) {own cls : String} {names : List String} {ik ic mc ms : Nat} {A : Nat → Prop}
    (hown : s.vm.findClass own = some m.cls) (hcls : Bundle.fit cls = true) (hnames : ∀ n ∈ names, Bundle.fit n = true)
    (hk : (Cond.classLink own ik cls).before args s = true) (hini : (Cond.initialized cls).before args s = true) (hat : ∀ w ∈ vx_at0 own ic cls names, w.before args s = true)
    (hgood : ∀ w ∈ Cond.classLink own ik cls :: Cond.initialized cls :: vx_at0 own ic cls names, vx_ot w = true)
    (hU : vx_Zq Bundle.tN "UNASSIGNED_STACK" Bundle.steD A s s.heap) (hN : vx_Zq Bundle.tN "SUPPRESSED_SENTINEL" Bundle.listD A s s.heap) (hS : va_S A s.heap H locs) (hsize : ls.size = c.maxLocals)
    (d0 : decode cc pc = .ok (.new ik, 3)) (d3 : decode cc (pc + 3) = .ok (.dup, 1)) (d4 : decode cc (pc + 4) = .ok (.invokespecial ic, 3)) (d7 : decode cc (pc + 7) = .ok (.athrow, 1))
    (hout : ∀ x ∈ c.exceptionTable.toList, covers x (pc + 7) = false)
    (hRframes : names.length + 3 < R.frames) (hRlocals : (rest.map fun v => v.category).sum + (13 * (names.length + 1) + 42) ≤ R.locals) (hRcells : cells + 1 ≤ R.cells) (hRslots : slots + 6 ≤ R.slots) (hlocks : meth.locks = false)
    (hx : ∀ t : State, s.vm.Alike t.vm → H.size ≤ t.heap.size → (∀ q : Nat, q < H.size → t.heap[q]? = H[q]?) → XC cls s t)
    (hf : ∀ z ∈ locs, free z.base) (hc : cells + 1 ≤ mc) (hs : slots + 6 ≤ ms) :
    W p l e R s m args below meth c H locs cells slots (vx_MQ below Qc XC args s mc ms free) (F0 m pc ls rest) := by
  intro T hT X
  have htr : e.platform.stackTraces = false := (show e.platform.stackTraces = l.stackTraces by rw [X.admits.platform]).trans hl
  have Y := vx_rebase X (R' := { frames := R.frames, locals := R.locals, cells := 1, slots := 6 }) (Nat.le_refl _) (Nat.le_refl _) hRcells hRslots
  obtain ⟨s', hA⟩ : ∃ z, z = (T.setVm s.vm).setFrames (.invoking m args :: below) := ⟨_, rfl⟩
  rw [← hA] at Y
  have hvm : s'.vm = s.vm := by rw [hA]; rfl
  have hhp : s'.heap = H := by rw [hA]; exact hT
  have hW0 : s.WarmedH s'.vm := by rw [hvm]; exact State.WarmedH.refl s
  have hat' : ∀ w ∈ vx_at0 own ic cls names, w.before args s' = true := fun w hw => vx_ot_at hW0 hvm.symm (hgood w (List.mem_cons_of_mem _ (List.mem_cons_of_mem _ hw))) (hat w hw)
  have hk' : (Cond.classLink own ik cls).before args s' = true := vx_ot_at hW0 hvm.symm (hgood _ List.mem_cons_self) hk
  have hini' : (Cond.initialized cls).before args s' = true := vx_ot_at hW0 hvm.symm (hgood _ (List.mem_cons_of_mem _ List.mem_cons_self)) hini
  have hU' : vx_Zq Bundle.tN "UNASSIGNED_STACK" Bundle.steD A s' s'.heap := by rw [hhp]; exact vx_Zq.moved hW0.alike (hU.kept hS.2.1)
  have hN' : vx_Zq Bundle.tN "SUPPRESSED_SENTINEL" Bundle.listD A s' s'.heap := by rw [hhp]; exact vx_Zq.moved hW0.alike (hN.kept hS.2.1)
  have h : ∀ w ∈ Bundle.ownAtoms0 own ic cls names, w.before args s' = true := vx_own hat' (vx_isRefq hU'.1) (vx_isRefq hN'.1) hU'.2.word hN'.2.word
  have hown' : s'.vm.findClass own = some m.cls := by rw [hvm]; exact hown
  have hins : (Cond.instantiable cls 6).before args s' = true := h _ (by simp [Bundle.ownAtoms0])
  obtain ⟨vm₁, cX, kX, hfX, hkX, -, -, X₁, st1⟩ := Y.newCold hexec (own := own) (C := cls) (index := ik) (n := 6) hown' hk' hins hini'
    (g := F0 m pc ls rest) rfl (by rw [hb]; exact d0) (Nat.le_refl _) (Nat.le_refl _)
  generalize hT1 : (T.setVm vm₁).pushCell { cls := cX, slots := kX.instanceTypes.map defaultValue, vm := .none } = T1 at X₁ st1
  have hcat : (Value.ref T.heap.size).category = 1 := rfl
  have hcellA : T1.heap[T.heap.size]? = some (freshCell cX kX) := by rw [← hT1]; exact State.heap_pushCell_size _ _
  have d3' : decode c.code (pc + 3) = .ok (.dup, 1) := by rw [hb]; exact d3
  obtain ⟨U, hsteps, hrun, hend, hW, hsame, ce, hce, hO⟩ := X₁.ctorThrow0 hexec htr (own := own) (cls := cls) (names := names) (ic := ic) hown' hcls hnames h (fun x hx => nomatch hx) hfX hkX hcellA (by rw [hhp, hT]; exact Nat.le_refl _)
    (g := { method := m, pc := pc + 4, locals := ls, stack := .ref T.heap.size :: .ref T.heap.size :: rest, locked := none }) rfl hsize rfl rfl (rest := rest) rfl
    (by rw [hb]; exact d4) (by rw [hb]; exact d7) hout hRframes (by simp only [List.map_cons, List.sum_cons, hcat]; omega) hlocks
  obtain ⟨f1, f2⟩ := vx_frame hsame
  rw [hhp] at f1 f2
  have hWs : s.WarmedH U.vm := State.WarmedH.trans hW0 hW
  have hcl : s.vm.findClass cls = some ce.cls := by
    have h9 := hO.cls
    rw [hvm] at h9
    exact h9
  have hall : s.sameButNew ({ U with vm := s.vm } : State) locs mc ms := by
    subst hA
    obtain ⟨e1, e2⟩ := hsame
    rw [State.setFrames_setFrames] at e1
    have h2 : (T.setVm s.vm).sameButNew ({ U with vm := s.vm } : State) [] (0 + 1) (0 + 6) := ⟨e1, e2⟩
    have h3 := X.same.trans h2
    rw [List.append_nil] at h3
    exact h3.mono hc hs
  refine ⟨U, ?_, .threw T.heap.size, hrun, hend, Or.inr ⟨T.heap.size, rfl, cls, ce, locs, hx U hWs.alike f1 (fun q hq => f2 q hq (fun z hz => nomatch hz)), hce, hO.vm, hcl, hWs, hall, hf⟩⟩
  refine st1 _ ?_
  show Steps p.tables e below (T1.setTop { method := m, pc := pc + 3, locals := ls, stack := .ref T.heap.size :: rest, locked := none }) _
  jvm_step X₁.here [X₁.here.top, hexec, d3', Value.category]
  exact hsteps
theorem vx_throwS {cc : ByteArray} {pc : Nat} (hexec : p.tables.exec = Jvm.exec) (hb : c.code = cc) (hl : l.stackTraces = false) {own cls text : String} {names : List String} {ik is ic mc ms sa : Nat} {A : Nat → Prop}
    (hown : s.vm.findClass own = some m.cls) (hcls : Bundle.fit cls = true) (hnames : ∀ n ∈ names, Bundle.fit n = true)
    (hk : (Cond.classLink own ik cls).before args s = true) (hini : (Cond.initialized cls).before args s = true) (hstr : vk_R own is text sa s) (hat : ∀ w ∈ vx_atS own ic cls names, w.before args s = true)
    (hgood : ∀ w ∈ Cond.classLink own ik cls :: Cond.initialized cls :: vx_atS own ic cls names, vx_ot w = true)
    (hU : vx_Zq Bundle.tN "UNASSIGNED_STACK" Bundle.steD A s s.heap) (hN : vx_Zq Bundle.tN "SUPPRESSED_SENTINEL" Bundle.listD A s s.heap) (hS : va_S A s.heap H locs) (hsize : ls.size = c.maxLocals)
    (d0 : decode cc pc = .ok (.new ik, 3)) (d3 : decode cc (pc + 3) = .ok (.dup, 1)) (d4 : decode cc (pc + 4) = .ok (.ldc is, 2)) (d6 : decode cc (pc + 6) = .ok (.invokespecial ic, 3)) (d9 : decode cc (pc + 9) = .ok (.athrow, 1))
    (hout : ∀ x ∈ c.exceptionTable.toList, covers x (pc + 9) = false)
    (hRframes : names.length + 3 < R.frames) (hRlocals : (rest.map fun v => v.category).sum + (13 * (names.length + 1) + 43) ≤ R.locals) (hRcells : cells + 1 ≤ R.cells) (hRslots : slots + 6 ≤ R.slots) (hlocks : meth.locks = false)
    (hx : ∀ t : State, s.vm.Alike t.vm → H.size ≤ t.heap.size → (∀ q : Nat, q < H.size → t.heap[q]? = H[q]?) → XC cls s t)
    (hf : ∀ z ∈ locs, free z.base) (hc : cells + 1 ≤ mc) (hs : slots + 6 ≤ ms) :
    W p l e R s m args below meth c H locs cells slots (vx_MQ below Qc XC args s mc ms free) (F0 m pc ls rest) := by
  intro T hT X
  have htr : e.platform.stackTraces = false := (show e.platform.stackTraces = l.stackTraces by rw [X.admits.platform]).trans hl
  have Y := vx_rebase X (R' := { frames := R.frames, locals := R.locals, cells := 1, slots := 6 }) (Nat.le_refl _) (Nat.le_refl _) hRcells hRslots
  obtain ⟨s', hA⟩ : ∃ z, z = (T.setVm s.vm).setFrames (.invoking m args :: below) := ⟨_, rfl⟩
  rw [← hA] at Y
  have hvm : s'.vm = s.vm := by rw [hA]; rfl
  have hhp : s'.heap = H := by rw [hA]; exact hT
  have hW0 : s.WarmedH s'.vm := by rw [hvm]; exact State.WarmedH.refl s
  have hat' : ∀ w ∈ vx_atS own ic cls names, w.before args s' = true := fun w hw => vx_ot_at hW0 hvm.symm (hgood w (List.mem_cons_of_mem _ (List.mem_cons_of_mem _ hw))) (hat w hw)
  have hk' : (Cond.classLink own ik cls).before args s' = true := vx_ot_at hW0 hvm.symm (hgood _ List.mem_cons_self) hk
  have hini' : (Cond.initialized cls).before args s' = true := vx_ot_at hW0 hvm.symm (hgood _ (List.mem_cons_of_mem _ List.mem_cons_self)) hini
  have hU' : vx_Zq Bundle.tN "UNASSIGNED_STACK" Bundle.steD A s' s'.heap := by rw [hhp]; exact vx_Zq.moved hW0.alike (hU.kept hS.2.1)
  have hN' : vx_Zq Bundle.tN "SUPPRESSED_SENTINEL" Bundle.listD A s' s'.heap := by rw [hhp]; exact vx_Zq.moved hW0.alike (hN.kept hS.2.1)
  have h : ∀ w ∈ Bundle.ownAtoms own ic cls names, w.before args s' = true := vx_own hat' (vx_isRefq hU'.1) (vx_isRefq hN'.1) hU'.2.word hN'.2.word
  have hown' : s'.vm.findClass own = some m.cls := by rw [hvm]; exact hown
  have hins : (Cond.instantiable cls 6).before args s' = true := h _ (by simp [Bundle.ownAtoms])
  obtain ⟨vm₁, cX, kX, hfX, hkX, -, -, X₁, st1⟩ := Y.newCold hexec (own := own) (C := cls) (index := ik) (n := 6) hown' hk' hins hini'
    (g := F0 m pc ls rest) rfl (by rw [hb]; exact d0) (Nat.le_refl _) (Nat.le_refl _)
  generalize hT1 : (T.setVm vm₁).pushCell { cls := cX, slots := kX.instanceTypes.map defaultValue, vm := .none } = T1 at X₁ st1
  have hcat : (Value.ref T.heap.size).category = 1 := rfl
  have hcellA : T1.heap[T.heap.size]? = some (freshCell cX kX) := by rw [← hT1]; exact State.heap_pushCell_size _ _
  have d3' : decode c.code (pc + 3) = .ok (.dup, 1) := by rw [hb]; exact d3
  have d4' : decode c.code (pc + 4) = .ok (.ldc is, 2) := by rw [hb]; exact d4
  have hstr' : vk_R own is text sa s' := vk_R.warm hW0 hstr
  obtain ⟨U, hsteps, hrun, hend, hW, hsame, ce, hce, hO⟩ := X₁.ctorThrowS hexec htr (own := own) (cls := cls) (names := names) (ic := ic) hown' hcls hnames h (fun x hx => nomatch hx) hfX hkX hcellA (by rw [hhp, hT]; exact Nat.le_refl _) (msg := .ref sa) rfl
    (g := { method := m, pc := pc + 6, locals := ls, stack := .ref sa :: .ref T.heap.size :: .ref T.heap.size :: rest, locked := none }) rfl hsize rfl rfl (rest := rest) rfl
    (by rw [hb]; exact d6) (by rw [hb]; exact d9) hout hRframes (by simp only [List.map_cons, List.sum_cons, hcat]; omega) hlocks
  obtain ⟨f1, f2⟩ := vx_frame hsame
  rw [hhp] at f1 f2
  have hWs : s.WarmedH U.vm := State.WarmedH.trans hW0 hW
  have hcl : s.vm.findClass cls = some ce.cls := by
    have h9 := hO.cls
    rw [hvm] at h9
    exact h9
  have hall : s.sameButNew ({ U with vm := s.vm } : State) locs mc ms := by
    subst hA
    obtain ⟨e1, e2⟩ := hsame
    rw [State.setFrames_setFrames] at e1
    have h2 : (T.setVm s.vm).sameButNew ({ U with vm := s.vm } : State) [] (0 + 1) (0 + 6) := ⟨e1, e2⟩
    have h3 := X.same.trans h2
    rw [List.append_nil] at h3
    exact h3.mono hc hs
  refine ⟨U, ?_, .threw T.heap.size, hrun, hend, Or.inr ⟨T.heap.size, rfl, cls, ce, locs, hx U hWs.alike f1 (fun q hq => f2 q hq (fun z hz => nomatch hz)), hce, hO.vm, hcl, hWs, hall, hf⟩⟩
  refine st1 _ ?_
  show Steps p.tables e below (T1.setTop { method := m, pc := pc + 3, locals := ls, stack := .ref T.heap.size :: rest, locked := none }) _
  jvm_step X₁.here [X₁.here.top, hexec, d3', Value.category]
  exact X₁.ldcString hexec (own := own) (text := text) (index := is) (a := sa) hown' hstr'.1 hstr'.2
    (g := { method := m, pc := pc + 4, locals := ls, stack := .ref T.heap.size :: .ref T.heap.size :: rest, locked := none }) rfl d4' _ hsteps
theorem vx_throwSW {cc : ByteArray} {pc : Nat} (hexec : p.tables.exec = Jvm.exec) (hb : c.code = cc) (hl : l.stackTraces = false) {own cls text : String} {names : List String} {ik is ic mc ms sa : Nat} {A : Nat → Prop}
    (hown : s.vm.findClass own = some m.cls) (hcls : Bundle.fit cls = true) (hnames : ∀ n ∈ names, Bundle.fit n = true)
    (hk : (Cond.classLink own ik cls).before args s = true) (hini : (Cond.initialized cls).before args s = true) (hstr : vk_R own is text sa s) (hat : ∀ w ∈ vx_atS own ic cls names, w.before args s = true)
    (hgood : ∀ w ∈ Cond.classLink own ik cls :: Cond.initialized cls :: vx_atS own ic cls names, vx_ot w = true)
    (hU : vx_Zq Bundle.tN "UNASSIGNED_STACK" Bundle.steD A s s.heap) (hN : vx_Zq Bundle.tN "SUPPRESSED_SENTINEL" Bundle.listD A s s.heap) (hS : va_S A s.heap H locs) (hsize : ls.size = c.maxLocals)
    (d0 : decode cc pc = .ok (.new ik, 3)) (d3 : decode cc (pc + 3) = .ok (.dup, 1)) (d4 : decode cc (pc + 4) = .ok (.ldc_w is, 3)) (d7 : decode cc (pc + 7) = .ok (.invokespecial ic, 3)) (d10 : decode cc (pc + 10) = .ok (.athrow, 1))
    (hout : ∀ x ∈ c.exceptionTable.toList, covers x (pc + 10) = false)
    (hRframes : names.length + 3 < R.frames) (hRlocals : (rest.map fun v => v.category).sum + (13 * (names.length + 1) + 43) ≤ R.locals) (hRcells : cells + 1 ≤ R.cells) (hRslots : slots + 6 ≤ R.slots) (hlocks : meth.locks = false)
    (hx : ∀ t : State, s.vm.Alike t.vm → H.size ≤ t.heap.size → (∀ q : Nat, q < H.size → t.heap[q]? = H[q]?) → XC cls s t)
    (hf : ∀ z ∈ locs, free z.base) (hc : cells + 1 ≤ mc) (hs : slots + 6 ≤ ms) :
    W p l e R s m args below meth c H locs cells slots (vx_MQ below Qc XC args s mc ms free) (F0 m pc ls rest) := by
  intro T hT X
  have htr : e.platform.stackTraces = false := (show e.platform.stackTraces = l.stackTraces by rw [X.admits.platform]).trans hl
  have Y := vx_rebase X (R' := { frames := R.frames, locals := R.locals, cells := 1, slots := 6 }) (Nat.le_refl _) (Nat.le_refl _) hRcells hRslots
  obtain ⟨s', hA⟩ : ∃ z, z = (T.setVm s.vm).setFrames (.invoking m args :: below) := ⟨_, rfl⟩
  rw [← hA] at Y
  have hvm : s'.vm = s.vm := by rw [hA]; rfl
  have hhp : s'.heap = H := by rw [hA]; exact hT
  have hW0 : s.WarmedH s'.vm := by rw [hvm]; exact State.WarmedH.refl s
  have hat' : ∀ w ∈ vx_atS own ic cls names, w.before args s' = true := fun w hw => vx_ot_at hW0 hvm.symm (hgood w (List.mem_cons_of_mem _ (List.mem_cons_of_mem _ hw))) (hat w hw)
  have hk' : (Cond.classLink own ik cls).before args s' = true := vx_ot_at hW0 hvm.symm (hgood _ List.mem_cons_self) hk
  have hini' : (Cond.initialized cls).before args s' = true := vx_ot_at hW0 hvm.symm (hgood _ (List.mem_cons_of_mem _ List.mem_cons_self)) hini
  have hU' : vx_Zq Bundle.tN "UNASSIGNED_STACK" Bundle.steD A s' s'.heap := by rw [hhp]; exact vx_Zq.moved hW0.alike (hU.kept hS.2.1)
  have hN' : vx_Zq Bundle.tN "SUPPRESSED_SENTINEL" Bundle.listD A s' s'.heap := by rw [hhp]; exact vx_Zq.moved hW0.alike (hN.kept hS.2.1)
  have h : ∀ w ∈ Bundle.ownAtoms own ic cls names, w.before args s' = true := vx_own hat' (vx_isRefq hU'.1) (vx_isRefq hN'.1) hU'.2.word hN'.2.word
  have hown' : s'.vm.findClass own = some m.cls := by rw [hvm]; exact hown
  have hins : (Cond.instantiable cls 6).before args s' = true := h _ (by simp [Bundle.ownAtoms])
  obtain ⟨vm₁, cX, kX, hfX, hkX, -, -, X₁, st1⟩ := Y.newCold hexec (own := own) (C := cls) (index := ik) (n := 6) hown' hk' hins hini'
    (g := F0 m pc ls rest) rfl (by rw [hb]; exact d0) (Nat.le_refl _) (Nat.le_refl _)
  generalize hT1 : (T.setVm vm₁).pushCell { cls := cX, slots := kX.instanceTypes.map defaultValue, vm := .none } = T1 at X₁ st1
  have hcat : (Value.ref T.heap.size).category = 1 := rfl
  have hcellA : T1.heap[T.heap.size]? = some (freshCell cX kX) := by rw [← hT1]; exact State.heap_pushCell_size _ _
  have d3' : decode c.code (pc + 3) = .ok (.dup, 1) := by rw [hb]; exact d3
  have d4' : decode c.code (pc + 4) = .ok (.ldc_w is, 3) := by rw [hb]; exact d4
  have hstr' : vk_R own is text sa s' := vk_R.warm hW0 hstr
  obtain ⟨U, hsteps, hrun, hend, hW, hsame, ce, hce, hO⟩ := X₁.ctorThrowS hexec htr (own := own) (cls := cls) (names := names) (ic := ic) hown' hcls hnames h (fun x hx => nomatch hx) hfX hkX hcellA (by rw [hhp, hT]; exact Nat.le_refl _) (msg := .ref sa) rfl
    (g := { method := m, pc := pc + 7, locals := ls, stack := .ref sa :: .ref T.heap.size :: .ref T.heap.size :: rest, locked := none }) rfl hsize rfl rfl (rest := rest) rfl
    (by rw [hb]; exact d7) (by rw [hb]; exact d10) hout hRframes (by simp only [List.map_cons, List.sum_cons, hcat]; omega) hlocks
  obtain ⟨f1, f2⟩ := vx_frame hsame
  rw [hhp] at f1 f2
  have hWs : s.WarmedH U.vm := State.WarmedH.trans hW0 hW
  have hcl : s.vm.findClass cls = some ce.cls := by
    have h9 := hO.cls
    rw [hvm] at h9
    exact h9
  have hall : s.sameButNew ({ U with vm := s.vm } : State) locs mc ms := by
    subst hA
    obtain ⟨e1, e2⟩ := hsame
    rw [State.setFrames_setFrames] at e1
    have h2 : (T.setVm s.vm).sameButNew ({ U with vm := s.vm } : State) [] (0 + 1) (0 + 6) := ⟨e1, e2⟩
    have h3 := X.same.trans h2
    rw [List.append_nil] at h3
    exact h3.mono hc hs
  refine ⟨U, ?_, .threw T.heap.size, hrun, hend, Or.inr ⟨T.heap.size, rfl, cls, ce, locs, hx U hWs.alike f1 (fun q hq => f2 q hq (fun z hz => nomatch hz)), hce, hO.vm, hcl, hWs, hall, hf⟩⟩
  refine st1 _ ?_
  show Steps p.tables e below (T1.setTop { method := m, pc := pc + 3, locals := ls, stack := .ref T.heap.size :: rest, locked := none }) _
  jvm_step X₁.here [X₁.here.top, hexec, d3', Value.category]
  exact X₁.ldcStringW hexec (own := own) (text := text) (index := is) (a := sa) hown' hstr'.1 hstr'.2
    (g := { method := m, pc := pc + 4, locals := ls, stack := .ref T.heap.size :: .ref T.heap.size :: rest, locked := none }) rfl d4' _ hsteps
end Ends
section Bodies
variable {l : Launch}
theorem vx_ofW {y : MethodName} {ws ws' : List Cond} {rm : Room} {Pc : Array Value → State → Prop} {Qc : Array Value → State → Outcome → State → Prop} {XC : String → State → State → Prop} {mc ms : Nat} {free : Addr → Prop} {cc : ByteArray} {maxL : Nat} {ret : Option FieldType}
    (hy : plainName y.cls = true) (hw : ws = Cond.code y cc maxL ret :: ws')
    (body : ∀ p e s m args below meth c s₁, BodyLoose p l y (headSpec ws rm) cc maxL ret e s m args below meth c s₁ → c.maxLocals = maxL → (∀ x ∈ c.exceptionTable.toList, False) → Pc args s →
      W p l e (headSpec ws rm).room s m args below meth c s.heap [] 0 0 (vx_MQ below Qc XC args s mc ms free) (entryFrame m args maxL)) : vx_Met l y ws rm Pc Qc XC mc ms free := by
  refine MetFree.of_bodyS (code := cc) (maxLocals := maxL) (ret := ret) hy ?_ ?_
  · intro args s m h hn
    obtain ⟨meth, c, h1, h2, h3, h4, h5, h6, -, -⟩ := Cond.code_spec hn (atoms_spec (ws := ws) h _ (by rw [hw]; exact List.mem_cons_self))
    exact ⟨meth, c, h1, h2, h3, h4, h5, h6⟩
  · intro p e s m args below meth c s₁ B hml hP _
    have hh0 : s₁.heap = s.heap := by rw [B.state]; rfl
    have ht : ∀ x ∈ c.exceptionTable.toList, False := by
      obtain ⟨meth9, c9, h1, h2, -, -, -, -, h7, -⟩ := Cond.code_spec B.named (atoms_spec (ws := ws) B.pre _ (by rw [hw]; exact List.mem_cons_self))
      cases Option.some.inj (h1.symm.trans B.method)
      cases Option.some.inj (h2.symm.trans (Stand.of_body B).code)
      intro x hx
      rw [Array.isEmpty_iff.mp h7] at hx
      cases hx
    obtain ⟨t, a1, o, b1, b2, b3⟩ := body p e s m args below meth c s₁ B hml ht hP s₁ hh0 (Stand.of_body B)
    exact ⟨t, o, a1, b1, b2, b3⟩
theorem vx_table {p : Program} {x y : MethodName} {S : Spec} {cc bytes : ByteArray} {maxL maxL' : Nat} {ret ret' : Option FieldType} {e : Env} {s s₁ : State} {m : MethodId} {args : Array Value} {below : List Frame} {meth : Method} {c : Code} {hh : List (Nat × Nat × Nat × Nat)}
    (B : BodyLoose p l y S cc maxL ret e s m args below meth c s₁) (h : (Cond.codeWith y bytes maxL' ret' hh).before args s = true) : c.exceptionTable.toList = tableOf hh := by
  obtain ⟨m9, meth9, c9, hn9, h1, h2, -, -, h6, -⟩ := Cond.codeWith_spec h
  cases Option.some.inj (hn9.symm.trans B.named)
  cases Option.some.inj (h1.symm.trans B.method)
  cases Option.some.inj (h2.symm.trans (Stand.of_body B).code)
  rw [← h6, table_eq]
end Bodies
end VXA
section VXS
variable {p : Program} {l : Launch} {e : Env} {R : Room} {s : State} {m : MethodId} {args : Array Value} {below : List Frame} {meth : Method} {c : Code} {T : State} {H : Heap} {locs : List Loc} {cells slots : Nat}
abbrev vx_CSW (R : Room) (s : State) (args : Array Value) (own : String) (index : Nat) (y : MethodName) (bytes : ByteArray) (maxL : Nat) (ret : Option FieldType) (hh : List (Nat × Nat × Nat × Nat)) (ws : List Cond) (rm : Room) (mc ms n : Nat) : Prop :=
  (rm.cells = mc ∧ rm.slots = ms ∧ rm.frames + 1 ≤ R.frames ∧ 8 + (maxL + 11) + rm.locals ≤ R.locals ∧ (∀ w ∈ ws, ∀ (a' : Array Value) (U : State), s.WarmedH U.vm → w.before a' U = true) ∧ Cond.codeWith y bytes maxL ret hh ∈ ws) ∧
  (Cond.codeWith y bytes maxL ret hh).before args s = true ∧ (Cond.initialized y.cls).before args s = true ∧ (y.cls ≠ "java/lang/invoke/MethodHandle" ∧ y.cls ≠ "java/lang/invoke/VarHandle") ∧
  (∀ sig, parseMethodDescriptor y.desc = some sig → n = sig.parameters.length) ∧ (Cond.methodLink own index y).before args s = true ∧ (Cond.static y).before args s = true
theorem vx_cwSW {own : String} {index maxL mc ms : Nat} {y : MethodName} {bytes : ByteArray} {ret : Option FieldType} {hh : List (Nat × Nat × Nat × Nat)} {Ts ws ws' : List Cond} {rm : Room} (n : Nat) (ht : ∀ w ∈ Ts, w.before args s = true) (hT : GoodIn Ts (va_wsS own index y ws)) (hw : ws = Cond.codeWith y bytes maxL ret hh :: ws') (hrc : rm.cells = mc) (hrs : rm.slots = ms)
    (hd : y.cls ≠ "java/lang/invoke/MethodHandle" ∧ y.cls ≠ "java/lang/invoke/VarHandle" ∧ (parseMethodDescriptor y.desc).map (fun d => d.parameters.length) = some n) (hR : rm.frames + 1 ≤ R.frames ∧ 8 + (maxL + 11) + rm.locals ≤ R.locals) :
    vx_CSW R s args own index y bytes maxL ret hh ws rm mc ms n := by
  have ok : ∀ w ∈ va_wsS own index y ws, w.before args s = true := fun w h => ht w (hT w h).1
  have hG : GoodIn Ts ws := fun w h => hT w (by unfold va_wsS; exact List.mem_append_right _ h)
  have hc : Cond.codeWith y bytes maxL ret hh ∈ ws := by rw [hw]; exact List.mem_cons_self
  refine ⟨⟨hrc, hrs, hR.1, hR.2, pay_in ht hG, hc⟩, ht _ (hG _ hc).1, ok _ (by simp [va_wsS]), ⟨hd.1, hd.2.1⟩, fun sig h => ?_, ok _ (by simp [va_wsS]), ok _ (by simp [va_wsS])⟩
  have h2 := hd.2.2
  rw [h] at h2
  exact (Option.some.inj h2).symm
theorem vx_callSW (X : Stand p l e R s m args below meth c T locs cells slots) (hexec : p.tables.exec = Jvm.exec) {own : String} {index : Nat} {y : MethodName} {bytes : ByteArray} {maxL : Nat} {ret : Option FieldType} {hh : List (Nat × Nat × Nat × Nat)}
    (hown : s.vm.findClass own = some m.cls) (hlink : (Cond.methodLink own index y).before args s = true) (hstat : (Cond.static y).before args s = true) (hinit : (Cond.initialized y.cls).before args s = true)
    (hcode : (Cond.codeWith y bytes maxL ret hh).before args s = true) (hy : y.cls ≠ "java/lang/invoke/MethodHandle" ∧ y.cls ≠ "java/lang/invoke/VarHandle")
    {W9 : Nat} {Pre : Pt → Array Value → Prop} {Post : Pt → Array Value → Option Value → Pt → Prop} (hK : Back l R p e below s args y 3 W9 Pre Post)
    {g : JFrame} (hg : g.method = m) (hsize : g.locals.size = c.maxLocals) {argsL rest : List Value} (hlen : ∀ sig, parseMethodDescriptor y.desc = some sig → argsL.length = sig.parameters.length)
    (hstack : g.stack = argsL.reverse ++ rest) (hW : 2 * g.monitorRoom + (rest.map fun v => v.category).sum ≤ W9) (hdg : decode c.code g.pc = .ok (.invokestatic index, 3))
    (hpre : ∀ vm₁, s.WarmedH vm₁ → Pre ⟨T.setVm vm₁, locs, cells, slots⟩ argsL.toArray) :
    ∃ (v : Option Value) (vm₁ : Vm) (B : Pt), s.WarmedH vm₁ ∧ Stand p l e R s m args below meth c B.U B.locs B.cells B.slots ∧ Post ⟨T.setVm vm₁, locs, cells, slots⟩ argsL.toArray v B ∧
      ∀ target, Steps p.tables e below (B.U.setTop { g with pc := g.pc + 3, stack := v.toList ++ rest }) target → Steps p.tables e below (T.setTop g) target := by
  obtain ⟨mk, methM, cM, hnamed, hmethM, -, -, -, -, -, -, hsigM⟩ := Cond.codeWith_spec hcode
  have hstatic : methM.isStatic = true := Cond.static_spec hnamed hmethM hstat
  obtain ⟨kP, hkP, -⟩ := className_of_methodNamed hnamed
  have hinitP : kP.init = .initialized := Cond.initialized_spec (findClass_of_methodNamed hnamed) hkP hinit
  obtain ⟨vm₁, X₁, hstep₁⟩ := X.invokestatic hexec hown hlink hnamed hmethM hstatic hkP hinitP hy (g := g) hg (argsL := argsL) (rest := rest) (hlen _ hsigM) hstack hdg
  obtain ⟨v, B, X', hpost, hsteps⟩ := hK m meth c ⟨T.setVm vm₁, locs, cells, slots⟩ { g with stack := rest } (.invokestatic index) mk argsL.toArray X₁ hg hsize hdg hW (X₁.named hnamed) (hpre vm₁ X₁.warmed)
  exact ⟨v, vm₁, B, X₁.warmed, X', hpost, fun target h => hstep₁ _ fun acts => by rw [doInvoke_state]; exact hsteps.trans h⟩
theorem vx_runSW {y : MethodName} {bytes cc : ByteArray} {maxL nL mc ms n index : Nat} {ret : Option FieldType} {hh : List (Nat × Nat × Nat × Nat)} {ws : List Cond} {rm : Room} {Pc : Array Value → State → Prop} {Qc : Array Value → State → Outcome → State → Prop} {free : Addr → Prop} {Ts : List Cond} {own : String} {As rest : List Value} {g : JFrame}
    (S : CallFix p m c cc nL s args Ts own) (hM : Met l y ws rm Pc Qc mc ms free) (cw : vx_CSW R s args own index y bytes maxL ret hh ws rm mc ms n) (hp : PreS s H Pc As)
    (hg : g.method = m) (hn : As.length = n) (hsize : g.locals.size = nL) (hstack : g.stack = As.reverse ++ rest) (hW : 2 * g.monitorRoom + (rest.map fun v => v.category).sum ≤ 8) (hdg : decode cc g.pc = .ok (.invokestatic index, 3)) (hf : cells + mc ≤ R.cells ∧ slots + ms ≤ R.slots) :
    va_Run p l e R s m args below meth c H locs cells slots mc ms g rest (Qc As.toArray) (free) := by
  obtain ⟨⟨hrc, hrs, hfr, hlo, hws, hcw⟩, hcode, hini, hy, hlen, hl, hstt⟩ := cw
  have hK : Back l R p e below s args y 3 8 (PreOf R mc ms Pc) (PostOf Qc mc ms free) := va_backW (hh := hh) (bytes := bytes) (maxL := maxL) (ret := ret) hM hp.1 hrc hrs hfr hlo hws hcw (fun a' U hW => word_at hW (Or.inl (by first | rfl | simp [Cond.onTables, Cond.keeps, Cond.steady])) hini)
  obtain ⟨hx, hb, hml, ho, -⟩ := S
  intro T hT X
  obtain ⟨v, vm₁, ⟨U', l2, c2, s2⟩, hW₁, X', ⟨g', mk, t, L, e1, e2, hq, h1, hL, h2, h3⟩, st⟩ := vx_callSW X hx (hh := hh) (bytes := bytes) (maxL := maxL) (ret := ret) ho hl hstt hini hcode hy hK hg (hsize.trans hml.symm) (argsL := As) (rest := rest) (fun sig h => hn.trans (hlen sig h)) hstack hW (by rw [hb]; exact hdg)
    (fun vm₁ hW₁ => ⟨hf.1, hf.2, hp.2 (T.setVm vm₁) hT hW₁⟩)
  dsimp only [Pt.U, Pt.locs, Pt.cells, Pt.slots] at X' e1 e2 h1 h2 h3 st
  subst h1; subst h2; subst h3
  exact ⟨v, (T.setVm vm₁).calling g' mk As.toArray, t, U', L, hT, X', hL, e1, e2, hq, st⟩
theorem vx_outP {p : Program} {l : Launch} {e : Env} {R : Room} {s : State} {m : MethodId} {args : Array Value} {below : List Frame} {meth : Method} {c : Code} {H : Heap} {locs : List Loc} {cells slots : Nat} {free : Addr → Prop} {ls : Array Slot} {rest : List Value} {Qc : Array Value → State → Outcome → State → Prop} {XC : String → State → State → Prop}
    {pc : Nat} {own E : String} {ce : Cell} {q : Addr} {mc ms : Nat} (hown : s.vm.findClass own = some m.cls) (hlocks : meth.locks = false)
    (hpass : ∀ z ∈ c.exceptionTable.toList, covers z pc = false ∨ (z.catchType ≠ 0 ∧ ∃ nm : String, (Cond.classLink own z.catchType nm).before args s = true ∧ va_Nc E nm s)) (hcell : H[q]? = some ce) (hv : ce.vm = .none) (hcl : s.vm.findClass E = some ce.cls)
    (hx : ∀ t : State, t.heap = H → s.vm.Alike t.vm → XC E s t) (hf : ∀ z ∈ locs, free z.base) (hc : cells ≤ mc) (hs : slots ≤ ms) :
    vx_W p l e R s m args below meth c H locs cells slots (vx_MQ below Qc XC args s mc ms free) (F0 m pc ls rest) q := by
  intro T hT X
  have hpl : e.platform.magicAccessors = ({} : Platform).magicAccessors := by rw [X.admits.platform]
  obtain ⟨vm', hW', X', st⟩ := X.outThrough hlocks q (g := F0 m pc ls rest) rfl rfl rfl (cell := ce) (by rw [hT]; exact hcell) (by rw [hv]; rfl)
    (by obtain ⟨k9, h9, -⟩ := Vm.findClass_spec hcl; exact ⟨k9, h9⟩) (fun z hz => by
      rcases hpass z hz with h | ⟨hz0, nm, hl1, hn1⟩
      · exact Or.inl h
      · obtain ⟨c6, hc6, hcl6⟩ := Cond.classLink_spec hown hl1 e.platform hpl
        obtain ⟨a8, b8, h1, h2, h3⟩ := hn1
        cases Option.some.inj (h1.symm.trans hcl)
        cases Option.some.inj (h2.symm.trans hc6)
        exact Or.inr ⟨hz0, _, hcl6, h3⟩)
  obtain ⟨g₀, hfr⟩ := X'.frames_eq
  have hcell9 : ((T.setVm vm').setFrames (.throwing q :: below)).heap[q]? = some ce := by
    show T.heap[q]? = some ce
    rw [hT]; exact hcell
  have hend : Ended ((T.setVm vm').setFrames (.throwing q :: below)) below (.threw q) := State.frames_setFrames _ (State.cur_lt_of_frames hfr)
  refine ⟨(T.setVm vm').setFrames (.throwing q :: below), ?_, .threw q, X'.here.running, hend, Or.inr ⟨q, rfl, E, ce, locs, hx _ hT (X'.ends _).1.alike, hcell9, hv, hcl, (X'.ends _).1, (X'.ends _).2.mono hc hs, hf⟩⟩
  rw [X.pushThrowing_eq]
  exact st
theorem vx_lt {D : va_G} {cl : List vw_C} {ws : va_W} {H1 : Heap} (h : va_P D cl ws H1) {k : Nat} {q : Nat × va_E} (hk : ws[k]? = some q) : q.1 < H1.size := (h k q hk).lt
end VXS
section VXH
section
variable {l : Launch} {R : Room} {p : Program} {e : Env} {below : List Frame} {s : State} {sargs : Array Value} {y : MethodName} {len W9 : Nat}
theorem vx_backW {ws : List Cond} {rm : Room} {Pc : Array Value → State → Prop} {Qc : Array Value → State → Outcome → State → Prop} {XC : String → State → State → Prop} {mc ms : Nat} {free : Addr → Prop} {bytes : ByteArray} {maxL : Nat} {ret : Option FieldType} {hh : List (Nat × Nat × Nat × Nat)}
    (hM : vx_Met l y ws rm Pc Qc XC mc ms free) (hblind : FrameBlind Pc) (hrc : rm.cells = mc) (hrs : rm.slots = ms)
    (hframes : rm.frames + 1 ≤ R.frames) (hlocals : W9 + (maxL + 11) + rm.locals ≤ R.locals)
    (hws : ∀ w ∈ ws, ∀ a' U, s.WarmedH U.vm → w.before a' U = true) (hcode : Cond.codeWith y bytes maxL ret hh ∈ ws) (hinit : ∀ a' U, s.WarmedH U.vm → (Cond.initialized y.cls).before a' U = true) :
    vx_Back l R p e below s sargs y len W9 (PreOf R mc ms Pc) (PostOf Qc mc ms free) (vx_Post XC mc ms free) := by
  intro m meth c A g ig mk a X hg hsize hdg hW hn hp
  have h1 : (headSpec ws rm).pre.before a A.U = true := atoms_intro fun w hw => hws w hw _ _ X.warmed
  have h2 : (Cond.codeWith y bytes maxL ret hh).before a A.U = true := hws _ hcode _ _ X.warmed
  have h3 : (Cond.initialized y.cls).before a A.U = true := hinit _ _ X.warmed
  have h4 : A.cells + (headSpec ws rm).room.cells ≤ R.cells := by rw [show (headSpec ws rm).room.cells = mc from hrc]; exact hp.1
  have h5 : A.slots + (headSpec ws rm).room.slots ≤ R.slots := by rw [show (headSpec ws rm).room.slots = ms from hrs]; exact hp.2.1
  have hPc : Pc a (A.U.calling g mk a) := hblind _ _ _ _ hp.2.2
  obtain ⟨U, Ls, c0, s0⟩ := A
  dsimp only [Pt.U, Pt.locs, Pt.cells, Pt.slots] at h1 h2 h3 h4 h5 X hn hPc ⊢
  obtain ⟨m9, methY, cY, hn9, hmY, hcY, -, hlY, -⟩ := Cond.codeWith_spec h2
  cases Option.some.inj (hn9.symm.trans hn)
  obtain ⟨kY, hkY, -⟩ := className_of_methodNamed hn
  have hinitY : kY.init = .initialized := Cond.initialized_spec (findClass_of_methodNamed hn) hkY h3
  have h : At U g.method c below := by rw [hg]; exact X.here
  have hlocals9 : W9 + (maxL + 11) + (headSpec ws rm).room.locals ≤ R.locals := hlocals
  have happ : (headSpec ws rm).appliesLoose y e.platform (U.calling g mk a) = true :=
    Spec.appliesLoose_calling (g := g) h hdg hn hkY hinitY
      (X.room_calling (g := g) (R' := (headSpec ws rm).room) hsize hmY hcY hframes (by rw [hlY]; omega) h4 h5) h1
  obtain ⟨mid, hmid⟩ := h.above
  have hfr : (U.setTop g).frames = (.java g :: mid) ++ below := by rw [State.frames_setTop' g h.top, hmid]; rfl
  obtain ⟨o, s₂, hsteps, -, hend, hq⟩ := Steps.callFree hM p X.admits X.cas X.clock (acts := []) hfr happ hPc trivial
  have hq' : vx_Q Qc XC mc ms free a (U.calling g mk a) o s₂ := hq
  rw [State.frames_setTop' g h.top] at hend
  obtain ⟨g₀, hg0⟩ := Option.isSome_iff_exists.mp h.top
  obtain ⟨r, hr⟩ := State.topJava?_eq_some.mp hg0
  have hr' : (({ U with heap := s₂.heap, slotsUsed := s₂.slotsUsed } : State).setVm s₂.vm).frames = .java g₀ :: r := hr
  rcases hq' with ⟨hqc, L, hfe, hL⟩ | ⟨q, rfl, E, ce, L, hx, hce, hcv, hcl, hW₂, hsm, hL⟩
  · obtain ⟨⟨v, rfl⟩, hW₂, e2, q2, q3, q4, q5, q6⟩ := id hfe
    have e3 : s₂ = ({ (U.calling g mk a).setFrames s₂.frames with heap := s₂.heap, slotsUsed := s₂.slotsUsed } : State).setVm s₂.vm := by
      have : s₂ = ({ s₂ with vm := (U.calling g mk a).vm } : State).setVm s₂.vm := rfl
      rw [e2] at this
      exact this
    obtain ⟨c₂, i₂, len₂, hc₂, hd₂, hf₂⟩ := hend
    have hW' : U.WarmedH s₂.vm := hW₂
    have hcc : c₂ = c := by
      have h1 : s₂.code? g.method = U.code? g.method := by
        rw [State.code?_eq, State.code?_eq, hW'.alike.method?]
      exact Option.some.inj (hc₂.symm.trans (h1.trans h.code))
    subst hcc
    have hlen : len₂ = len := by rw [hdg] at hd₂; cases hd₂; rfl
    subst hlen
    have hs₂ : s₂ = (({ U with heap := s₂.heap, slotsUsed := s₂.slotsUsed } : State).setVm s₂.vm).setTop { g with pc := g.pc + len₂, stack := v.toList ++ g.stack } := by
      refine e3.trans ?_
      rw [hf₂, State.calling_eq h.top, State.setFrames_setFrames, State.setTop_of_frames _ hr', hr]
      rfl
    have hsame : U.sameButNew ({ U with heap := s₂.heap, slotsUsed := s₂.slotsUsed } : State) L mc ms := by
      refine ⟨?_, q2, q3, q4, q5, q6⟩
      obtain ⟨t, ht, -⟩ := State.frames_cons hr
      show ({ U with heap := s₂.heap, slotsUsed := s₂.slotsUsed } : State) = { U.setFrames U.frames with heap := s₂.heap, slotsUsed := s₂.slotsUsed }
      rw [State.setFrames_self ht]
    subst hg
    refine Or.inl ⟨v, ⟨(({ U with heap := s₂.heap, slotsUsed := s₂.slotsUsed } : State).setVm s₂.vm), Ls ++ L, c0 + mc, s0 + ms⟩,
      ⟨X.admits, X.cas, X.clock, X.frames, X.room, X.hears, X.method, X.code, (X.here.setHeapUsed s₂.heap s₂.slotsUsed).setVm hW'.alike, X.tail, State.WarmedH.trans X.warmed hW', X.limits, X.bytes, X.same.trans (hsame.setVm s.vm)⟩,
      ⟨g, mk, s₂, L, rfl, rfl, hqc, rfl, hL, rfl, rfl⟩, ?_⟩
    show Steps p.tables e below _ ((({ U with heap := s₂.heap, slotsUsed := s₂.slotsUsed } : State).setVm s₂.vm).setTop { g with pc := g.pc + len₂, stack := v.toList ++ g.stack })
    rw [← hs₂]
    exact hsteps
  · obtain ⟨e2, q2, q3, q4, q5, q6⟩ := id hsm
    have e3 : s₂ = ({ (U.calling g mk a).setFrames s₂.frames with heap := s₂.heap, slotsUsed := s₂.slotsUsed } : State).setVm s₂.vm := by
      have : s₂ = ({ s₂ with vm := (U.calling g mk a).vm } : State).setVm s₂.vm := rfl
      rw [e2] at this
      exact this
    have hf₂ : s₂.frames = .throwing q :: .java g :: U.frames.tail := hend
    have hW' : U.WarmedH s₂.vm := hW₂
    have hs₂ : s₂ = ((({ U with heap := s₂.heap, slotsUsed := s₂.slotsUsed } : State).setVm s₂.vm).setTop g).pushFrame (.throwing q) := by
      refine e3.trans ?_
      rw [hf₂, State.calling_eq h.top, State.setFrames_setFrames, State.pushFrame, State.frames_setTop _ hr', State.setTop_of_frames _ hr', State.setFrames_setFrames, hr]
      rfl
    have hsame : U.sameButNew ({ U with heap := s₂.heap, slotsUsed := s₂.slotsUsed } : State) L mc ms := by
      refine ⟨?_, q2, q3, q4, q5, q6⟩
      obtain ⟨t, ht, -⟩ := State.frames_cons hr
      show ({ U with heap := s₂.heap, slotsUsed := s₂.slotsUsed } : State) = { U.setFrames U.frames with heap := s₂.heap, slotsUsed := s₂.slotsUsed }
      rw [State.setFrames_self ht]
    subst hg
    refine Or.inr ⟨q, ⟨(({ U with heap := s₂.heap, slotsUsed := s₂.slotsUsed } : State).setVm s₂.vm), Ls ++ L, c0 + mc, s0 + ms⟩,
      ⟨X.admits, X.cas, X.clock, X.frames, X.room, X.hears, X.method, X.code, (X.here.setHeapUsed s₂.heap s₂.slotsUsed).setVm hW'.alike, X.tail, State.WarmedH.trans X.warmed hW', X.limits, X.bytes, X.same.trans (hsame.setVm s.vm)⟩,
      ⟨g, mk, s₂, L, E, ce, rfl, rfl, hx, hce, hcv, hcl, rfl, hL, rfl, rfl⟩, ?_⟩
    show Steps p.tables e below _ (((({ U with heap := s₂.heap, slotsUsed := s₂.slotsUsed } : State).setVm s₂.vm).setTop g).pushFrame (.throwing q))
    rw [← hs₂]
    exact hsteps
end
variable {p : Program} {l : Launch} {e : Env} {R : Room} {s : State} {m : MethodId} {args : Array Value} {below : List Frame} {meth : Method} {c : Code} {T : State} {H : Heap} {locs : List Loc} {cells slots : Nat}
theorem vx_callVX (X : Stand p l e R s m args below meth c T locs cells slots) (hexec : p.tables.exec = Jvm.exec) {own C : String} {index : Nat} {y : MethodName} {bytes : ByteArray} {maxL : Nat} {ret : Option FieldType} {hh : List (Nat × Nat × Nat × Nat)}
    (hown : s.vm.findClass own = some m.cls) (hlink : (Cond.methodLink own index y).before args s = true) (hinst : (Cond.instanceMethod y).before args s = true) (hsel : (Cond.selects C y y).before args s = true)
    (hcode : (Cond.codeWith y bytes maxL ret hh).before args s = true) (hy : y.cls ≠ "java/lang/invoke/MethodHandle" ∧ y.cls ≠ "java/lang/invoke/VarHandle")
    {W9 : Nat} {Pre : Pt → Array Value → Prop} {Post : Pt → Array Value → Option Value → Pt → Prop} {PostX : Pt → Array Value → Addr → Pt → Prop} (hK : vx_Back l R p e below s args y 3 W9 Pre Post PostX)
    {b : Addr} {cellB : Cell} (hcell : T.heap[b]? = some cellB) (hobj : cellB.vm.isStatics = false) (hcls : s.vm.findClass C = some cellB.cls)
    {g : JFrame} (hg : g.method = m) (hsize : g.locals.size = c.maxLocals) {argsL rest : List Value} (hlen : ∀ sig, parseMethodDescriptor y.desc = some sig → argsL.length = sig.parameters.length)
    (hstack : g.stack = argsL.reverse ++ .ref b :: rest) (hW : 2 * g.monitorRoom + (rest.map fun v => v.category).sum ≤ W9) (hdg : decode c.code g.pc = .ok (.invokevirtual index, 3))
    (hpre : ∀ vm₁, s.WarmedH vm₁ → Pre ⟨T.setVm vm₁, locs, cells, slots⟩ (Value.ref b :: argsL).toArray) :
    (∃ (v : Option Value) (vm₁ : Vm) (B : Pt), s.WarmedH vm₁ ∧ Stand p l e R s m args below meth c B.U B.locs B.cells B.slots ∧ Post ⟨T.setVm vm₁, locs, cells, slots⟩ (Value.ref b :: argsL).toArray v B ∧
      ∀ target, Steps p.tables e below (B.U.setTop { g with pc := g.pc + 3, stack := v.toList ++ rest }) target → Steps p.tables e below (T.setTop g) target) ∨
    (∃ (q : Addr) (vm₁ : Vm) (B : Pt), s.WarmedH vm₁ ∧ Stand p l e R s m args below meth c B.U B.locs B.cells B.slots ∧ PostX ⟨T.setVm vm₁, locs, cells, slots⟩ (Value.ref b :: argsL).toArray q B ∧
      Steps p.tables e below (T.setTop g) ((B.U.setTop { g with stack := rest }).pushFrame (.throwing q))) := by
  obtain ⟨mk, methM, hnamed, hmethM, hstM, habM⟩ := Cond.instanceMethod_spec hinst
  obtain ⟨m8, methM', cM, hn8, hmethM', -, -, -, -, -, -, hsigM⟩ := Cond.codeWith_spec hcode
  cases Option.some.inj (hn8.symm.trans hnamed)
  cases hmethM.symm.trans hmethM'
  obtain ⟨c2, r2, m2, q1, q2, q3, q4, kP, hkP, hkPi⟩ := Cond.selects_spec hsel
  cases hcls.symm.trans q1
  cases (State.methodFound?_of_named hnamed hy).symm.trans q2
  cases hnamed.symm.trans q3
  have hselP : selectMethod e.platform s.vm cellB.cls mk = .method mk := by rw [Launch.admits_selectMethod X.admits]; exact q4
  obtain ⟨vm₁, X₁, hstep₁⟩ := X.invokevirtual hexec hown hlink hnamed hmethM hstM hkP hkPi hy (a := b) (cell := cellB) hcell
    (fun z h => by rw [h] at hobj; cases hobj) hselP hmethM habM hkP hkPi (g := g) hg (argsL := argsL) (rest := rest) (hlen _ hsigM) hstack hdg
  rcases hK m meth c ⟨T.setVm vm₁, locs, cells, slots⟩ { g with stack := rest } (.invokevirtual index) mk (Value.ref b :: argsL).toArray X₁ hg hsize hdg hW (X₁.named hnamed) (hpre vm₁ X₁.warmed) with ⟨v, B, X', hpost, hsteps⟩ | ⟨q, B, X', hpost, hsteps⟩
  · exact Or.inl ⟨v, vm₁, B, X₁.warmed, X', hpost, fun target h => hstep₁ _ fun acts => by rw [doInvoke_state]; exact hsteps.trans h⟩
  · exact Or.inr ⟨q, vm₁, B, X₁.warmed, X', hpost, hstep₁ _ fun acts => by rw [doInvoke_state]; exact hsteps⟩
theorem vx_callSX (X : Stand p l e R s m args below meth c T locs cells slots) (hexec : p.tables.exec = Jvm.exec) {own : String} {index : Nat} {y : MethodName} {bytes : ByteArray} {maxL : Nat} {ret : Option FieldType} {hh : List (Nat × Nat × Nat × Nat)}
    (hown : s.vm.findClass own = some m.cls) (hlink : (Cond.methodLink own index y).before args s = true) (hstat : (Cond.static y).before args s = true) (hinit : (Cond.initialized y.cls).before args s = true)
    (hcode : (Cond.codeWith y bytes maxL ret hh).before args s = true) (hy : y.cls ≠ "java/lang/invoke/MethodHandle" ∧ y.cls ≠ "java/lang/invoke/VarHandle")
    {W9 : Nat} {Pre : Pt → Array Value → Prop} {Post : Pt → Array Value → Option Value → Pt → Prop} {PostX : Pt → Array Value → Addr → Pt → Prop} (hK : vx_Back l R p e below s args y 3 W9 Pre Post PostX)
    {g : JFrame} (hg : g.method = m) (hsize : g.locals.size = c.maxLocals) {argsL rest : List Value} (hlen : ∀ sig, parseMethodDescriptor y.desc = some sig → argsL.length = sig.parameters.length)
    (hstack : g.stack = argsL.reverse ++ rest) (hW : 2 * g.monitorRoom + (rest.map fun v => v.category).sum ≤ W9) (hdg : decode c.code g.pc = .ok (.invokestatic index, 3))
    (hpre : ∀ vm₁, s.WarmedH vm₁ → Pre ⟨T.setVm vm₁, locs, cells, slots⟩ argsL.toArray) :
    (∃ (v : Option Value) (vm₁ : Vm) (B : Pt), s.WarmedH vm₁ ∧ Stand p l e R s m args below meth c B.U B.locs B.cells B.slots ∧ Post ⟨T.setVm vm₁, locs, cells, slots⟩ argsL.toArray v B ∧
      ∀ target, Steps p.tables e below (B.U.setTop { g with pc := g.pc + 3, stack := v.toList ++ rest }) target → Steps p.tables e below (T.setTop g) target) ∨
    (∃ (q : Addr) (vm₁ : Vm) (B : Pt), s.WarmedH vm₁ ∧ Stand p l e R s m args below meth c B.U B.locs B.cells B.slots ∧ PostX ⟨T.setVm vm₁, locs, cells, slots⟩ argsL.toArray q B ∧
      Steps p.tables e below (T.setTop g) ((B.U.setTop { g with stack := rest }).pushFrame (.throwing q))) := by
  obtain ⟨mk, methM, cM, hnamed, hmethM, -, -, -, -, -, -, hsigM⟩ := Cond.codeWith_spec hcode
  have hstatic : methM.isStatic = true := Cond.static_spec hnamed hmethM hstat
  obtain ⟨kP, hkP, -⟩ := className_of_methodNamed hnamed
  have hinitP : kP.init = .initialized := Cond.initialized_spec (findClass_of_methodNamed hnamed) hkP hinit
  obtain ⟨vm₁, X₁, hstep₁⟩ := X.invokestatic hexec hown hlink hnamed hmethM hstatic hkP hinitP hy (g := g) hg (argsL := argsL) (rest := rest) (hlen _ hsigM) hstack hdg
  rcases hK m meth c ⟨T.setVm vm₁, locs, cells, slots⟩ { g with stack := rest } (.invokestatic index) mk argsL.toArray X₁ hg hsize hdg hW (X₁.named hnamed) (hpre vm₁ X₁.warmed) with ⟨v, B, X', hpost, hsteps⟩ | ⟨q, B, X', hpost, hsteps⟩
  · exact Or.inl ⟨v, vm₁, B, X₁.warmed, X', hpost, fun target h => hstep₁ _ fun acts => by rw [doInvoke_state]; exact hsteps.trans h⟩
  · exact Or.inr ⟨q, vm₁, B, X₁.warmed, X', hpost, hstep₁ _ fun acts => by rw [doInvoke_state]; exact hsteps⟩
theorem vx_callVW (X : Stand p l e R s m args below meth c T locs cells slots) (hexec : p.tables.exec = Jvm.exec) {own C : String} {index : Nat} {y : MethodName} {bytes : ByteArray} {maxL : Nat} {ret : Option FieldType} {hh : List (Nat × Nat × Nat × Nat)}
    (hown : s.vm.findClass own = some m.cls) (hlink : (Cond.methodLink own index y).before args s = true) (hinst : (Cond.instanceMethod y).before args s = true) (hsel : (Cond.selects C y y).before args s = true)
    (hcode : (Cond.codeWith y bytes maxL ret hh).before args s = true) (hy : y.cls ≠ "java/lang/invoke/MethodHandle" ∧ y.cls ≠ "java/lang/invoke/VarHandle")
    {W9 : Nat} {Pre : Pt → Array Value → Prop} {Post : Pt → Array Value → Option Value → Pt → Prop} (hK : Back l R p e below s args y 3 W9 Pre Post)
    {b : Addr} {cellB : Cell} (hcell : T.heap[b]? = some cellB) (hobj : cellB.vm.isStatics = false) (hcls : s.vm.findClass C = some cellB.cls)
    {g : JFrame} (hg : g.method = m) (hsize : g.locals.size = c.maxLocals) {argsL rest : List Value} (hlen : ∀ sig, parseMethodDescriptor y.desc = some sig → argsL.length = sig.parameters.length)
    (hstack : g.stack = argsL.reverse ++ .ref b :: rest) (hW : 2 * g.monitorRoom + (rest.map fun v => v.category).sum ≤ W9) (hdg : decode c.code g.pc = .ok (.invokevirtual index, 3))
    (hpre : ∀ vm₁, s.WarmedH vm₁ → Pre ⟨T.setVm vm₁, locs, cells, slots⟩ (Value.ref b :: argsL).toArray) :
    ∃ (v : Option Value) (vm₁ : Vm) (B : Pt), s.WarmedH vm₁ ∧ Stand p l e R s m args below meth c B.U B.locs B.cells B.slots ∧ Post ⟨T.setVm vm₁, locs, cells, slots⟩ (Value.ref b :: argsL).toArray v B ∧
      ∀ target, Steps p.tables e below (B.U.setTop { g with pc := g.pc + 3, stack := v.toList ++ rest }) target → Steps p.tables e below (T.setTop g) target := by
  obtain ⟨mk, methM, hnamed, hmethM, hstM, habM⟩ := Cond.instanceMethod_spec hinst
  obtain ⟨m8, methM', cM, hn8, hmethM', -, -, -, -, -, -, hsigM⟩ := Cond.codeWith_spec hcode
  cases Option.some.inj (hn8.symm.trans hnamed)
  cases hmethM.symm.trans hmethM'
  obtain ⟨c2, r2, m2, q1, q2, q3, q4, kP, hkP, hkPi⟩ := Cond.selects_spec hsel
  cases hcls.symm.trans q1
  cases (State.methodFound?_of_named hnamed hy).symm.trans q2
  cases hnamed.symm.trans q3
  have hselP : selectMethod e.platform s.vm cellB.cls mk = .method mk := by rw [Launch.admits_selectMethod X.admits]; exact q4
  obtain ⟨vm₁, X₁, hstep₁⟩ := X.invokevirtual hexec hown hlink hnamed hmethM hstM hkP hkPi hy (a := b) (cell := cellB) hcell
    (fun z h => by rw [h] at hobj; cases hobj) hselP hmethM habM hkP hkPi (g := g) hg (argsL := argsL) (rest := rest) (hlen _ hsigM) hstack hdg
  obtain ⟨v, B, X', hpost, hsteps⟩ := hK m meth c ⟨T.setVm vm₁, locs, cells, slots⟩ { g with stack := rest } (.invokevirtual index) mk (Value.ref b :: argsL).toArray X₁ hg hsize hdg hW (X₁.named hnamed) (hpre vm₁ X₁.warmed)
  exact ⟨v, vm₁, B, X₁.warmed, X', hpost, fun target h => hstep₁ _ fun acts => by rw [doInvoke_state]; exact hsteps.trans h⟩
abbrev vx_CVW (R : Room) (s : State) (args : Array Value) (own C : String) (index : Nat) (y : MethodName) (bytes : ByteArray) (maxL : Nat) (ret : Option FieldType) (hh : List (Nat × Nat × Nat × Nat)) (ws : List Cond) (rm : Room) (mc ms n : Nat) : Prop :=
  (rm.cells = mc ∧ rm.slots = ms ∧ rm.frames + 1 ≤ R.frames ∧ 8 + (maxL + 11) + rm.locals ≤ R.locals ∧ (∀ w ∈ ws, ∀ (a' : Array Value) (U : State), s.WarmedH U.vm → w.before a' U = true) ∧ Cond.codeWith y bytes maxL ret hh ∈ ws) ∧
  (Cond.codeWith y bytes maxL ret hh).before args s = true ∧ (Cond.initialized y.cls).before args s = true ∧ (y.cls ≠ "java/lang/invoke/MethodHandle" ∧ y.cls ≠ "java/lang/invoke/VarHandle") ∧
  (∀ sig, parseMethodDescriptor y.desc = some sig → n = sig.parameters.length) ∧ (Cond.methodLink own index y).before args s = true ∧ (Cond.instanceMethod y).before args s = true ∧ (Cond.selects C y y).before args s = true
theorem vx_cwVW {own C : String} {index maxL mc ms : Nat} {y : MethodName} {bytes : ByteArray} {ret : Option FieldType} {hh : List (Nat × Nat × Nat × Nat)} {Ts ws ws' : List Cond} {rm : Room} (n : Nat) (ht : ∀ w ∈ Ts, w.before args s = true) (hT : GoodIn Ts (wsV own index C y ws)) (hw : ws = Cond.codeWith y bytes maxL ret hh :: ws') (hrc : rm.cells = mc) (hrs : rm.slots = ms)
    (hd : y.cls = C ∧ y.cls ≠ "java/lang/invoke/MethodHandle" ∧ y.cls ≠ "java/lang/invoke/VarHandle" ∧ (parseMethodDescriptor y.desc).map (fun d => d.parameters.length) = some n) (hR : rm.frames + 1 ≤ R.frames ∧ 8 + (maxL + 11) + rm.locals ≤ R.locals) :
    vx_CVW R s args own C index y bytes maxL ret hh ws rm mc ms n := by
  obtain ⟨hC, hd⟩ := hd
  subst hC
  have ok : ∀ w ∈ wsV own index y.cls y ws, w.before args s = true := fun w h => ht w (hT w h).1
  have hG : GoodIn Ts ws := fun w h => hT w (by unfold wsV; exact List.mem_append_right _ h)
  have hc : Cond.codeWith y bytes maxL ret hh ∈ ws := by rw [hw]; exact List.mem_cons_self
  refine ⟨⟨hrc, hrs, hR.1, hR.2, pay_in ht hG, hc⟩, ht _ (hG _ hc).1, ok _ (by simp [wsV]), ⟨hd.1, hd.2.1⟩, fun sig h => ?_, ok _ (by simp [wsV]), ok _ (by simp [wsV]), ok _ (by simp [wsV])⟩
  have h2 := hd.2.2
  rw [h] at h2
  exact (Option.some.inj h2).symm
theorem vx_runVW {y : MethodName} {bytes cc : ByteArray} {maxL nL mc ms n index : Nat} {ret : Option FieldType} {hh : List (Nat × Nat × Nat × Nat)} {ws : List Cond} {rm : Room} {Pc : Array Value → State → Prop} {Qc : Array Value → State → Outcome → State → Prop} {free : Addr → Prop} {Ts : List Cond} {own C : String} {b : Addr} {As rest : List Value} {g : JFrame}
    (S : CallFix p m c cc nL s args Ts own) (hM : Met l y ws rm Pc Qc mc ms free) (cw : vx_CVW R s args own C index y bytes maxL ret hh ws rm mc ms n) (hp : PreV s H C b Pc As)
    (hg : g.method = m) (hn : As.length = n) (hsize : g.locals.size = nL) (hstack : g.stack = As.reverse ++ .ref b :: rest) (hW : 2 * g.monitorRoom + (rest.map fun v => v.category).sum ≤ 8) (hdg : decode cc g.pc = .ok (.invokevirtual index, 3)) (hf : cells + mc ≤ R.cells ∧ slots + ms ≤ R.slots) :
    va_Run p l e R s m args below meth c H locs cells slots mc ms g rest (Qc (Value.ref b :: As).toArray) free := by
  obtain ⟨⟨hrc, hrs, hfr, hlo, hws, hcw⟩, hcode, hini, hy, hlen, hl, hin, hse⟩ := cw
  have hK : Back l R p e below s args y 3 8 (PreOf R mc ms Pc) (PostOf Qc mc ms free) := va_backW (hh := hh) (bytes := bytes) (maxL := maxL) (ret := ret) hM hp.1 hrc hrs hfr hlo hws hcw (fun a' U hW => word_at hW (Or.inl (by first | rfl | simp [Cond.onTables, Cond.keeps, Cond.steady])) hini)
  obtain ⟨hx, hb, hml, ho, -⟩ := S
  obtain ⟨-, ⟨cellB, hcB, hoB, hclB⟩, hPc⟩ := hp
  intro T hT X
  obtain ⟨v, vm₁, ⟨U', l2, c2, s2⟩, hW₁, X', ⟨g', mk, t, L, e1, e2, hq, h1, hL, h2, h3⟩, st⟩ := vx_callVW X hx (C := C) (hh := hh) (bytes := bytes) (maxL := maxL) (ret := ret) ho hl hin hse hcode hy hK (by rw [hT]; exact hcB) hoB hclB hg (hsize.trans hml.symm) (argsL := As) (rest := rest) (fun sig h => hn.trans (hlen sig h)) hstack hW (by rw [hb]; exact hdg)
    (fun vm₁ hW₁ => ⟨hf.1, hf.2, hPc (T.setVm vm₁) hT hW₁⟩)
  dsimp only [Pt.U, Pt.locs, Pt.cells, Pt.slots] at X' e1 e2 h1 h2 h3 st
  subst h1; subst h2; subst h3
  exact ⟨v, (T.setVm vm₁).calling g' mk (Value.ref b :: As).toArray, t, U', L, hT, X', hL, e1, e2, hq, st⟩
section
variable {y : MethodName} {bytes cc : ByteArray} {maxL nL mc ms n index : Nat} {ret : Option FieldType} {ws : List Cond} {rm : Room} {Pc : Array Value → State → Prop} {Qc : Array Value → State → Outcome → State → Prop} {XC : String → State → State → Prop} {free : Addr → Prop} {Ts : List Cond} {own C : String} {b : Addr} {As rest : List Value} {g : JFrame}
theorem vx_runVX {hh : List (Nat × Nat × Nat × Nat)} (S : CallFix p m c cc nL s args Ts own) (hM : vx_Met l y ws rm Pc Qc XC mc ms free) (cw : vx_CVW R s args own C index y bytes maxL ret hh ws rm mc ms n) (hp : PreV s H C b Pc As)
    (hg : g.method = m) (hn : As.length = n) (hsize : g.locals.size = nL) (hstack : g.stack = As.reverse ++ .ref b :: rest) (hW : 2 * g.monitorRoom + (rest.map fun v => v.category).sum ≤ 8) (hdg : decode cc g.pc = .ok (.invokevirtual index, 3)) (hf : cells + mc ≤ R.cells ∧ slots + ms ≤ R.slots) :
    vx_Run p l e R s m args below meth c H locs cells slots mc ms g rest (Qc (Value.ref b :: As).toArray) XC free := by
  obtain ⟨⟨hrc, hrs, hfr, hlo, hws, hcw⟩, hcode, hini, hy, hlen, hl, hin, hse⟩ := cw
  have hK : vx_Back l R p e below s args y 3 8 (PreOf R mc ms Pc) (PostOf Qc mc ms free) (vx_Post XC mc ms free) := vx_backW (hh := hh) (bytes := bytes) (maxL := maxL) (ret := ret) hM hp.1 hrc hrs hfr hlo hws hcw (fun a' U hW => word_at hW (Or.inl (by first | rfl | simp [Cond.onTables, Cond.keeps, Cond.steady])) hini)
  obtain ⟨hx, hb, hml, ho, -⟩ := S
  obtain ⟨-, ⟨cellB, hcB, hoB, hclB⟩, hPc⟩ := hp
  intro T hT X
  rcases vx_callVX X hx (C := C) (hh := hh) (bytes := bytes) (maxL := maxL) (ret := ret) ho hl hin hse hcode hy hK (by rw [hT]; exact hcB) hoB hclB hg (hsize.trans hml.symm) (argsL := As) (rest := rest) (fun sig h => hn.trans (hlen sig h)) hstack hW (by rw [hb]; exact hdg)
    (fun vm₁ hW₁ => ⟨hf.1, hf.2, hPc (T.setVm vm₁) hT hW₁⟩) with ⟨v, vm₁, ⟨U', l2, c2, s2⟩, hW₁, X', ⟨g', mk, t, L, e1, e2, hq, h1, hL, h2, h3⟩, st⟩ | ⟨q, vm₁, ⟨U', l2, c2, s2⟩, hW₁, X', ⟨g', mk, t, L, E, ce, e1, e2, hq, hce, hcv, hcl, h1, hL, h2, h3⟩, st⟩
  · dsimp only [Pt.U, Pt.locs, Pt.cells, Pt.slots] at X' e1 e2 h1 h2 h3 st
    subst h1; subst h2; subst h3
    exact Or.inl ⟨v, (T.setVm vm₁).calling g' mk (Value.ref b :: As).toArray, t, U', L, hT, X', hL, e1, e2, hq, st⟩
  · dsimp only [Pt.U, Pt.locs, Pt.cells, Pt.slots] at X' e1 e2 h1 h2 h3 st hcl
    subst h1; subst h2; subst h3
    exact Or.inr ⟨q, (T.setVm vm₁).calling g' mk (Value.ref b :: As).toArray, t, U', L, E, ce, hT, X', hL, e1, e2, hq, hce, hcv, vx_cls hW₁ hcl, st⟩
theorem vx_runSX {hh : List (Nat × Nat × Nat × Nat)} (S : CallFix p m c cc nL s args Ts own) (hM : vx_Met l y ws rm Pc Qc XC mc ms free) (cw : vx_CSW R s args own index y bytes maxL ret hh ws rm mc ms n) (hp : PreS s H Pc As)
    (hg : g.method = m) (hn : As.length = n) (hsize : g.locals.size = nL) (hstack : g.stack = As.reverse ++ rest) (hW : 2 * g.monitorRoom + (rest.map fun v => v.category).sum ≤ 8) (hdg : decode cc g.pc = .ok (.invokestatic index, 3)) (hf : cells + mc ≤ R.cells ∧ slots + ms ≤ R.slots) :
    vx_Run p l e R s m args below meth c H locs cells slots mc ms g rest (Qc As.toArray) XC free := by
  obtain ⟨⟨hrc, hrs, hfr, hlo, hws, hcw⟩, hcode, hini, hy, hlen, hl, hstt⟩ := cw
  have hK : vx_Back l R p e below s args y 3 8 (PreOf R mc ms Pc) (PostOf Qc mc ms free) (vx_Post XC mc ms free) := vx_backW (hh := hh) (bytes := bytes) (maxL := maxL) (ret := ret) hM hp.1 hrc hrs hfr hlo hws hcw (fun a' U hW => word_at hW (Or.inl (by first | rfl | simp [Cond.onTables, Cond.keeps, Cond.steady])) hini)
  obtain ⟨hx, hb, hml, ho, -⟩ := S
  intro T hT X
  rcases vx_callSX X hx (hh := hh) (bytes := bytes) (maxL := maxL) (ret := ret) ho hl hstt hini hcode hy hK hg (hsize.trans hml.symm) (argsL := As) (rest := rest) (fun sig h => hn.trans (hlen sig h)) hstack hW (by rw [hb]; exact hdg)
    (fun vm₁ hW₁ => ⟨hf.1, hf.2, hp.2 (T.setVm vm₁) hT hW₁⟩) with ⟨v, vm₁, ⟨U', l2, c2, s2⟩, hW₁, X', ⟨g', mk, t, L, e1, e2, hq, h1, hL, h2, h3⟩, st⟩ | ⟨q, vm₁, ⟨U', l2, c2, s2⟩, hW₁, X', ⟨g', mk, t, L, E, ce, e1, e2, hq, hce, hcv, hcl, h1, hL, h2, h3⟩, st⟩
  · dsimp only [Pt.U, Pt.locs, Pt.cells, Pt.slots] at X' e1 e2 h1 h2 h3 st
    subst h1; subst h2; subst h3
    exact Or.inl ⟨v, (T.setVm vm₁).calling g' mk As.toArray, t, U', L, hT, X', hL, e1, e2, hq, st⟩
  · dsimp only [Pt.U, Pt.locs, Pt.cells, Pt.slots] at X' e1 e2 h1 h2 h3 st hcl
    subst h1; subst h2; subst h3
    exact Or.inr ⟨q, (T.setVm vm₁).calling g' mk As.toArray, t, U', L, E, ce, hT, X', hL, e1, e2, hq, hce, hcv, vx_cls hW₁ hcl, st⟩
end
end VXH
theorem vx_ofWH {l : Launch} {y : MethodName} {ws ws' : List Cond} {rm : Room} {Pc : Array Value → State → Prop} {Qc : Array Value → State → Outcome → State → Prop} {XC : String → State → State → Prop} {mc ms : Nat} {free : Addr → Prop} {cc : ByteArray} {maxL : Nat} {ret : Option FieldType} {hh : List (Nat × Nat × Nat × Nat)}
    (hy : plainName y.cls = true) (hw : ws = Cond.codeWith y cc maxL ret hh :: ws')
    (body : ∀ p e s m args below meth c s₁, BodyLoose p l y (headSpec ws rm) cc maxL ret e s m args below meth c s₁ → c.maxLocals = maxL → Pc args s →
      W p l e (headSpec ws rm).room s m args below meth c s.heap [] 0 0 (vx_MQ below Qc XC args s mc ms free) (entryFrame m args maxL)) : vx_Met l y ws rm Pc Qc XC mc ms free := by
  refine MetFree.of_bodyS (code := cc) (maxLocals := maxL) (ret := ret) hy ?_ ?_
  · intro args s m h hn
    obtain ⟨m9, meth, c, hn9, h1, h2, h3, h4, -, h5, h6, -⟩ := Cond.codeWith_spec (atoms_spec (ws := ws) h _ (by rw [hw]; exact List.mem_cons_self))
    cases hn.symm.trans hn9
    exact ⟨meth, c, h1, h2, h3, h4, h5, h6⟩
  · intro p e s m args below meth c s₁ B hml hP _
    have hh0 : s₁.heap = s.heap := by rw [B.state]; rfl
    obtain ⟨t, a1, o, b1, b2, b3⟩ := body p e s m args below meth c s₁ B hml hP s₁ hh0 (Stand.of_body B)
    exact ⟨t, o, a1, b1, b2, b3⟩
section
variable {p : Program} {l : Launch} {e : Env} {R : Room} {s : State} {m : MethodId} {args : Array Value} {below : List Frame} {meth : Method} {c : Code} {H : Heap} {locs : List Loc} {cells slots : Nat}
variable {T : State}
theorem vx_callVN (X : Stand p l e R s m args below meth c T locs cells slots) (hexec : p.tables.exec = Jvm.exec) {own C : String} {index : Nat} {host : String} {y : MethodName} {bytes : ByteArray} {maxL : Nat} {ret : Option FieldType}
    (hown : s.vm.findClass own = some m.cls) (hlink : (Cond.methodLinkNest own index y host).before args s = true) (hinst : (Cond.instanceMethod y).before args s = true) (hsel : (Cond.selects C y y).before args s = true)
    (hcode : (Cond.code y bytes maxL ret).before args s = true) (hy : y.cls ≠ "java/lang/invoke/MethodHandle" ∧ y.cls ≠ "java/lang/invoke/VarHandle")
    {W : Nat} {Pre : Pt → Array Value → Prop} {Post : Pt → Array Value → Option Value → Pt → Prop} {PostX : Pt → Array Value → Addr → Pt → Prop} (hK : vx_Back l R p e below s args y 3 W Pre Post PostX)
    {b : Addr} {cellB : Cell} (hcell : T.heap[b]? = some cellB) (hobj : cellB.vm.isStatics = false) (hcls : s.vm.findClass C = some cellB.cls)
    {g : JFrame} (hg : g.method = m) (hsize : g.locals.size = c.maxLocals) {argsL rest : List Value} (hlen : ∀ sig, parseMethodDescriptor y.desc = some sig → argsL.length = sig.parameters.length)
    (hstack : g.stack = argsL.reverse ++ .ref b :: rest) (hW : 2 * g.monitorRoom + (rest.map fun v => v.category).sum ≤ W) (hdg : decode c.code g.pc = .ok (.invokevirtual index, 3))
    (hpre : ∀ vm₁, s.WarmedH vm₁ → Pre ⟨T.setVm vm₁, locs, cells, slots⟩ (Value.ref b :: argsL).toArray) :
    (∃ (v : Option Value) (vm₁ : Vm) (B : Pt), s.WarmedH vm₁ ∧ Stand p l e R s m args below meth c B.U B.locs B.cells B.slots ∧ Post ⟨T.setVm vm₁, locs, cells, slots⟩ (Value.ref b :: argsL).toArray v B ∧
      ∀ target, Steps p.tables e below (B.U.setTop { g with pc := g.pc + 3, stack := v.toList ++ rest }) target → Steps p.tables e below (T.setTop g) target) ∨
    (∃ (q : Addr) (vm₁ : Vm) (B : Pt), s.WarmedH vm₁ ∧ Stand p l e R s m args below meth c B.U B.locs B.cells B.slots ∧ PostX ⟨T.setVm vm₁, locs, cells, slots⟩ (Value.ref b :: argsL).toArray q B ∧
      Steps p.tables e below (T.setTop g) ((B.U.setTop { g with stack := rest }).pushFrame (.throwing q))) := by
  obtain ⟨mk, methM, hnamed, hmethM, hstM, habM⟩ := Cond.instanceMethod_spec hinst
  obtain ⟨methM', cM, hmethM', -, -, -, -, -, -, hsigM⟩ := Cond.code_spec hnamed hcode
  cases hmethM.symm.trans hmethM'
  obtain ⟨c2, r2, m2, q1, q2, q3, q4, kP, hkP, hkPi⟩ := Cond.selects_spec hsel
  cases hcls.symm.trans q1
  cases (State.methodFound?_of_named hnamed hy).symm.trans q2
  cases hnamed.symm.trans q3
  have hselP : selectMethod e.platform s.vm cellB.cls mk = .method mk := by rw [Launch.admits_selectMethod X.admits]; exact q4
  obtain ⟨vm₁, X₁, hstep₁⟩ := X.invokevirtualNest hexec hown hlink hnamed hmethM hstM hkP hkPi hy (a := b) (cell := cellB) hcell
    (fun z h => by rw [h] at hobj; cases hobj) hselP hmethM habM hkP hkPi (g := g) hg (argsL := argsL) (rest := rest) (hlen _ hsigM) hstack hdg
  rcases hK m meth c ⟨T.setVm vm₁, locs, cells, slots⟩ { g with stack := rest } (.invokevirtual index) mk (Value.ref b :: argsL).toArray X₁ hg hsize hdg hW (X₁.named hnamed) (hpre vm₁ X₁.warmed) with ⟨v, B, X', hpost, hsteps⟩ | ⟨q, B, X', hpost, hsteps⟩
  · exact Or.inl ⟨v, vm₁, B, X₁.warmed, X', hpost, fun target h => hstep₁ _ fun acts => by rw [doInvoke_state]; exact hsteps.trans h⟩
  · exact Or.inr ⟨q, vm₁, B, X₁.warmed, X', hpost, hstep₁ _ fun acts => by rw [doInvoke_state]; exact hsteps⟩
theorem vx_callSN (X : Stand p l e R s m args below meth c T locs cells slots) (hexec : p.tables.exec = Jvm.exec) {own : String} {index : Nat} {host : String} {y : MethodName} {bytes : ByteArray} {maxL : Nat} {ret : Option FieldType}
    (hown : s.vm.findClass own = some m.cls) (hlink : (Cond.methodLinkNest own index y host).before args s = true) (hstat : (Cond.static y).before args s = true) (hinit : (Cond.initialized y.cls).before args s = true)
    (hcode : (Cond.code y bytes maxL ret).before args s = true) (hy : y.cls ≠ "java/lang/invoke/MethodHandle" ∧ y.cls ≠ "java/lang/invoke/VarHandle")
    {W : Nat} {Pre : Pt → Array Value → Prop} {Post : Pt → Array Value → Option Value → Pt → Prop} {PostX : Pt → Array Value → Addr → Pt → Prop} (hK : vx_Back l R p e below s args y 3 W Pre Post PostX)
    {g : JFrame} (hg : g.method = m) (hsize : g.locals.size = c.maxLocals) {argsL rest : List Value} (hlen : ∀ sig, parseMethodDescriptor y.desc = some sig → argsL.length = sig.parameters.length)
    (hstack : g.stack = argsL.reverse ++ rest) (hW : 2 * g.monitorRoom + (rest.map fun v => v.category).sum ≤ W) (hdg : decode c.code g.pc = .ok (.invokestatic index, 3))
    (hpre : ∀ vm₁, s.WarmedH vm₁ → Pre ⟨T.setVm vm₁, locs, cells, slots⟩ argsL.toArray) :
    (∃ (v : Option Value) (vm₁ : Vm) (B : Pt), s.WarmedH vm₁ ∧ Stand p l e R s m args below meth c B.U B.locs B.cells B.slots ∧ Post ⟨T.setVm vm₁, locs, cells, slots⟩ argsL.toArray v B ∧
      ∀ target, Steps p.tables e below (B.U.setTop { g with pc := g.pc + 3, stack := v.toList ++ rest }) target → Steps p.tables e below (T.setTop g) target) ∨
    (∃ (q : Addr) (vm₁ : Vm) (B : Pt), s.WarmedH vm₁ ∧ Stand p l e R s m args below meth c B.U B.locs B.cells B.slots ∧ PostX ⟨T.setVm vm₁, locs, cells, slots⟩ argsL.toArray q B ∧
      Steps p.tables e below (T.setTop g) ((B.U.setTop { g with stack := rest }).pushFrame (.throwing q))) := by
  obtain ⟨mk, hnamed⟩ := Cond.code_named hcode
  obtain ⟨methM, cM, hmethM, -, -, -, -, -, -, hsigM⟩ := Cond.code_spec hnamed hcode
  have hstatic : methM.isStatic = true := Cond.static_spec hnamed hmethM hstat
  obtain ⟨kP, hkP, -⟩ := className_of_methodNamed hnamed
  have hinitP : kP.init = .initialized := Cond.initialized_spec (findClass_of_methodNamed hnamed) hkP hinit
  obtain ⟨vm₁, X₁, hstep₁⟩ := X.invokestaticNest hexec hown hlink hnamed hmethM hstatic hkP hinitP hy (g := g) hg (argsL := argsL) (rest := rest) (hlen _ hsigM) hstack hdg
  rcases hK m meth c ⟨T.setVm vm₁, locs, cells, slots⟩ { g with stack := rest } (.invokestatic index) mk argsL.toArray X₁ hg hsize hdg hW (X₁.named hnamed) (hpre vm₁ X₁.warmed) with ⟨v, B, X', hpost, hsteps⟩ | ⟨q, B, X', hpost, hsteps⟩
  · exact Or.inl ⟨v, vm₁, B, X₁.warmed, X', hpost, fun target h => hstep₁ _ fun acts => by rw [doInvoke_state]; exact hsteps.trans h⟩
  · exact Or.inr ⟨q, vm₁, B, X₁.warmed, X', hpost, hstep₁ _ fun acts => by rw [doInvoke_state]; exact hsteps⟩
theorem vx_runVN {y : MethodName} {bytes cc : ByteArray} {maxL nL mc ms n index : Nat} {ret : Option FieldType} {ws : List Cond} {rm : Room} {Pc : Array Value → State → Prop} {Qc : Array Value → State → Outcome → State → Prop} {XC : String → State → State → Prop} {free : Addr → Prop} {Ts : List Cond} {own C host : String} {b : Addr} {As rest : List Value} {g : JFrame}
    (S : CallFix p m c cc nL s args Ts own) (hM : vx_Met l y ws rm Pc Qc XC mc ms free) (cw : va_CN R s args own index y host bytes maxL ret ws rm mc ms n ∧ (Cond.instanceMethod y).before args s = true ∧ (Cond.selects C y y).before args s = true) (hp : PreV s H C b Pc As)
    (hg : g.method = m) (hn : As.length = n) (hsize : g.locals.size = nL) (hstack : g.stack = As.reverse ++ .ref b :: rest) (hW : 2 * g.monitorRoom + (rest.map fun v => v.category).sum ≤ 8) (hdg : decode cc g.pc = .ok (.invokevirtual index, 3)) (hf : cells + mc ≤ R.cells ∧ slots + ms ≤ R.slots) :
    vx_Run p l e R s m args below meth c H locs cells slots mc ms g rest (Qc (Value.ref b :: As).toArray) XC free := by
  obtain ⟨⟨⟨hrc, hrs, hfr, hlo, hws, hcw⟩, hcode, hini, hy, hlen, hl⟩, hx1, hx2⟩ := cw
  have hK : vx_Back l R p e below s args y 3 8 (PreOf R mc ms Pc) (PostOf Qc mc ms free) (vx_Post XC mc ms free) := vx_back (bytes := bytes) (maxL := maxL) (ret := ret) hM hp.1 hrc hrs hfr hlo hws hcw (fun a' U hW => word_at hW (Or.inl (by first | rfl | simp [Cond.onTables, Cond.keeps, Cond.steady])) hini)
  obtain ⟨hx, hb, hml, ho, -⟩ := S
  obtain ⟨-, ⟨cellB, hcB, hoB, hclB⟩, hPc⟩ := hp
  intro T hT X
  rcases vx_callVN X hx (C := C) (bytes := bytes) (maxL := maxL) (ret := ret) ho hl hx1 hx2 hcode hy hK (by rw [hT]; exact hcB) hoB hclB hg (hsize.trans hml.symm) (argsL := As) (rest := rest) (fun sig h => hn.trans (hlen sig h)) hstack hW (by rw [hb]; exact hdg)
    (fun vm₁ hW₁ => ⟨hf.1, hf.2, hPc (T.setVm vm₁) hT hW₁⟩) with ⟨v, vm₁, ⟨U', l2, c2, s2⟩, hW₁, X', ⟨g', mk, t, L, e1, e2, hq, h1, hL, h2, h3⟩, st⟩ | ⟨q, vm₁, ⟨U', l2, c2, s2⟩, hW₁, X', ⟨g', mk, t, L, E, ce, e1, e2, hq, hce, hcv, hcl, h1, hL, h2, h3⟩, st⟩
  · dsimp only [Pt.U, Pt.locs, Pt.cells, Pt.slots] at X' e1 e2 h1 h2 h3 st
    subst h1; subst h2; subst h3
    exact Or.inl ⟨v, (T.setVm vm₁).calling g' mk (Value.ref b :: As).toArray, t, U', L, hT, X', hL, e1, e2, hq, st⟩
  · dsimp only [Pt.U, Pt.locs, Pt.cells, Pt.slots] at X' e1 e2 h1 h2 h3 st hcl
    subst h1; subst h2; subst h3
    exact Or.inr ⟨q, (T.setVm vm₁).calling g' mk (Value.ref b :: As).toArray, t, U', L, E, ce, hT, X', hL, e1, e2, hq, hce, hcv, vx_cls hW₁ hcl, st⟩
theorem vx_runSN {y : MethodName} {bytes cc : ByteArray} {maxL nL mc ms n index : Nat} {ret : Option FieldType} {ws : List Cond} {rm : Room} {Pc : Array Value → State → Prop} {Qc : Array Value → State → Outcome → State → Prop} {XC : String → State → State → Prop} {free : Addr → Prop} {Ts : List Cond} {own host : String} {As rest : List Value} {g : JFrame}
    (S : CallFix p m c cc nL s args Ts own) (hM : vx_Met l y ws rm Pc Qc XC mc ms free) (cw : va_CN R s args own index y host bytes maxL ret ws rm mc ms n ∧ (Cond.static y).before args s = true ∧ True) (hp : PreS s H Pc As)
    (hg : g.method = m) (hn : As.length = n) (hsize : g.locals.size = nL) (hstack : g.stack = As.reverse ++ rest) (hW : 2 * g.monitorRoom + (rest.map fun v => v.category).sum ≤ 8) (hdg : decode cc g.pc = .ok (.invokestatic index, 3)) (hf : cells + mc ≤ R.cells ∧ slots + ms ≤ R.slots) :
    vx_Run p l e R s m args below meth c H locs cells slots mc ms g rest (Qc As.toArray) XC free := by
  obtain ⟨⟨⟨hrc, hrs, hfr, hlo, hws, hcw⟩, hcode, hini, hy, hlen, hl⟩, hx1, hx2⟩ := cw
  have hK : vx_Back l R p e below s args y 3 8 (PreOf R mc ms Pc) (PostOf Qc mc ms free) (vx_Post XC mc ms free) := vx_back (bytes := bytes) (maxL := maxL) (ret := ret) hM hp.1 hrc hrs hfr hlo hws hcw (fun a' U hW => word_at hW (Or.inl (by first | rfl | simp [Cond.onTables, Cond.keeps, Cond.steady])) hini)
  obtain ⟨hx, hb, hml, ho, -⟩ := S
  have hPc := hp.2
  intro T hT X
  rcases vx_callSN X hx (bytes := bytes) (maxL := maxL) (ret := ret) ho hl hx1 hini hcode hy hK hg (hsize.trans hml.symm) (argsL := As) (rest := rest) (fun sig h => hn.trans (hlen sig h)) hstack hW (by rw [hb]; exact hdg)
    (fun vm₁ hW₁ => ⟨hf.1, hf.2, hPc (T.setVm vm₁) hT hW₁⟩) with ⟨v, vm₁, ⟨U', l2, c2, s2⟩, hW₁, X', ⟨g', mk, t, L, e1, e2, hq, h1, hL, h2, h3⟩, st⟩ | ⟨q, vm₁, ⟨U', l2, c2, s2⟩, hW₁, X', ⟨g', mk, t, L, E, ce, e1, e2, hq, hce, hcv, hcl, h1, hL, h2, h3⟩, st⟩
  · dsimp only [Pt.U, Pt.locs, Pt.cells, Pt.slots] at X' e1 e2 h1 h2 h3 st
    subst h1; subst h2; subst h3
    exact Or.inl ⟨v, (T.setVm vm₁).calling g' mk As.toArray, t, U', L, hT, X', hL, e1, e2, hq, st⟩
  · dsimp only [Pt.U, Pt.locs, Pt.cells, Pt.slots] at X' e1 e2 h1 h2 h3 st hcl
    subst h1; subst h2; subst h3
    exact Or.inr ⟨q, (T.setVm vm₁).calling g' mk As.toArray, t, U', L, E, ce, hT, X', hL, e1, e2, hq, hce, hcv, vx_cls hW₁ hcl, st⟩
end
end
section
/-! the program as tables: printed by gen_tables.py out of the printed claim; method numbers: see MAP.txt -/
abbrev Ent : Type := Jvm.ClassFile.Instr × (Nat × (Nat × (Nat × (Nat × Int))))
abbrev inR (z : Int) : Prop := -2147483648 ≤ z ∧ z < 2147483648
def lcT : List Nat := [8, 0, 101, 2, 101, 6, 101, 101, 101, 101, 101, 101, 6, 101, 101, 101, 101, 101, 101, 4, 1, 101, 101, 102, 102, 101, 101, 102, 101, 101, 4, 1, 101, 101, 102, 102, 101, 101, 102, 101, 101, 7, 101, 101, 3, 102, 5, 101, 101, 102, 101, 101, 101, 9, 101, 101, 101, 101, 101, 101, 101, 101, 102, 102, 101, 101, 101, 101, 101, 101, 101, 101, 101, 101, 101, 102, 101, 102, 103, 104]
def lnT : List Nat := [0, 0, 80, 0, 12, 0, 48, 4, 48, 48, 48, 5, 0, 48, 4, 48, 48, 48, 5, 0, 0, 31, 5, 456, 456, 152, 152, 44, 1936, 1936, 0, 0, 31, 5, 456, 456, 152, 152, 44, 1936, 1936, 0, 68, 68, 0, 44, 0, 809, 809, 44, 6, 6, 6, 0, 60, 60, 60, 60, 5, 80, 32, 32, 456, 456, 1936, 1936, 120, 120, 200, 200, 1412, 1412, 6, 6, 6, 44, 200, 1, 1, 0]
def rfT : List (List Nat) := [[1, 3, 5, 12, 19, 30, 41, 44, 46, 0, 0], [2, 0, 0, 0], [], [4, 0, 0, 0], [], [6, 7, 0, 8, 9, 10, 11, 0], [], [], [], [], [], [], [13, 14, 0, 15, 16, 17, 18, 0], [], [], [], [], [], [], [20, 23, 24, 25, 26, 27, 28, 29, 0, 0, 0, 0, 0], [21, 22, 0, 0], [], [], [], [], [], [], [], [], [], [31, 34, 35, 36, 37, 38, 39, 40, 0, 0, 0, 0, 0], [32, 33, 0, 0], [], [], [], [], [], [], [], [], [], [42, 43, 0], [], [], [45], [], [47, 48, 49, 50, 51, 52, 0, 0, 0, 0, 0], [], [], [], [], [], [], [0, 54, 55, 56, 57, 58, 0, 59, 0, 0, 0, 0, 0, 0, 60, 61, 0, 62, 63, 0, 0, 64, 65, 0, 66, 67, 68, 69, 0, 0, 70, 71, 72, 73, 74, 75, 0, 0, 0, 0, 0, 76, 0, 0, 0], [], [], [], [], [], [], [], [], [], [], [], [], [], [], [], [], [], [], [], [], [], [], [], [], [], []]
def fkT : List (List Nat) := [[2, 0, 0, 0], [2, 2, 0, 0], [2, 0, 0, 0], [2], [2, 2, 2, 2, 2, 2, 2, 2, 1, 0, 0, 0, 0], [2, 2, 2, 2, 2, 2, 0, 0, 0, 0, 0], [2, 2, 0, 2, 2, 2, 2, 0], [2, 2, 1], [2, 2, 2, 2, 2, 2, 2, 2, 2, 0, 1], [0, 2, 2, 2, 2, 2, 0, 2, 0, 0, 0, 0, 0, 0, 2, 2, 0, 2, 2, 1, 1, 2, 2, 0, 2, 2, 2, 2, 0, 0, 2, 2, 2, 2, 2, 2, 0, 0, 0, 0, 0, 2, 1, 1, 0], [], [], []]
def lc (c : Nat) : Nat := lcT.getD c 999
def ln (c : Nat) : Nat := lnT.getD c 0
def rf (c k : Nat) : Nat := (rfT.getD c []).getD k 0
def fk (ci k : Nat) : Nat := (fkT.getD ci []).getD k 9
theorem lc_0 : lc 0 = 8 := rfl
theorem rf_0_0 : rf 0 0 = 1 := rfl
theorem rf_0_1 : rf 0 1 = 3 := rfl
theorem rf_0_2 : rf 0 2 = 5 := rfl
theorem rf_0_3 : rf 0 3 = 12 := rfl
theorem rf_0_4 : rf 0 4 = 19 := rfl
theorem rf_0_5 : rf 0 5 = 30 := rfl
theorem rf_0_6 : rf 0 6 = 41 := rfl
theorem rf_0_7 : rf 0 7 = 44 := rfl
theorem rf_0_8 : rf 0 8 = 46 := rfl
theorem lc_1 : lc 1 = 0 := rfl
theorem rf_1_0 : rf 1 0 = 2 := rfl
theorem lc_2 : lc 2 = 101 := rfl
theorem ln_2 : ln 2 = 80 := rfl
theorem lc_3 : lc 3 = 2 := rfl
theorem rf_3_0 : rf 3 0 = 4 := rfl
theorem lc_4 : lc 4 = 101 := rfl
theorem ln_4 : ln 4 = 12 := rfl
theorem lc_5 : lc 5 = 6 := rfl
theorem rf_5_0 : rf 5 0 = 6 := rfl
theorem rf_5_1 : rf 5 1 = 7 := rfl
theorem rf_5_3 : rf 5 3 = 8 := rfl
theorem rf_5_4 : rf 5 4 = 9 := rfl
theorem rf_5_5 : rf 5 5 = 10 := rfl
theorem rf_5_6 : rf 5 6 = 11 := rfl
theorem lc_6 : lc 6 = 101 := rfl
theorem ln_6 : ln 6 = 48 := rfl
theorem lc_7 : lc 7 = 101 := rfl
theorem ln_7 : ln 7 = 4 := rfl
theorem lc_8 : lc 8 = 101 := rfl
theorem ln_8 : ln 8 = 48 := rfl
theorem lc_9 : lc 9 = 101 := rfl
theorem ln_9 : ln 9 = 48 := rfl
theorem lc_10 : lc 10 = 101 := rfl
theorem ln_10 : ln 10 = 48 := rfl
theorem lc_11 : lc 11 = 101 := rfl
theorem ln_11 : ln 11 = 5 := rfl
theorem lc_12 : lc 12 = 6 := rfl
theorem rf_12_0 : rf 12 0 = 13 := rfl
theorem rf_12_1 : rf 12 1 = 14 := rfl
theorem rf_12_3 : rf 12 3 = 15 := rfl
theorem rf_12_4 : rf 12 4 = 16 := rfl
theorem rf_12_5 : rf 12 5 = 17 := rfl
theorem rf_12_6 : rf 12 6 = 18 := rfl
theorem lc_13 : lc 13 = 101 := rfl
theorem ln_13 : ln 13 = 48 := rfl
theorem lc_14 : lc 14 = 101 := rfl
theorem ln_14 : ln 14 = 4 := rfl
theorem lc_15 : lc 15 = 101 := rfl
theorem ln_15 : ln 15 = 48 := rfl
theorem lc_16 : lc 16 = 101 := rfl
theorem ln_16 : ln 16 = 48 := rfl
theorem lc_17 : lc 17 = 101 := rfl
theorem ln_17 : ln 17 = 48 := rfl
theorem lc_18 : lc 18 = 101 := rfl
theorem ln_18 : ln 18 = 5 := rfl
theorem lc_19 : lc 19 = 4 := rfl
theorem rf_19_0 : rf 19 0 = 20 := rfl
theorem rf_19_1 : rf 19 1 = 23 := rfl
theorem rf_19_2 : rf 19 2 = 24 := rfl
theorem rf_19_3 : rf 19 3 = 25 := rfl
theorem rf_19_4 : rf 19 4 = 26 := rfl
theorem rf_19_5 : rf 19 5 = 27 := rfl
theorem rf_19_6 : rf 19 6 = 28 := rfl
theorem rf_19_7 : rf 19 7 = 29 := rfl
theorem lc_20 : lc 20 = 1 := rfl
theorem rf_20_0 : rf 20 0 = 21 := rfl
theorem rf_20_1 : rf 20 1 = 22 := rfl
theorem lc_21 : lc 21 = 101 := rfl
theorem ln_21 : ln 21 = 31 := rfl
theorem lc_22 : lc 22 = 101 := rfl
theorem ln_22 : ln 22 = 5 := rfl
theorem lc_23 : lc 23 = 102 := rfl
theorem ln_23 : ln 23 = 456 := rfl
theorem lc_24 : lc 24 = 102 := rfl
theorem ln_24 : ln 24 = 456 := rfl
theorem lc_25 : lc 25 = 101 := rfl
theorem ln_25 : ln 25 = 152 := rfl
theorem lc_26 : lc 26 = 101 := rfl
theorem ln_26 : ln 26 = 152 := rfl
theorem lc_27 : lc 27 = 102 := rfl
theorem ln_27 : ln 27 = 44 := rfl
theorem lc_28 : lc 28 = 101 := rfl
theorem ln_28 : ln 28 = 1936 := rfl
theorem lc_29 : lc 29 = 101 := rfl
theorem ln_29 : ln 29 = 1936 := rfl
theorem lc_30 : lc 30 = 4 := rfl
theorem rf_30_0 : rf 30 0 = 31 := rfl
theorem rf_30_1 : rf 30 1 = 34 := rfl
theorem rf_30_2 : rf 30 2 = 35 := rfl
theorem rf_30_3 : rf 30 3 = 36 := rfl
theorem rf_30_4 : rf 30 4 = 37 := rfl
theorem rf_30_5 : rf 30 5 = 38 := rfl
theorem rf_30_6 : rf 30 6 = 39 := rfl
theorem rf_30_7 : rf 30 7 = 40 := rfl
theorem lc_31 : lc 31 = 1 := rfl
theorem rf_31_0 : rf 31 0 = 32 := rfl
theorem rf_31_1 : rf 31 1 = 33 := rfl
theorem lc_32 : lc 32 = 101 := rfl
theorem ln_32 : ln 32 = 31 := rfl
theorem lc_33 : lc 33 = 101 := rfl
theorem ln_33 : ln 33 = 5 := rfl
theorem lc_34 : lc 34 = 102 := rfl
theorem ln_34 : ln 34 = 456 := rfl
theorem lc_35 : lc 35 = 102 := rfl
theorem ln_35 : ln 35 = 456 := rfl
theorem lc_36 : lc 36 = 101 := rfl
theorem ln_36 : ln 36 = 152 := rfl
theorem lc_37 : lc 37 = 101 := rfl
theorem ln_37 : ln 37 = 152 := rfl
theorem lc_38 : lc 38 = 102 := rfl
theorem ln_38 : ln 38 = 44 := rfl
theorem lc_39 : lc 39 = 101 := rfl
theorem ln_39 : ln 39 = 1936 := rfl
theorem lc_40 : lc 40 = 101 := rfl
theorem ln_40 : ln 40 = 1936 := rfl
theorem lc_41 : lc 41 = 7 := rfl
theorem rf_41_0 : rf 41 0 = 42 := rfl
theorem rf_41_1 : rf 41 1 = 43 := rfl
theorem lc_42 : lc 42 = 101 := rfl
theorem ln_42 : ln 42 = 68 := rfl
theorem lc_43 : lc 43 = 101 := rfl
theorem ln_43 : ln 43 = 68 := rfl
theorem lc_44 : lc 44 = 3 := rfl
theorem rf_44_0 : rf 44 0 = 45 := rfl
theorem lc_45 : lc 45 = 102 := rfl
theorem ln_45 : ln 45 = 44 := rfl
theorem lc_46 : lc 46 = 5 := rfl
theorem rf_46_0 : rf 46 0 = 47 := rfl
theorem rf_46_1 : rf 46 1 = 48 := rfl
theorem rf_46_2 : rf 46 2 = 49 := rfl
theorem rf_46_3 : rf 46 3 = 50 := rfl
theorem rf_46_4 : rf 46 4 = 51 := rfl
theorem rf_46_5 : rf 46 5 = 52 := rfl
theorem lc_47 : lc 47 = 101 := rfl
theorem ln_47 : ln 47 = 809 := rfl
theorem lc_48 : lc 48 = 101 := rfl
theorem ln_48 : ln 48 = 809 := rfl
theorem lc_49 : lc 49 = 102 := rfl
theorem ln_49 : ln 49 = 44 := rfl
theorem lc_50 : lc 50 = 101 := rfl
theorem ln_50 : ln 50 = 6 := rfl
theorem lc_51 : lc 51 = 101 := rfl
theorem ln_51 : ln 51 = 6 := rfl
theorem lc_52 : lc 52 = 101 := rfl
theorem ln_52 : ln 52 = 6 := rfl
theorem lc_53 : lc 53 = 9 := rfl
theorem rf_53_1 : rf 53 1 = 54 := rfl
theorem rf_53_2 : rf 53 2 = 55 := rfl
theorem rf_53_3 : rf 53 3 = 56 := rfl
theorem rf_53_4 : rf 53 4 = 57 := rfl
theorem rf_53_5 : rf 53 5 = 58 := rfl
theorem rf_53_7 : rf 53 7 = 59 := rfl
theorem rf_53_14 : rf 53 14 = 60 := rfl
theorem rf_53_15 : rf 53 15 = 61 := rfl
theorem rf_53_17 : rf 53 17 = 62 := rfl
theorem rf_53_18 : rf 53 18 = 63 := rfl
theorem rf_53_21 : rf 53 21 = 64 := rfl
theorem rf_53_22 : rf 53 22 = 65 := rfl
theorem rf_53_24 : rf 53 24 = 66 := rfl
theorem rf_53_25 : rf 53 25 = 67 := rfl
theorem rf_53_26 : rf 53 26 = 68 := rfl
theorem rf_53_27 : rf 53 27 = 69 := rfl
theorem rf_53_30 : rf 53 30 = 70 := rfl
theorem rf_53_31 : rf 53 31 = 71 := rfl
theorem rf_53_32 : rf 53 32 = 72 := rfl
theorem rf_53_33 : rf 53 33 = 73 := rfl
theorem rf_53_34 : rf 53 34 = 74 := rfl
theorem rf_53_35 : rf 53 35 = 75 := rfl
theorem rf_53_41 : rf 53 41 = 76 := rfl
theorem lc_54 : lc 54 = 101 := rfl
theorem ln_54 : ln 54 = 60 := rfl
theorem lc_55 : lc 55 = 101 := rfl
theorem ln_55 : ln 55 = 60 := rfl
theorem lc_56 : lc 56 = 101 := rfl
theorem ln_56 : ln 56 = 60 := rfl
theorem lc_57 : lc 57 = 101 := rfl
theorem ln_57 : ln 57 = 60 := rfl
theorem lc_58 : lc 58 = 101 := rfl
theorem ln_58 : ln 58 = 5 := rfl
theorem lc_59 : lc 59 = 101 := rfl
theorem ln_59 : ln 59 = 80 := rfl
theorem lc_60 : lc 60 = 101 := rfl
theorem ln_60 : ln 60 = 32 := rfl
theorem lc_61 : lc 61 = 101 := rfl
theorem ln_61 : ln 61 = 32 := rfl
theorem lc_62 : lc 62 = 102 := rfl
theorem ln_62 : ln 62 = 456 := rfl
theorem lc_63 : lc 63 = 102 := rfl
theorem ln_63 : ln 63 = 456 := rfl
theorem lc_64 : lc 64 = 101 := rfl
theorem ln_64 : ln 64 = 1936 := rfl
theorem lc_65 : lc 65 = 101 := rfl
theorem ln_65 : ln 65 = 1936 := rfl
theorem lc_66 : lc 66 = 101 := rfl
theorem ln_66 : ln 66 = 120 := rfl
theorem lc_67 : lc 67 = 101 := rfl
theorem ln_67 : ln 67 = 120 := rfl
theorem lc_68 : lc 68 = 101 := rfl
theorem ln_68 : ln 68 = 200 := rfl
theorem lc_69 : lc 69 = 101 := rfl
theorem ln_69 : ln 69 = 200 := rfl
theorem lc_70 : lc 70 = 101 := rfl
theorem ln_70 : ln 70 = 1412 := rfl
theorem lc_71 : lc 71 = 101 := rfl
theorem ln_71 : ln 71 = 1412 := rfl
theorem lc_72 : lc 72 = 101 := rfl
theorem ln_72 : ln 72 = 6 := rfl
theorem lc_73 : lc 73 = 101 := rfl
theorem ln_73 : ln 73 = 6 := rfl
theorem lc_74 : lc 74 = 101 := rfl
theorem ln_74 : ln 74 = 6 := rfl
theorem lc_75 : lc 75 = 102 := rfl
theorem ln_75 : ln 75 = 44 := rfl
theorem lc_76 : lc 76 = 101 := rfl
theorem ln_76 : ln 76 = 200 := rfl
theorem lc_77 : lc 77 = 102 := rfl
theorem ln_77 : ln 77 = 1 := rfl
theorem lc_78 : lc 78 = 103 := rfl
theorem ln_78 : ln 78 = 1 := rfl
theorem lc_79 : lc 79 = 104 := rfl
theorem ln_79 : ln 79 = 0 := rfl
def lkp : List (Nat × Ent) → Nat → Option Ent
  | [], _ => none
  | e :: r, q => bif Nat.beq e.1 q then some e.2 else lkp r q
def k_0 : List (Nat × Ent) := [(0, (.aload_n 0, 1, 0, 0, 0, 0)), (1, (.getfield 15, 3, 1, 0, 0, 0)), (4, (.bipush 80, 2, 0, 0, 0, 0)), (6, (.if_icmp .lt 7, 3, 13, 0, 0, 0)), (9, (.iconst 1, 1, 0, 0, 0, 0)), (10, (.goto 4, 3, 14, 0, 0, 0)), (13, (.iconst 0, 1, 0, 0, 0, 0)), (14, (.ireturn, 1, 1, 0, 0, 0))]
def kk_0 (q : Nat) : Option Ent := lkp k_0 q
def k_1 : List (Nat × Ent) := [(0, (.aload_n 0, 1, 0, 0, 0, 0)), (1, (.getfield 11, 3, 0, 0, 2, 0)), (4, (.aload_n 0, 1, 0, 0, 0, 0)), (5, (.getfield 15, 3, 1, 0, 0, 0)), (8, (.iload_n 1, 1, 0, 0, 0, 0)), (9, (.invokestatic 19, 3, 98, 3, 10, 0)), (12, (.aload_n 0, 1, 0, 0, 0, 0)), (13, (.dup, 1, 0, 0, 0, 0)), (14, (.getfield 15, 3, 1, 0, 0, 0)), (17, (.iconst 1, 1, 0, 0, 0, 0)), (18, (.iadd, 1, 0, 0, 0, 0)), (19, (.putfield 15, 3, 1, 0, 0, 0)), (22, (.aload_n 0, 1, 0, 0, 0, 0)), (23, (.getfield 15, 3, 1, 0, 0, 0)), (26, (.ireturn, 1, 0, 0, 0, 0))]
def kk_1 (q : Nat) : Option Ent := lkp k_1 q
def k_2 : List (Nat × Ent) := [(0, (.aload_n 0, 1, 0, 0, 0, 0)), (1, (.iconst 0, 1, 0, 0, 0, 0)), (2, (.putfield 15, 3, 1, 0, 0, 0)), (5, (.return_, 1, 0, 0, 0, 0))]
def kk_2 (q : Nat) : Option Ent := lkp k_2 q
def k_3 : List (Nat × Ent) := [(0, (.aload_n 0, 1, 0, 0, 0, 0)), (1, (.iload_n 1, 1, 0, 0, 0, 0)), (2, (.invokestatic 25, 3, 168, 1, 8, 0)), (5, (.putfield 29, 3, 3, 0, 0, 0)), (8, (.aload_n 0, 1, 0, 0, 0, 0)), (9, (.iconst 0, 1, 0, 0, 0, 0)), (10, (.putfield 32, 3, 2, 0, 0, 0)), (13, (.aload_n 2, 1, 0, 0, 0, 0)), (14, (.invokevirtual 35, 3, 30, 1, 2, 0)), (17, (.aload_n 0, 1, 0, 0, 0, 0)), (18, (.getfield 15, 3, 1, 0, 0, 0)), (21, (.ifCond .ne 5, 3, 26, 0, 0, 0)), (24, (.iconst (-1), 1, 0, 0, 0, 0)), (25, (.ireturn, 1, 0, 0, 0, 0)), (26, (.iconst 0, 1, 0, 0, 0, 0)), (27, (.istore_n 3, 1, 0, 0, 0, 0)), (28, (.iload_n 3, 1, 0, 0, 0, 0)), (29, (.bipush 80, 2, 0, 0, 0, 0)), (31, (.if_icmp .ge 49, 3, 80, 0, 0, 0)), (34, (.aload_n 0, 1, 0, 0, 0, 0)), (35, (.aload_n 2, 1, 0, 0, 0, 0)), (36, (.invokevirtual 40, 3, 4, 2, 0, 0)), (39, (.ifCond .ne 8, 3, 47, 0, 0, 0)), (42, (.aload_n 0, 1, 0, 0, 0, 0)), (43, (.getfield 32, 3, 2, 0, 0, 0)), (46, (.ireturn, 1, 0, 0, 0, 0)), (47, (.aload_n 0, 1, 0, 0, 0, 0)), (48, (.getfield 32, 3, 2, 0, 0, 0)), (51, (.aload_n 0, 1, 0, 0, 0, 0)), (52, (.getfield 15, 3, 1, 0, 0, 0)), (55, (.if_icmp .ne 5, 3, 60, 0, 0, 0)), (58, (.iconst (-1), 1, 0, 0, 0, 0)), (59, (.ireturn, 1, 0, 0, 0, 0)), (60, (.aload_n 0, 1, 0, 0, 0, 0)), (61, (.bipush 59, 2, 0, 0, 0, 0)), (63, (.invokevirtual 44, 3, 9, 2, 0, 0)), (66, (.ifCond .ne 8, 3, 74, 0, 0, 0)), (69, (.aload_n 0, 1, 0, 0, 0, 0)), (70, (.getfield 32, 3, 2, 0, 0, 0)), (73, (.ireturn, 1, 0, 0, 0, 0)), (74, (.iinc 3 1, 3, 0, 0, 0, 0)), (77, (.goto (-49), 3, 28, 0, 0, 0)), (80, (.aload_n 0, 1, 0, 0, 0, 0)), (81, (.getfield 32, 3, 2, 0, 0, 0)), (84, (.ireturn, 1, 0, 0, 0, 0))]
def kk_3 (q : Nat) : Option Ent := lkp k_3 q
def k_4 : List (Nat × Ent) := [(0, (.aload_n 0, 1, 0, 0, 0, 0)), (1, (.bipush 42, 2, 0, 0, 0, 0)), (3, (.invokevirtual 44, 3, 9, 2, 0, 0)), (6, (.ifCond .eq 9, 3, 15, 0, 0, 0)), (9, (.aload_n 0, 1, 0, 0, 0, 0)), (10, (.aload_n 1, 1, 0, 0, 0, 0)), (11, (.invokevirtual 48, 3, 5, 2, 0, 0)), (14, (.ireturn, 1, 1, 0, 0, 0)), (15, (.aload_n 0, 1, 0, 0, 0, 0)), (16, (.invokevirtual 51, 3, 11, 1, 0, 0)), (19, (.istore_n 2, 1, 0, 0, 0, 0)), (20, (.iload_n 2, 1, 0, 0, 0, 0)), (21, (.ifCond .lt 12, 3, 33, 0, 0, 0)), (24, (.aload_n 0, 1, 0, 0, 0, 0)), (25, (.bipush 61, 2, 0, 0, 0, 0)), (27, (.invokevirtual 44, 3, 9, 2, 0, 0)), (30, (.ifCond .ne 5, 3, 35, 0, 0, 0)), (33, (.iconst 0, 1, 0, 0, 0, 0)), (34, (.ireturn, 1, 1, 0, 0, 0)), (35, (.aload_n 0, 1, 0, 0, 0, 0)), (36, (.bipush 38, 2, 0, 0, 0, 0)), (38, (.invokevirtual 44, 3, 9, 2, 0, 0)), (41, (.ifCond .eq 11, 3, 52, 0, 0, 0)), (44, (.aload_n 0, 1, 0, 0, 0, 0)), (45, (.aload_n 1, 1, 0, 0, 0, 0)), (46, (.iconst 0, 1, 0, 0, 0, 0)), (47, (.iload_n 2, 1, 0, 0, 0, 0)), (48, (.invokevirtual 55, 3, 6, 4, 0, 0)), (51, (.ireturn, 1, 1, 0, 0, 0)), (52, (.aload_n 0, 1, 0, 0, 0, 0)), (53, (.bipush 42, 2, 0, 0, 0, 0)), (55, (.invokevirtual 44, 3, 9, 2, 0, 0)), (58, (.ifCond .eq 11, 3, 69, 0, 0, 0)), (61, (.aload_n 0, 1, 0, 0, 0, 0)), (62, (.aload_n 1, 1, 0, 0, 0, 0)), (63, (.iconst 2, 1, 0, 0, 0, 0)), (64, (.iload_n 2, 1, 0, 0, 0, 0)), (65, (.invokevirtual 55, 3, 6, 4, 0, 0)), (68, (.ireturn, 1, 1, 0, 0, 0)), (69, (.aload_n 0, 1, 0, 0, 0, 0)), (70, (.bipush 110, 2, 0, 0, 0, 0)), (72, (.invokevirtual 44, 3, 9, 2, 0, 0)), (75, (.ifCond .eq 38, 3, 113, 0, 0, 0)), (78, (.aload_n 0, 1, 0, 0, 0, 0)), (79, (.bipush 101, 2, 0, 0, 0, 0)), (81, (.invokevirtual 44, 3, 9, 2, 0, 0)), (84, (.ifCond .eq 27, 3, 111, 0, 0, 0)), (87, (.aload_n 0, 1, 0, 0, 0, 0)), (88, (.bipush 119, 2, 0, 0, 0, 0)), (90, (.invokevirtual 44, 3, 9, 2, 0, 0)), (93, (.ifCond .eq 18, 3, 111, 0, 0, 0)), (96, (.aload_n 1, 1, 0, 0, 0, 0)), (97, (.iconst 4, 1, 0, 0, 0, 0)), (98, (.iload_n 2, 1, 0, 0, 0, 0)), (99, (.iconst 0, 1, 0, 0, 0, 0)), (100, (.iconst 0, 1, 0, 0, 0, 0)), (101, (.invokevirtual 59, 3, 31, 5, 2, 0)), (104, (.ifCond .eq 7, 3, 111, 0, 0, 0)), (107, (.iconst 1, 1, 0, 0, 0, 0)), (108, (.goto 4, 3, 112, 0, 0, 0)), (111, (.iconst 0, 1, 0, 0, 0, 0)), (112, (.ireturn, 1, 1, 0, 0, 0)), (113, (.aload_n 0, 1, 0, 0, 0, 0)), (114, (.bipush 102, 2, 0, 0, 0, 0)), (116, (.invokevirtual 44, 3, 9, 2, 0, 0)), (119, (.ifCond .eq 10, 3, 129, 0, 0, 0)), (122, (.aload_n 0, 1, 0, 0, 0, 0)), (123, (.aload_n 1, 1, 0, 0, 0, 0)), (124, (.iload_n 2, 1, 0, 0, 0, 0)), (125, (.invokevirtual 63, 3, 7, 3, 0, 0)), (128, (.ireturn, 1, 1, 0, 0, 0)), (129, (.aload_n 0, 1, 0, 0, 0, 0)), (130, (.aload_n 1, 1, 0, 0, 0, 0)), (131, (.iload_n 2, 1, 0, 0, 0, 0)), (132, (.invokevirtual 67, 3, 8, 3, 0, 0)), (135, (.ireturn, 1, 1, 0, 0, 0))]
def kk_4 (q : Nat) : Option Ent := lkp k_4 q
def k_5 : List (Nat × Ent) := [(0, (.aload_n 0, 1, 0, 0, 0, 0)), (1, (.invokevirtual 51, 3, 11, 1, 0, 0)), (4, (.istore_n 2, 1, 0, 0, 0, 0)), (5, (.iload_n 2, 1, 0, 0, 0, 0)), (6, (.ifCond .lt 26, 3, 32, 0, 0, 0)), (9, (.aload_n 0, 1, 0, 0, 0, 0)), (10, (.bipush 61, 2, 0, 0, 0, 0)), (12, (.invokevirtual 44, 3, 9, 2, 0, 0)), (15, (.ifCond .eq 17, 3, 32, 0, 0, 0)), (18, (.aload_n 0, 1, 0, 0, 0, 0)), (19, (.aload_n 1, 1, 0, 0, 0, 0)), (20, (.iconst 3, 1, 0, 0, 0, 0)), (21, (.iload_n 2, 1, 0, 0, 0, 0)), (22, (.invokevirtual 55, 3, 6, 4, 0, 0)), (25, (.ifCond .eq 7, 3, 32, 0, 0, 0)), (28, (.iconst 1, 1, 0, 0, 0, 0)), (29, (.goto 4, 3, 33, 0, 0, 0)), (32, (.iconst 0, 1, 0, 0, 0, 0)), (33, (.ireturn, 1, 1, 0, 0, 0))]
def kk_5 (q : Nat) : Option Ent := lkp k_5 q
def k_6 : List (Nat × Ent) := [(0, (.aload_n 0, 1, 0, 0, 0, 0)), (1, (.invokevirtual 51, 3, 11, 1, 0, 0)), (4, (.istore 4, 2, 0, 0, 0, 0)), (6, (.iload 4, 2, 0, 0, 0, 0)), (8, (.ifCond .lt 19, 3, 27, 0, 0, 0)), (11, (.aload_n 1, 1, 0, 0, 0, 0)), (12, (.iload_n 2, 1, 0, 0, 0, 0)), (13, (.iload_n 3, 1, 0, 0, 0, 0)), (14, (.iload 4, 2, 0, 0, 0, 0)), (16, (.iconst 0, 1, 0, 0, 0, 0)), (17, (.invokevirtual 59, 3, 31, 5, 2, 0)), (20, (.ifCond .eq 7, 3, 27, 0, 0, 0)), (23, (.iconst 1, 1, 0, 0, 0, 0)), (24, (.goto 4, 3, 28, 0, 0, 0)), (27, (.iconst 0, 1, 0, 0, 0, 0)), (28, (.ireturn, 1, 1, 0, 0, 0))]
def kk_6 (q : Nat) : Option Ent := lkp k_6 q
def k_7 : List (Nat × Ent) := [(0, (.aload_n 0, 1, 0, 0, 0, 0)), (1, (.iconst 3, 1, 0, 0, 0, 0)), (2, (.invokevirtual 70, 3, 10, 2, 0, 0)), (5, (.istore_n 3, 1, 0, 0, 0, 0)), (6, (.iload_n 3, 1, 0, 0, 0, 0)), (7, (.ifCond .lt 12, 3, 19, 0, 0, 0)), (10, (.aload_n 0, 1, 0, 0, 0, 0)), (11, (.bipush 40, 2, 0, 0, 0, 0)), (13, (.invokevirtual 44, 3, 9, 2, 0, 0)), (16, (.ifCond .ne 5, 3, 21, 0, 0, 0)), (19, (.iconst 0, 1, 0, 0, 0, 0)), (20, (.ireturn, 1, 1, 0, 0, 0)), (21, (.aload_n 0, 1, 0, 0, 0, 0)), (22, (.invokevirtual 51, 3, 11, 1, 0, 0)), (25, (.istore 4, 2, 0, 0, 0, 0)), (27, (.iload 4, 2, 0, 0, 0, 0)), (29, (.ifCond .lt 29, 3, 58, 0, 0, 0)), (32, (.aload_n 0, 1, 0, 0, 0, 0)), (33, (.bipush 41, 2, 0, 0, 0, 0)), (35, (.invokevirtual 44, 3, 9, 2, 0, 0)), (38, (.ifCond .eq 20, 3, 58, 0, 0, 0)), (41, (.aload_n 1, 1, 0, 0, 0, 0)), (42, (.bipush 6, 2, 0, 0, 0, 0)), (44, (.iload_n 2, 1, 0, 0, 0, 0)), (45, (.iload 4, 2, 0, 0, 0, 0)), (47, (.iload_n 3, 1, 0, 0, 0, 0)), (48, (.invokevirtual 59, 3, 31, 5, 2, 0)), (51, (.ifCond .eq 7, 3, 58, 0, 0, 0)), (54, (.iconst 1, 1, 0, 0, 0, 0)), (55, (.goto 4, 3, 59, 0, 0, 0)), (58, (.iconst 0, 1, 0, 0, 0, 0)), (59, (.ireturn, 1, 1, 0, 0, 0))]
def kk_7 (q : Nat) : Option Ent := lkp k_7 q
def k_8 : List (Nat × Ent) := [(0, (.aload_n 0, 1, 0, 0, 0, 0)), (1, (.invokevirtual 51, 3, 11, 1, 0, 0)), (4, (.istore_n 3, 1, 0, 0, 0, 0)), (5, (.iload_n 3, 1, 0, 0, 0, 0)), (6, (.ifCond .ge 5, 3, 11, 0, 0, 0)), (9, (.iconst 0, 1, 0, 0, 0, 0)), (10, (.ireturn, 1, 1, 0, 0, 0)), (11, (.aload_n 0, 1, 0, 0, 0, 0)), (12, (.bipush 43, 2, 0, 0, 0, 0)), (14, (.invokevirtual 44, 3, 9, 2, 0, 0)), (17, (.ifCond .ne 12, 3, 29, 0, 0, 0)), (20, (.aload_n 1, 1, 0, 0, 0, 0)), (21, (.iconst 1, 1, 0, 0, 0, 0)), (22, (.iload_n 2, 1, 0, 0, 0, 0)), (23, (.iload_n 3, 1, 0, 0, 0, 0)), (24, (.iconst 0, 1, 0, 0, 0, 0)), (25, (.invokevirtual 59, 3, 31, 5, 2, 0)), (28, (.ireturn, 1, 1, 0, 0, 0)), (29, (.aload_n 0, 1, 0, 0, 0, 0)), (30, (.iconst 2, 1, 0, 0, 0, 0)), (31, (.invokevirtual 70, 3, 10, 2, 0, 0)), (34, (.istore 4, 2, 0, 0, 0, 0)), (36, (.iload 4, 2, 0, 0, 0, 0)), (38, (.ifCond .lt 19, 3, 57, 0, 0, 0)), (41, (.aload_n 1, 1, 0, 0, 0, 0)), (42, (.iconst 5, 1, 0, 0, 0, 0)), (43, (.iload_n 2, 1, 0, 0, 0, 0)), (44, (.iload_n 3, 1, 0, 0, 0, 0)), (45, (.iload 4, 2, 0, 0, 0, 0)), (47, (.invokevirtual 59, 3, 31, 5, 2, 0)), (50, (.ifCond .eq 7, 3, 57, 0, 0, 0)), (53, (.iconst 1, 1, 0, 0, 0, 0)), (54, (.goto 4, 3, 58, 0, 0, 0)), (57, (.iconst 0, 1, 0, 0, 0, 0)), (58, (.ireturn, 1, 1, 0, 0, 0))]
def kk_8 (q : Nat) : Option Ent := lkp k_8 q
def k_9 : List (Nat × Ent) := [(0, (.aload_n 0, 1, 0, 0, 0, 0)), (1, (.invokevirtual 73, 3, 13, 1, 0, 0)), (4, (.iload_n 1, 1, 0, 0, 0, 0)), (5, (.if_icmp .eq 5, 3, 10, 0, 0, 0)), (8, (.iconst 0, 1, 0, 0, 0, 0)), (9, (.ireturn, 1, 1, 0, 0, 0)), (10, (.aload_n 0, 1, 0, 0, 0, 0)), (11, (.dup, 1, 0, 0, 0, 0)), (12, (.getfield 32, 3, 2, 0, 0, 0)), (15, (.iconst 1, 1, 0, 0, 0, 0)), (16, (.iadd, 1, 0, 0, 0, 0)), (17, (.putfield 32, 3, 2, 0, 0, 0)), (20, (.iconst 1, 1, 0, 0, 0, 0)), (21, (.ireturn, 1, 1, 0, 0, 0))]
def kk_9 (q : Nat) : Option Ent := lkp k_9 q
def k_10 : List (Nat × Ent) := [(0, (.aload_n 0, 1, 0, 0, 0, 0)), (1, (.invokevirtual 73, 3, 13, 1, 0, 0)), (4, (.bipush 48, 2, 0, 0, 0, 0)), (6, (.isub, 1, 0, 0, 0, 0)), (7, (.istore_n 2, 1, 0, 0, 0, 0)), (8, (.iload_n 2, 1, 0, 0, 0, 0)), (9, (.ifCond .lt 8, 3, 17, 0, 0, 0)), (12, (.iload_n 2, 1, 0, 0, 0, 0)), (13, (.iload_n 1, 1, 0, 0, 0, 0)), (14, (.if_icmp .le 5, 3, 19, 0, 0, 0)), (17, (.iconst (-1), 1, 0, 0, 0, 0)), (18, (.ireturn, 1, 0, 0, 0, 0)), (19, (.aload_n 0, 1, 0, 0, 0, 0)), (20, (.dup, 1, 0, 0, 0, 0)), (21, (.getfield 32, 3, 2, 0, 0, 0)), (24, (.iconst 1, 1, 0, 0, 0, 0)), (25, (.iadd, 1, 0, 0, 0, 0)), (26, (.putfield 32, 3, 2, 0, 0, 0)), (29, (.iload_n 2, 1, 0, 0, 0, 0)), (30, (.ireturn, 1, 0, 0, 0, 0))]
def kk_10 (q : Nat) : Option Ent := lkp k_10 q
def k_11 : List (Nat × Ent) := [(0, (.aload_n 0, 1, 0, 0, 0, 0)), (1, (.aload_n 0, 1, 0, 0, 0, 0)), (2, (.invokevirtual 73, 3, 13, 1, 0, 0)), (5, (.invokevirtual 76, 3, 12, 2, 0, 0)), (8, (.istore_n 1, 1, 0, 0, 0, 0)), (9, (.iload_n 1, 1, 0, 0, 0, 0)), (10, (.ifCond .lt 13, 3, 23, 0, 0, 0)), (13, (.aload_n 0, 1, 0, 0, 0, 0)), (14, (.dup, 1, 0, 0, 0, 0)), (15, (.getfield 32, 3, 2, 0, 0, 0)), (18, (.iconst 1, 1, 0, 0, 0, 0)), (19, (.iadd, 1, 0, 0, 0, 0)), (20, (.putfield 32, 3, 2, 0, 0, 0)), (23, (.iload_n 1, 1, 0, 0, 0, 0)), (24, (.ireturn, 1, 0, 0, 0, 0))]
def kk_11 (q : Nat) : Option Ent := lkp k_11 q
def k_12 : List (Nat × Ent) := [(0, (.iload_n 1, 1, 0, 0, 0, 0)), (1, (.bipush 97, 2, 0, 0, 0, 0)), (3, (.if_icmp .lt 14, 3, 17, 0, 0, 0)), (6, (.iload_n 1, 1, 0, 0, 0, 0)), (7, (.bipush 100, 2, 0, 0, 0, 0)), (9, (.if_icmp .gt 8, 3, 17, 0, 0, 0)), (12, (.iload_n 1, 1, 0, 0, 0, 0)), (13, (.bipush 97, 2, 0, 0, 0, 0)), (15, (.isub, 1, 0, 0, 0, 0)), (16, (.ireturn, 1, 0, 0, 0, 0)), (17, (.iload_n 1, 1, 0, 0, 0, 0)), (18, (.tableswitch 80 112 121 #[54, 80, 59, 80, 80, 80, 80, 80, 66, 73], 54, 0, 0, 0, 0)), (72, (.aload_n 0, 1, 0, 0, 0, 0)), (73, (.getfield 29, 3, 3, 0, 0, 0)), (76, (.ireturn, 1, 0, 0, 0, 0)), (77, (.aload_n 0, 1, 0, 0, 0, 0)), (78, (.getfield 29, 3, 3, 0, 0, 0)), (81, (.iconst 1, 1, 0, 0, 0, 0)), (82, (.iadd, 1, 0, 0, 0, 0)), (83, (.ireturn, 1, 0, 0, 0, 0)), (84, (.aload_n 0, 1, 0, 0, 0, 0)), (85, (.getfield 29, 3, 3, 0, 0, 0)), (88, (.iconst 2, 1, 0, 0, 0, 0)), (89, (.iadd, 1, 0, 0, 0, 0)), (90, (.ireturn, 1, 0, 0, 0, 0)), (91, (.aload_n 0, 1, 0, 0, 0, 0)), (92, (.getfield 29, 3, 3, 0, 0, 0)), (95, (.iconst 3, 1, 0, 0, 0, 0)), (96, (.iadd, 1, 0, 0, 0, 0)), (97, (.ireturn, 1, 0, 0, 0, 0)), (98, (.iconst (-1), 1, 0, 0, 0, 0)), (99, (.ireturn, 1, 0, 0, 0, 0))]
def kk_12 (q : Nat) : Option Ent := lkp k_12 q
def k_13 : List (Nat × Ent) := [(0, (.aload_n 0, 1, 0, 0, 0, 0)), (1, (.getfield 32, 3, 2, 0, 0, 0)), (4, (.aload_n 0, 1, 0, 0, 0, 0)), (5, (.getfield 15, 3, 1, 0, 0, 0)), (8, (.if_icmp .ge 24, 3, 32, 0, 0, 0)), (11, (.aload_n 0, 1, 0, 0, 0, 0)), (12, (.getfield 32, 3, 2, 0, 0, 0)), (15, (.bipush 80, 2, 0, 0, 0, 0)), (17, (.if_icmp .ge 15, 3, 32, 0, 0, 0)), (20, (.aload_n 0, 1, 0, 0, 0, 0)), (21, (.getfield 11, 3, 0, 0, 2, 0)), (24, (.aload_n 0, 1, 0, 0, 0, 0)), (25, (.getfield 32, 3, 2, 0, 0, 0)), (28, (.iaload, 1, 0, 0, 0, 0)), (29, (.goto 4, 3, 33, 0, 0, 0)), (32, (.iconst (-1), 1, 0, 0, 0, 0)), (33, (.ireturn, 1, 0, 0, 0, 0))]
def kk_13 (q : Nat) : Option Ent := lkp k_13 q
def k_14 : List (Nat × Ent) := [(0, (.aload_n 0, 1, 0, 0, 0, 0)), (1, (.iload_n 2, 1, 0, 0, 0, 0)), (2, (.putfield 18, 3, 3, 1, 0, 0)), (5, (.aload_n 0, 1, 0, 0, 0, 0)), (6, (.iconst 0, 1, 0, 0, 0, 0)), (7, (.putfield 22, 3, 2, 1, 0, 0)), (10, (.aload_n 0, 1, 0, 0, 0, 0)), (11, (.iconst 0, 1, 0, 0, 0, 0)), (12, (.invokevirtual 25, 3, 18, 2, 1, 0)), (15, (.iconst 0, 1, 0, 0, 0, 0)), (16, (.istore_n 3, 1, 0, 0, 0, 0)), (17, (.iload_n 3, 1, 0, 0, 0, 0)), (18, (.bipush 31, 2, 0, 0, 0, 0)), (20, (.if_icmp .ge 30, 3, 50, 0, 0, 0)), (23, (.iload_n 3, 1, 0, 0, 0, 0)), (24, (.aload_n 0, 1, 0, 0, 0, 0)), (25, (.getfield 22, 3, 2, 1, 0, 0)), (28, (.if_icmp .ge 22, 3, 50, 0, 0, 0)), (31, (.aload_n 0, 1, 0, 0, 0, 0)), (32, (.aload_n 1, 1, 0, 0, 0, 0)), (33, (.aload_n 0, 1, 0, 0, 0, 0)), (34, (.getfield 11, 3, 0, 1, 2, 0)), (37, (.iload_n 3, 1, 0, 0, 0, 0)), (38, (.invokestatic 29, 3, 96, 2, 10, 0)), (41, (.invokevirtual 35, 3, 15, 3, 1, 0)), (44, (.iinc 3 1, 3, 0, 0, 0, 0)), (47, (.goto (-30), 3, 17, 0, 0, 0)), (50, (.aload_n 0, 1, 0, 0, 0, 0)), (51, (.invokevirtual 39, 3, 20, 1, 1, 0)), (54, (.iconst 0, 1, 0, 0, 0, 0)), (55, (.istore_n 3, 1, 0, 0, 0, 0)), (56, (.iload_n 3, 1, 0, 0, 0, 0)), (57, (.iconst 4, 1, 0, 0, 0, 0)), (58, (.if_icmp .gt 26, 3, 84, 0, 0, 0)), (61, (.aload_n 0, 1, 0, 0, 0, 0)), (62, (.getfield 15, 3, 1, 1, 2, 0)), (65, (.iload_n 3, 1, 0, 0, 0, 0)), (66, (.aload_n 0, 1, 0, 0, 0, 0)), (67, (.iload_n 3, 1, 0, 0, 0, 0)), (68, (.sipush 2353, 3, 0, 0, 0, 0)), (71, (.imul, 1, 0, 0, 0, 0)), (72, (.invokevirtual 42, 3, 21, 2, 1, 0)), (75, (.invokestatic 46, 3, 98, 3, 10, 0)), (78, (.iinc 3 1, 3, 0, 0, 0, 0)), (81, (.goto (-25), 3, 56, 0, 0, 0)), (84, (.return_, 1, 0, 0, 0, 0))]
def kk_14 (q : Nat) : Option Ent := lkp k_14 q
def k_15 : List (Nat × Ent) := [(0, (.iload_n 2, 1, 0, 0, 0, 0)), (1, (.sipush 2353, 3, 0, 0, 0, 0)), (4, (.idiv, 1, 0, 0, 0, 0)), (5, (.istore_n 3, 1, 0, 0, 0, 0)), (6, (.aload_n 1, 1, 0, 0, 0, 0)), (7, (.iload_n 3, 1, 0, 0, 0, 0)), (8, (.invokevirtual 50, 3, 88, 2, 6, 0)), (11, (.istore 4, 2, 0, 0, 0, 0)), (13, (.iload 4, 2, 0, 0, 0, 0)), (15, (.aload_n 1, 1, 0, 0, 0, 0)), (16, (.iload_n 3, 1, 0, 0, 0, 0)), (17, (.invokevirtual 55, 3, 89, 2, 6, 0)), (20, (.if_icmp .ge 46, 3, 66, 0, 0, 0)), (23, (.aload_n 1, 1, 0, 0, 0, 0)), (24, (.iload 4, 2, 0, 0, 0, 0)), (26, (.invokevirtual 58, 3, 90, 2, 6, 0)), (29, (.bipush 6, 2, 0, 0, 0, 0)), (31, (.if_icmp .ne 29, 3, 60, 0, 0, 0)), (34, (.aload_n 0, 1, 0, 0, 0, 0)), (35, (.aload_n 1, 1, 0, 0, 0, 0)), (36, (.iload 4, 2, 0, 0, 0, 0)), (38, (.invokevirtual 61, 3, 93, 2, 6, 0)), (41, (.sipush 2353, 3, 0, 0, 0, 0)), (44, (.imul, 1, 0, 0, 0, 0)), (45, (.aload_n 0, 1, 0, 0, 0, 0)), (46, (.iload_n 2, 1, 0, 0, 0, 0)), (47, (.sipush 2353, 3, 0, 0, 0, 0)), (50, (.irem, 1, 0, 0, 0, 0)), (51, (.iload 4, 2, 0, 0, 0, 0)), (53, (.invokevirtual 64, 3, 16, 3, 1, 0)), (56, (.iadd, 1, 0, 0, 0, 0)), (57, (.invokevirtual 25, 3, 18, 2, 1, 0)), (60, (.iinc 4 1, 3, 0, 0, 0, 0)), (63, (.goto (-50), 3, 13, 0, 0, 0)), (66, (.return_, 1, 0, 0, 0, 0))]
def kk_15 (q : Nat) : Option Ent := lkp k_15 q
def k_16 : List (Nat × Ent) := [(0, (.aload_n 0, 1, 0, 0, 0, 0)), (1, (.getfield 18, 3, 3, 1, 0, 0)), (4, (.ifCond .ne 5, 3, 9, 0, 0, 0)), (7, (.iconst 0, 1, 0, 0, 0, 0)), (8, (.ireturn, 1, 0, 0, 0, 0)), (9, (.aload_n 0, 1, 0, 0, 0, 0)), (10, (.getfield 18, 3, 3, 1, 0, 0)), (13, (.iconst 1, 1, 0, 0, 0, 0)), (14, (.if_icmp .eq 7, 3, 21, 0, 0, 0)), (17, (.iload_n 1, 1, 0, 0, 0, 0)), (18, (.ifCond .ne 7, 3, 25, 0, 0, 0)), (21, (.iconst 1, 1, 0, 0, 0, 0)), (22, (.iload_n 2, 1, 0, 0, 0, 0)), (23, (.iadd, 1, 0, 0, 0, 0)), (24, (.ireturn, 1, 0, 0, 0, 0)), (25, (.bipush 49, 2, 0, 0, 0, 0)), (27, (.iload_n 1, 1, 0, 0, 0, 0)), (28, (.invokestatic 68, 3, 17, 1, 1, 0)), (31, (.bipush 48, 2, 0, 0, 0, 0)), (33, (.imul, 1, 0, 0, 0, 0)), (34, (.iadd, 1, 0, 0, 0, 0)), (35, (.iload_n 2, 1, 0, 0, 0, 0)), (36, (.iadd, 1, 0, 0, 0, 0)), (37, (.ireturn, 1, 0, 0, 0, 0))]
def kk_16 (q : Nat) : Option Ent := lkp k_16 q
def k_17 : List (Nat × Ent) := [(0, (.iload_n 0, 1, 0, 0, 0, 0)), (1, (.bipush 49, 2, 0, 0, 0, 0)), (3, (.if_icmp .lt 13, 3, 16, 0, 0, 0)), (6, (.iload_n 0, 1, 0, 0, 0, 0)), (7, (.bipush 49, 2, 0, 0, 0, 0)), (9, (.isub, 1, 0, 0, 0, 0)), (10, (.bipush 48, 2, 0, 0, 0, 0)), (12, (.irem, 1, 0, 0, 0, 0)), (13, (.goto 6, 3, 19, 0, 0, 0)), (16, (.iload_n 0, 1, 0, 0, 0, 0)), (17, (.iconst 1, 1, 0, 0, 0, 0)), (18, (.isub, 1, 0, 0, 0, 0)), (19, (.ireturn, 1, 0, 0, 0, 0))]
def kk_17 (q : Nat) : Option Ent := lkp k_17 q
def k_18 : List (Nat × Ent) := [(0, (.aload_n 0, 1, 0, 0, 0, 0)), (1, (.iload_n 1, 1, 0, 0, 0, 0)), (2, (.invokevirtual 71, 3, 19, 2, 1, 0)), (5, (.ifCond .ge 34, 3, 39, 0, 0, 0)), (8, (.aload_n 0, 1, 0, 0, 0, 0)), (9, (.getfield 22, 3, 2, 1, 0, 0)), (12, (.bipush 31, 2, 0, 0, 0, 0)), (14, (.if_icmp .ge 25, 3, 39, 0, 0, 0)), (17, (.aload_n 0, 1, 0, 0, 0, 0)), (18, (.getfield 11, 3, 0, 1, 2, 0)), (21, (.aload_n 0, 1, 0, 0, 0, 0)), (22, (.getfield 22, 3, 2, 1, 0, 0)), (25, (.iload_n 1, 1, 0, 0, 0, 0)), (26, (.invokestatic 46, 3, 98, 3, 10, 0)), (29, (.aload_n 0, 1, 0, 0, 0, 0)), (30, (.dup, 1, 0, 0, 0, 0)), (31, (.getfield 22, 3, 2, 1, 0, 0)), (34, (.iconst 1, 1, 0, 0, 0, 0)), (35, (.iadd, 1, 0, 0, 0, 0)), (36, (.putfield 22, 3, 2, 1, 0, 0)), (39, (.return_, 1, 0, 0, 0, 0))]
def kk_18 (q : Nat) : Option Ent := lkp k_18 q
def k_19 : List (Nat × Ent) := [(0, (.iconst 0, 1, 0, 0, 0, 0)), (1, (.istore_n 2, 1, 0, 0, 0, 0)), (2, (.iload_n 2, 1, 0, 0, 0, 0)), (3, (.aload_n 0, 1, 0, 0, 0, 0)), (4, (.getfield 22, 3, 2, 1, 0, 0)), (7, (.if_icmp .ge 23, 3, 30, 0, 0, 0)), (10, (.aload_n 0, 1, 0, 0, 0, 0)), (11, (.getfield 11, 3, 0, 1, 2, 0)), (14, (.iload_n 2, 1, 0, 0, 0, 0)), (15, (.invokestatic 29, 3, 96, 2, 10, 0)), (18, (.iload_n 1, 1, 0, 0, 0, 0)), (19, (.if_icmp .ne 5, 3, 24, 0, 0, 0)), (22, (.iload_n 2, 1, 0, 0, 0, 0)), (23, (.ireturn, 1, 0, 0, 0, 0)), (24, (.iinc 2 1, 3, 0, 0, 0, 0)), (27, (.goto (-25), 3, 2, 0, 0, 0)), (30, (.iconst (-1), 1, 0, 0, 0, 0)), (31, (.ireturn, 1, 0, 0, 0, 0))]
def kk_19 (q : Nat) : Option Ent := lkp k_19 q
def k_20 : List (Nat × Ent) := [(0, (.iconst 1, 1, 0, 0, 0, 0)), (1, (.istore_n 1, 1, 0, 0, 0, 0)), (2, (.iload_n 1, 1, 0, 0, 0, 0)), (3, (.aload_n 0, 1, 0, 0, 0, 0)), (4, (.getfield 22, 3, 2, 1, 0, 0)), (7, (.if_icmp .ge 71, 3, 78, 0, 0, 0)), (10, (.aload_n 0, 1, 0, 0, 0, 0)), (11, (.getfield 11, 3, 0, 1, 2, 0)), (14, (.iload_n 1, 1, 0, 0, 0, 0)), (15, (.invokestatic 29, 3, 96, 2, 10, 0)), (18, (.istore_n 2, 1, 0, 0, 0, 0)), (19, (.iload_n 1, 1, 0, 0, 0, 0)), (20, (.istore_n 3, 1, 0, 0, 0, 0)), (21, (.iload_n 3, 1, 0, 0, 0, 0)), (22, (.ifCond .le 41, 3, 63, 0, 0, 0)), (25, (.aload_n 0, 1, 0, 0, 0, 0)), (26, (.getfield 11, 3, 0, 1, 2, 0)), (29, (.iload_n 3, 1, 0, 0, 0, 0)), (30, (.iconst 1, 1, 0, 0, 0, 0)), (31, (.isub, 1, 0, 0, 0, 0)), (32, (.invokestatic 29, 3, 96, 2, 10, 0)), (35, (.iload_n 2, 1, 0, 0, 0, 0)), (36, (.if_icmp .le 27, 3, 63, 0, 0, 0)), (39, (.aload_n 0, 1, 0, 0, 0, 0)), (40, (.getfield 11, 3, 0, 1, 2, 0)), (43, (.iload_n 3, 1, 0, 0, 0, 0)), (44, (.aload_n 0, 1, 0, 0, 0, 0)), (45, (.getfield 11, 3, 0, 1, 2, 0)), (48, (.iload_n 3, 1, 0, 0, 0, 0)), (49, (.iconst 1, 1, 0, 0, 0, 0)), (50, (.isub, 1, 0, 0, 0, 0)), (51, (.invokestatic 29, 3, 96, 2, 10, 0)), (54, (.invokestatic 46, 3, 98, 3, 10, 0)), (57, (.iinc 3 (-1), 3, 0, 0, 0, 0)), (60, (.goto (-39), 3, 21, 0, 0, 0)), (63, (.aload_n 0, 1, 0, 0, 0, 0)), (64, (.getfield 11, 3, 0, 1, 2, 0)), (67, (.iload_n 3, 1, 0, 0, 0, 0)), (68, (.iload_n 2, 1, 0, 0, 0, 0)), (69, (.invokestatic 46, 3, 98, 3, 10, 0)), (72, (.iinc 1 1, 3, 0, 0, 0, 0)), (75, (.goto (-73), 3, 2, 0, 0, 0)), (78, (.return_, 1, 0, 0, 0, 0))]
def kk_20 (q : Nat) : Option Ent := lkp k_20 q
def k_21 : List (Nat × Ent) := [(0, (.iconst 0, 1, 0, 0, 0, 0)), (1, (.istore_n 2, 1, 0, 0, 0, 0)), (2, (.iconst 0, 1, 0, 0, 0, 0)), (3, (.istore_n 3, 1, 0, 0, 0, 0)), (4, (.iload_n 3, 1, 0, 0, 0, 0)), (5, (.aload_n 0, 1, 0, 0, 0, 0)), (6, (.getfield 22, 3, 2, 1, 0, 0)), (9, (.if_icmp .ge 29, 3, 38, 0, 0, 0)), (12, (.iload_n 2, 1, 0, 0, 0, 0)), (13, (.aload_n 0, 1, 0, 0, 0, 0)), (14, (.getfield 11, 3, 0, 1, 2, 0)), (17, (.iload_n 3, 1, 0, 0, 0, 0)), (18, (.invokestatic 29, 3, 96, 2, 10, 0)), (21, (.iload_n 1, 1, 0, 0, 0, 0)), (22, (.if_icmp .ge 7, 3, 29, 0, 0, 0)), (25, (.iconst 1, 1, 0, 0, 0, 0)), (26, (.goto 4, 3, 30, 0, 0, 0)), (29, (.iconst 0, 1, 0, 0, 0, 0)), (30, (.iadd, 1, 0, 0, 0, 0)), (31, (.istore_n 2, 1, 0, 0, 0, 0)), (32, (.iinc 3 1, 3, 0, 0, 0, 0)), (35, (.goto (-31), 3, 4, 0, 0, 0)), (38, (.iload_n 2, 1, 0, 0, 0, 0)), (39, (.ireturn, 1, 0, 0, 0, 0))]
def kk_21 (q : Nat) : Option Ent := lkp k_21 q
def k_22 : List (Nat × Ent) := [(0, (.aload_n 0, 1, 0, 0, 0, 0)), (1, (.getfield 22, 3, 2, 1, 0, 0)), (4, (.ireturn, 1, 0, 0, 0, 0))]
def kk_22 (q : Nat) : Option Ent := lkp k_22 q
def k_23 : List (Nat × Ent) := [(0, (.aload_n 0, 1, 0, 0, 0, 0)), (1, (.getfield 15, 3, 1, 1, 2, 0)), (4, (.iload_n 1, 1, 0, 0, 0, 0)), (5, (.iconst 1, 1, 0, 0, 0, 0)), (6, (.iadd, 1, 0, 0, 0, 0)), (7, (.invokestatic 29, 3, 96, 2, 10, 0)), (10, (.aload_n 0, 1, 0, 0, 0, 0)), (11, (.getfield 15, 3, 1, 1, 2, 0)), (14, (.iload_n 1, 1, 0, 0, 0, 0)), (15, (.invokestatic 29, 3, 96, 2, 10, 0)), (18, (.isub, 1, 0, 0, 0, 0)), (19, (.ireturn, 1, 0, 0, 0, 0))]
def kk_23 (q : Nat) : Option Ent := lkp k_23 q
def k_24 : List (Nat × Ent) := [(0, (.aload_n 0, 1, 0, 0, 0, 0)), (1, (.getfield 15, 3, 1, 1, 2, 0)), (4, (.iload_n 1, 1, 0, 0, 0, 0)), (5, (.invokestatic 29, 3, 96, 2, 10, 0)), (8, (.iload_n 2, 1, 0, 0, 0, 0)), (9, (.iadd, 1, 0, 0, 0, 0)), (10, (.ireturn, 1, 0, 0, 0, 0))]
def kk_24 (q : Nat) : Option Ent := lkp k_24 q
def k_25 : List (Nat × Ent) := [(0, (.aload_n 0, 1, 0, 0, 0, 0)), (1, (.getfield 11, 3, 0, 1, 2, 0)), (4, (.iload_n 1, 1, 0, 0, 0, 0)), (5, (.invokestatic 29, 3, 96, 2, 10, 0)), (8, (.sipush 2353, 3, 0, 0, 0, 0)), (11, (.idiv, 1, 0, 0, 0, 0)), (12, (.ireturn, 1, 0, 0, 0, 0))]
def kk_25 (q : Nat) : Option Ent := lkp k_25 q
def k_26 : List (Nat × Ent) := [(0, (.aload_n 0, 1, 0, 0, 0, 0)), (1, (.getfield 11, 3, 0, 1, 2, 0)), (4, (.iload_n 1, 1, 0, 0, 0, 0)), (5, (.invokestatic 29, 3, 96, 2, 10, 0)), (8, (.sipush 2353, 3, 0, 0, 0, 0)), (11, (.irem, 1, 0, 0, 0, 0)), (12, (.ireturn, 1, 0, 0, 0, 0))]
def kk_26 (q : Nat) : Option Ent := lkp k_26 q
def k_27 : List (Nat × Ent) := [(0, (.aload_n 0, 1, 0, 0, 0, 0)), (1, (.aload_n 0, 1, 0, 0, 0, 0)), (2, (.iload_n 1, 1, 0, 0, 0, 0)), (3, (.iload_n 2, 1, 0, 0, 0, 0)), (4, (.invokevirtual 74, 3, 24, 3, 1, 0)), (7, (.invokevirtual 77, 3, 26, 2, 1, 0)), (10, (.istore_n 3, 1, 0, 0, 0, 0)), (11, (.iload_n 3, 1, 0, 0, 0, 0)), (12, (.ifCond .ne 5, 3, 17, 0, 0, 0)), (15, (.iconst 0, 1, 0, 0, 0, 0)), (16, (.ireturn, 1, 0, 0, 0, 0)), (17, (.iload_n 3, 1, 0, 0, 0, 0)), (18, (.bipush 49, 2, 0, 0, 0, 0)), (20, (.if_icmp .ge 7, 3, 27, 0, 0, 0)), (23, (.iconst 1, 1, 0, 0, 0, 0)), (24, (.goto 4, 3, 28, 0, 0, 0)), (27, (.iconst 2, 1, 0, 0, 0, 0)), (28, (.ireturn, 1, 0, 0, 0, 0))]
def kk_27 (q : Nat) : Option Ent := lkp k_27 q
def k_28 : List (Nat × Ent) := [(0, (.aload_n 0, 1, 0, 0, 0, 0)), (1, (.aload_n 0, 1, 0, 0, 0, 0)), (2, (.iload_n 1, 1, 0, 0, 0, 0)), (3, (.iload_n 2, 1, 0, 0, 0, 0)), (4, (.invokevirtual 74, 3, 24, 3, 1, 0)), (7, (.invokevirtual 77, 3, 26, 2, 1, 0)), (10, (.istore 4, 2, 0, 0, 0, 0)), (12, (.iload 4, 2, 0, 0, 0, 0)), (14, (.bipush 49, 2, 0, 0, 0, 0)), (16, (.if_icmp .lt 18, 3, 34, 0, 0, 0)), (19, (.iload_n 3, 1, 0, 0, 0, 0)), (20, (.ifCond .ne 14, 3, 34, 0, 0, 0)), (23, (.iload 4, 2, 0, 0, 0, 0)), (25, (.bipush 49, 2, 0, 0, 0, 0)), (27, (.isub, 1, 0, 0, 0, 0)), (28, (.bipush 48, 2, 0, 0, 0, 0)), (30, (.idiv, 1, 0, 0, 0, 0)), (31, (.goto 8, 3, 39, 0, 0, 0)), (34, (.iload 4, 2, 0, 0, 0, 0)), (36, (.invokestatic 68, 3, 17, 1, 1, 0)), (39, (.ireturn, 1, 0, 0, 0, 0))]
def kk_28 (q : Nat) : Option Ent := lkp k_28 q
def k_29 : List (Nat × Ent) := [(0, (.aload_n 0, 1, 0, 0, 0, 0)), (1, (.iload_n 3, 1, 0, 0, 0, 0)), (2, (.sipush 2353, 3, 0, 0, 0, 0)), (5, (.imul, 1, 0, 0, 0, 0)), (6, (.aload_n 0, 1, 0, 0, 0, 0)), (7, (.aload_n 0, 1, 0, 0, 0, 0)), (8, (.iload_n 1, 1, 0, 0, 0, 0)), (9, (.invokevirtual 77, 3, 26, 2, 1, 0)), (12, (.iload_n 2, 1, 0, 0, 0, 0)), (13, (.invokevirtual 64, 3, 16, 3, 1, 0)), (16, (.iadd, 1, 0, 0, 0, 0)), (17, (.invokevirtual 71, 3, 19, 2, 1, 0)), (20, (.ireturn, 1, 0, 0, 0, 0))]
def kk_29 (q : Nat) : Option Ent := lkp k_29 q
def k_30 : List (Nat × Ent) := [(0, (.aload_n 0, 1, 0, 0, 0, 0)), (1, (.iconst 0, 1, 0, 0, 0, 0)), (2, (.putfield 15, 3, 1, 2, 0, 0)), (5, (.aload_n 0, 1, 0, 0, 0, 0)), (6, (.iconst 0, 1, 0, 0, 0, 0)), (7, (.putfield 19, 3, 2, 2, 0, 0)), (10, (.aload_n 0, 1, 0, 0, 0, 0)), (11, (.iconst 0, 1, 0, 0, 0, 0)), (12, (.putfield 22, 3, 3, 2, 0, 0)), (15, (.return_, 1, 0, 0, 0, 0))]
def kk_30 (q : Nat) : Option Ent := lkp k_30 q
def k_31 : List (Nat × Ent) := [(0, (.aload_n 0, 1, 0, 0, 0, 0)), (1, (.getfield 9, 3, 0, 2, 2, 0)), (4, (.aload_n 0, 1, 0, 0, 0, 0)), (5, (.getfield 15, 3, 1, 2, 0, 0)), (8, (.iload_n 1, 1, 0, 0, 0, 0)), (9, (.iload_n 2, 1, 0, 0, 0, 0)), (10, (.iload_n 3, 1, 0, 0, 0, 0)), (11, (.iload 4, 2, 0, 0, 0, 0)), (13, (.invokestatic 25, 3, 103, 4, 11, 0)), (16, (.invokestatic 31, 3, 98, 3, 10, 0)), (19, (.aload_n 0, 1, 0, 0, 0, 0)), (20, (.dup, 1, 0, 0, 0, 0)), (21, (.getfield 15, 3, 1, 2, 0, 0)), (24, (.iconst 1, 1, 0, 0, 0, 0)), (25, (.iadd, 1, 0, 0, 0, 0)), (26, (.putfield 15, 3, 1, 2, 0, 0)), (29, (.aload_n 0, 1, 0, 0, 0, 0)), (30, (.dup, 1, 0, 0, 0, 0)), (31, (.getfield 19, 3, 2, 2, 0, 0)), (34, (.iload_n 1, 1, 0, 0, 0, 0)), (35, (.iconst 4, 1, 0, 0, 0, 0)), (36, (.if_icmp .ne 7, 3, 43, 0, 0, 0)), (39, (.iconst 1, 1, 0, 0, 0, 0)), (40, (.goto 4, 3, 44, 0, 0, 0)), (43, (.iconst 0, 1, 0, 0, 0, 0)), (44, (.iadd, 1, 0, 0, 0, 0)), (45, (.putfield 19, 3, 2, 2, 0, 0)), (48, (.aload_n 0, 1, 0, 0, 0, 0)), (49, (.dup, 1, 0, 0, 0, 0)), (50, (.getfield 22, 3, 3, 2, 0, 0)), (53, (.iload_n 1, 1, 0, 0, 0, 0)), (54, (.bipush 6, 2, 0, 0, 0, 0)), (56, (.if_icmp .ne 7, 3, 63, 0, 0, 0)), (59, (.iconst 1, 1, 0, 0, 0, 0)), (60, (.goto 4, 3, 64, 0, 0, 0)), (63, (.iconst 0, 1, 0, 0, 0, 0)), (64, (.iadd, 1, 0, 0, 0, 0)), (65, (.putfield 22, 3, 3, 2, 0, 0)), (68, (.iconst 1, 1, 0, 0, 0, 0)), (69, (.ireturn, 1, 1, 0, 0, 0))]
def kk_31 (q : Nat) : Option Ent := lkp k_31 q
def k_32 : List (Nat × Ent) := [(0, (.aload_n 0, 1, 0, 0, 0, 0)), (1, (.getfield 15, 3, 1, 2, 0, 0)), (4, (.ireturn, 1, 0, 0, 0, 0))]
def kk_32 (q : Nat) : Option Ent := lkp k_32 q
def k_33 : List (Nat × Ent) := [(0, (.aload_n 0, 1, 0, 0, 0, 0)), (1, (.getfield 19, 3, 2, 2, 0, 0)), (4, (.ireturn, 1, 0, 0, 0, 0))]
def kk_33 (q : Nat) : Option Ent := lkp k_33 q
def k_34 : List (Nat × Ent) := [(0, (.aload_n 0, 1, 0, 0, 0, 0)), (1, (.getfield 22, 3, 3, 2, 0, 0)), (4, (.ireturn, 1, 0, 0, 0, 0))]
def kk_34 (q : Nat) : Option Ent := lkp k_34 q
def k_35 : List (Nat × Ent) := [(0, (.aload_n 0, 1, 0, 0, 0, 0)), (1, (.getfield 9, 3, 0, 2, 2, 0)), (4, (.iload_n 1, 1, 0, 0, 0, 0)), (5, (.invokestatic 37, 3, 96, 2, 10, 0)), (8, (.ireturn, 1, 0, 0, 0, 0))]
def kk_35 (q : Nat) : Option Ent := lkp k_35 q
def k_36 : List (Nat × Ent) := [(0, (.aload_n 0, 1, 0, 0, 0, 0)), (1, (.getfield 9, 3, 0, 3, 2, 0)), (4, (.lconst 0, 1, 0, 0, 0, 0)), (5, (.invokestatic 15, 3, 100, 2, 10, 0)), (8, (.return_, 1, 0, 0, 0, 0))]
def kk_36 (q : Nat) : Option Ent := lkp k_36 q
def k_37 : List (Nat × Ent) := [(0, (.aload_n 0, 1, 0, 0, 0, 0)), (1, (.iload_n 1, 1, 0, 0, 0, 0)), (2, (.lconst 1, 1, 0, 0, 0, 0)), (3, (.iload_n 2, 1, 0, 0, 0, 0)), (4, (.lshl, 1, 0, 0, 0, 0)), (5, (.invokevirtual 21, 3, 38, 3, 3, 0)), (8, (.return_, 1, 0, 0, 0, 0))]
def kk_37 (q : Nat) : Option Ent := lkp k_37 q
def k_38 : List (Nat × Ent) := [(0, (.aload_n 0, 1, 0, 0, 0, 0)), (1, (.getfield 9, 3, 0, 3, 2, 0)), (4, (.iload_n 1, 1, 0, 0, 0, 0)), (5, (.lload_n 2, 1, 0, 0, 0, 0)), (6, (.invokestatic 25, 3, 99, 3, 10, 0)), (9, (.return_, 1, 0, 0, 0, 0))]
def kk_38 (q : Nat) : Option Ent := lkp k_38 q
def k_39 : List (Nat × Ent) := [(0, (.iconst 0, 1, 0, 0, 0, 0)), (1, (.istore_n 1, 1, 0, 0, 0, 0)), (2, (.iload_n 1, 1, 0, 0, 0, 0)), (3, (.bipush 44, 2, 0, 0, 0, 0)), (5, (.if_icmp .ge 45, 3, 50, 0, 0, 0)), (8, (.iconst 0, 1, 0, 0, 0, 0)), (9, (.istore_n 2, 1, 0, 0, 0, 0)), (10, (.iload_n 2, 1, 0, 0, 0, 0)), (11, (.bipush 44, 2, 0, 0, 0, 0)), (13, (.if_icmp .ge 31, 3, 44, 0, 0, 0)), (16, (.aload_n 0, 1, 0, 0, 0, 0)), (17, (.iload_n 2, 1, 0, 0, 0, 0)), (18, (.invokevirtual 29, 3, 40, 2, 3, 0)), (21, (.iload_n 1, 1, 0, 0, 0, 0)), (22, (.invokestatic 33, 3, 173, 2, 8, 0)), (25, (.ifCond .eq 13, 3, 38, 0, 0, 0)), (28, (.aload_n 0, 1, 0, 0, 0, 0)), (29, (.iload_n 2, 1, 0, 0, 0, 0)), (30, (.aload_n 0, 1, 0, 0, 0, 0)), (31, (.iload_n 1, 1, 0, 0, 0, 0)), (32, (.invokevirtual 29, 3, 40, 2, 3, 0)), (35, (.invokevirtual 21, 3, 38, 3, 3, 0)), (38, (.iinc 2 1, 3, 0, 0, 0, 0)), (41, (.goto (-31), 3, 10, 0, 0, 0)), (44, (.iinc 1 1, 3, 0, 0, 0, 0)), (47, (.goto (-45), 3, 2, 0, 0, 0)), (50, (.return_, 1, 0, 0, 0, 0))]
def kk_39 (q : Nat) : Option Ent := lkp k_39 q
def k_40 : List (Nat × Ent) := [(0, (.aload_n 0, 1, 0, 0, 0, 0)), (1, (.getfield 9, 3, 0, 3, 2, 0)), (4, (.iload_n 1, 1, 0, 0, 0, 0)), (5, (.invokestatic 37, 3, 97, 2, 10, 0)), (8, (.lreturn, 1, 0, 0, 0, 0))]
def kk_40 (q : Nat) : Option Ent := lkp k_40 q
def k_41 : List (Nat × Ent) := [(0, (.aload_n 0, 1, 0, 0, 0, 0)), (1, (.iconst 1, 1, 0, 0, 0, 0)), (2, (.putfield 41, 3, 8, 4, 1, 0)), (5, (.return_, 1, 0, 0, 0, 0))]
def kk_41 (q : Nat) : Option Ent := lkp k_41 q
def k_42 : List (Nat × Ent) := [(0, (.aload_n 0, 1, 0, 0, 0, 0)), (1, (.getfield 41, 3, 8, 4, 1, 0)), (4, (.ifCond .ne 4, 3, 8, 0, 0, 0)), (7, (.return_, 1, 0, 0, 0, 0)), (8, (.aload_n 0, 1, 0, 0, 0, 0)), (9, (.iconst 0, 1, 0, 0, 0, 0)), (10, (.putfield 41, 3, 8, 4, 1, 0)), (13, (.aload_n 0, 1, 0, 0, 0, 0)), (14, (.getfield 14, 3, 0, 4, 2, 0)), (17, (.aload_n 1, 1, 0, 0, 0, 0)), (18, (.iload_n 2, 1, 0, 0, 0, 0)), (19, (.invokevirtual 45, 3, 14, 3, 1, 0)), (22, (.aload_n 0, 1, 0, 0, 0, 0)), (23, (.invokevirtual 49, 3, 43, 1, 4, 0)), (26, (.iconst (-1), 1, 0, 0, 0, 0)), (27, (.istore_n 3, 1, 0, 0, 0, 0)), (28, (.iconst 1, 1, 0, 0, 0, 0)), (29, (.istore 4, 2, 0, 0, 0, 0)), (31, (.iload 4, 2, 0, 0, 0, 0)), (33, (.sipush 23105, 3, 0, 0, 0, 0)), (36, (.if_icmp .gt 109, 3, 145, 0, 0, 0)), (39, (.aload_n 0, 1, 0, 0, 0, 0)), (40, (.getfield 52, 3, 9, 4, 0, 0)), (43, (.iload_n 3, 1, 0, 0, 0, 0)), (44, (.if_icmp .le 101, 3, 145, 0, 0, 0)), (47, (.aload_n 0, 1, 0, 0, 0, 0)), (48, (.getfield 52, 3, 9, 4, 0, 0)), (51, (.istore_n 3, 1, 0, 0, 0, 0)), (52, (.aload_n 0, 1, 0, 0, 0, 0)), (53, (.iload 4, 2, 0, 0, 0, 0)), (55, (.putfield 56, 3, 11, 4, 0, 0)), (58, (.aload_n 0, 1, 0, 0, 0, 0)), (59, (.getfield 22, 3, 2, 4, 2, 0)), (62, (.aload_n 0, 1, 0, 0, 0, 0)), (63, (.getfield 18, 3, 1, 4, 2, 0)), (66, (.invokestatic 59, 3, 102, 2, 10, 0)), (69, (.iconst 0, 1, 0, 0, 0, 0)), (70, (.istore 5, 2, 0, 0, 0, 0)), (72, (.iload 5, 2, 0, 0, 0, 0)), (74, (.aload_n 0, 1, 0, 0, 0, 0)), (75, (.getfield 14, 3, 0, 4, 2, 0)), (78, (.invokevirtual 65, 3, 22, 1, 1, 0)), (81, (.if_icmp .ge 58, 3, 139, 0, 0, 0)), (84, (.aload_n 0, 1, 0, 0, 0, 0)), (85, (.getfield 14, 3, 0, 4, 2, 0)), (88, (.iload 5, 2, 0, 0, 0, 0)), (90, (.invokevirtual 69, 3, 25, 2, 1, 0)), (93, (.istore 6, 2, 0, 0, 0, 0)), (95, (.aload_n 1, 1, 0, 0, 0, 0)), (96, (.iload 6, 2, 0, 0, 0, 0)), (98, (.invokevirtual 73, 3, 88, 2, 6, 0)), (101, (.istore 7, 2, 0, 0, 0, 0)), (103, (.iload 7, 2, 0, 0, 0, 0)), (105, (.aload_n 1, 1, 0, 0, 0, 0)), (106, (.iload 6, 2, 0, 0, 0, 0)), (108, (.invokevirtual 78, 3, 89, 2, 6, 0)), (111, (.if_icmp .ge 22, 3, 133, 0, 0, 0)), (114, (.aload_n 0, 1, 0, 0, 0, 0)), (115, (.iload 7, 2, 0, 0, 0, 0)), (117, (.putfield 81, 3, 12, 4, 0, 0)), (120, (.aload_n 0, 1, 0, 0, 0, 0)), (121, (.aload_n 1, 1, 0, 0, 0, 0)), (122, (.iload 5, 2, 0, 0, 0, 0)), (124, (.invokevirtual 84, 3, 45, 3, 4, 0)), (127, (.iinc 7 1, 3, 0, 0, 0, 0)), (130, (.goto (-27), 3, 103, 0, 0, 0)), (133, (.iinc 5 1, 3, 0, 0, 0, 0)), (136, (.goto (-64), 3, 72, 0, 0, 0)), (139, (.iinc 4 1, 3, 0, 0, 0, 0)), (142, (.goto (-111), 3, 31, 0, 0, 0)), (145, (.return_, 1, 0, 0, 0, 0))]
def kk_42 (q : Nat) : Option Ent := lkp k_42 q
def k_43 : List (Nat × Ent) := [(0, (.aload_n 0, 1, 0, 0, 0, 0)), (1, (.iconst 0, 1, 0, 0, 0, 0)), (2, (.putfield 52, 3, 9, 4, 0, 0)), (5, (.aload_n 0, 1, 0, 0, 0, 0)), (6, (.iconst 0, 1, 0, 0, 0, 0)), (7, (.putfield 87, 3, 10, 4, 0, 0)), (10, (.aload_n 0, 1, 0, 0, 0, 0)), (11, (.getfield 22, 3, 2, 4, 2, 0)), (14, (.lconst 0, 1, 0, 0, 0, 0)), (15, (.invokestatic 90, 3, 100, 2, 10, 0)), (18, (.aload_n 0, 1, 0, 0, 0, 0)), (19, (.getfield 32, 3, 5, 4, 2, 0)), (22, (.lconst 0, 1, 0, 0, 0, 0)), (23, (.invokestatic 90, 3, 100, 2, 10, 0)), (26, (.iconst 0, 1, 0, 0, 0, 0)), (27, (.istore_n 1, 1, 0, 0, 0, 0)), (28, (.iload_n 1, 1, 0, 0, 0, 0)), (29, (.sipush 152, 3, 0, 0, 0, 0)), (32, (.if_icmp .ge 22, 3, 54, 0, 0, 0)), (35, (.aload_n 0, 1, 0, 0, 0, 0)), (36, (.getfield 25, 3, 3, 4, 2, 0)), (39, (.iload_n 1, 1, 0, 0, 0, 0)), (40, (.aload_n 0, 1, 0, 0, 0, 0)), (41, (.iload_n 1, 1, 0, 0, 0, 0)), (42, (.invokevirtual 94, 3, 44, 2, 4, 0)), (45, (.invokestatic 97, 3, 98, 3, 10, 0)), (48, (.iinc 1 1, 3, 0, 0, 0, 0)), (51, (.goto (-23), 3, 28, 0, 0, 0)), (54, (.return_, 1, 0, 0, 0, 0))]
def kk_43 (q : Nat) : Option Ent := lkp k_43 q
def k_44 : List (Nat × Ent) := [(0, (.iload_n 1, 1, 0, 0, 0, 0)), (1, (.sipush 128, 3, 0, 0, 0, 0)), (4, (.if_icmp .lt 12, 3, 16, 0, 0, 0)), (7, (.bipush 20, 2, 0, 0, 0, 0)), (9, (.iload_n 1, 1, 0, 0, 0, 0)), (10, (.iadd, 1, 0, 0, 0, 0)), (11, (.sipush 128, 3, 0, 0, 0, 0)), (14, (.isub, 1, 0, 0, 0, 0)), (15, (.ireturn, 1, 0, 0, 0, 0)), (16, (.iload_n 1, 1, 0, 0, 0, 0)), (17, (.iconst 4, 1, 0, 0, 0, 0)), (18, (.if_icmp .ge 5, 3, 23, 0, 0, 0)), (21, (.iload_n 1, 1, 0, 0, 0, 0)), (22, (.ireturn, 1, 0, 0, 0, 0)), (23, (.iload_n 1, 1, 0, 0, 0, 0)), (24, (.iconst 4, 1, 0, 0, 0, 0)), (25, (.isub, 1, 0, 0, 0, 0)), (26, (.istore_n 2, 1, 0, 0, 0, 0)), (27, (.aload_n 0, 1, 0, 0, 0, 0)), (28, (.getfield 14, 3, 0, 4, 2, 0)), (31, (.iload_n 2, 1, 0, 0, 0, 0)), (32, (.iconst 4, 1, 0, 0, 0, 0)), (33, (.idiv, 1, 0, 0, 0, 0)), (34, (.invokevirtual 69, 3, 25, 2, 1, 0)), (37, (.invokestatic 101, 3, 168, 1, 8, 0)), (40, (.iload_n 2, 1, 0, 0, 0, 0)), (41, (.iconst 4, 1, 0, 0, 0, 0)), (42, (.irem, 1, 0, 0, 0, 0)), (43, (.iadd, 1, 0, 0, 0, 0)), (44, (.ireturn, 1, 0, 0, 0, 0))]
def kk_44 (q : Nat) : Option Ent := lkp k_44 q
def k_45 : List (Nat × Ent) := [(0, (.aload_n 1, 1, 0, 0, 0, 0)), (1, (.aload_n 0, 1, 0, 0, 0, 0)), (2, (.getfield 81, 3, 12, 4, 0, 0)), (5, (.invokevirtual 104, 3, 91, 2, 6, 0)), (8, (.iload_n 2, 1, 0, 0, 0, 0)), (9, (.invokestatic 107, 3, 46, 2, 4, 0)), (12, (.istore_n 3, 1, 0, 0, 0, 0)), (13, (.aload_n 1, 1, 0, 0, 0, 0)), (14, (.aload_n 0, 1, 0, 0, 0, 0)), (15, (.getfield 81, 3, 12, 4, 0, 0)), (18, (.invokevirtual 111, 3, 92, 2, 6, 0)), (21, (.iload_n 2, 1, 0, 0, 0, 0)), (22, (.invokestatic 107, 3, 46, 2, 4, 0)), (25, (.istore 4, 2, 0, 0, 0, 0)), (27, (.aload_n 1, 1, 0, 0, 0, 0)), (28, (.aload_n 0, 1, 0, 0, 0, 0)), (29, (.getfield 81, 3, 12, 4, 0, 0)), (32, (.invokevirtual 114, 3, 93, 2, 6, 0)), (35, (.istore 5, 2, 0, 0, 0, 0)), (37, (.aload_n 1, 1, 0, 0, 0, 0)), (38, (.aload_n 0, 1, 0, 0, 0, 0)), (39, (.getfield 81, 3, 12, 4, 0, 0)), (42, (.invokevirtual 117, 3, 90, 2, 6, 0)), (45, (.tableswitch 157 0 6 #[43, 157, 53, 63, 73, 95, 107], 43, 0, 0, 0, 0)), (88, (.aload_n 0, 1, 0, 0, 0, 0)), (89, (.iload_n 3, 1, 0, 0, 0, 0)), (90, (.iload 4, 2, 0, 0, 0, 0)), (92, (.invokevirtual 120, 3, 51, 3, 4, 0)), (95, (.goto 114, 3, 209, 0, 0, 0)), (98, (.aload_n 0, 1, 0, 0, 0, 0)), (99, (.iload_n 3, 1, 0, 0, 0, 0)), (100, (.iload 4, 2, 0, 0, 0, 0)), (102, (.invokevirtual 124, 3, 47, 3, 4, 0)), (105, (.goto 104, 3, 209, 0, 0, 0)), (108, (.aload_n 0, 1, 0, 0, 0, 0)), (109, (.iload_n 3, 1, 0, 0, 0, 0)), (110, (.iload 4, 2, 0, 0, 0, 0)), (112, (.invokevirtual 127, 3, 48, 3, 4, 0)), (115, (.goto 94, 3, 209, 0, 0, 0)), (118, (.aload_n 0, 1, 0, 0, 0, 0)), (119, (.iload_n 3, 1, 0, 0, 0, 0)), (120, (.sipush 128, 3, 0, 0, 0, 0)), (123, (.iconst 3, 1, 0, 0, 0, 0)), (124, (.aload_n 1, 1, 0, 0, 0, 0)), (125, (.aload_n 0, 1, 0, 0, 0, 0)), (126, (.getfield 81, 3, 12, 4, 0, 0)), (129, (.invokevirtual 130, 3, 95, 2, 6, 0)), (132, (.imul, 1, 0, 0, 0, 0)), (133, (.iadd, 1, 0, 0, 0, 0)), (134, (.invokevirtual 120, 3, 51, 3, 4, 0)), (137, (.goto 72, 3, 209, 0, 0, 0)), (140, (.aload_n 0, 1, 0, 0, 0, 0)), (141, (.iload_n 3, 1, 0, 0, 0, 0)), (142, (.iload 4, 2, 0, 0, 0, 0)), (144, (.iload 5, 2, 0, 0, 0, 0)), (146, (.invokevirtual 133, 3, 50, 4, 4, 0)), (149, (.goto 60, 3, 209, 0, 0, 0)), (152, (.aload_n 0, 1, 0, 0, 0, 0)), (153, (.getfield 14, 3, 0, 4, 2, 0)), (156, (.iload_n 2, 1, 0, 0, 0, 0)), (157, (.aload_n 0, 1, 0, 0, 0, 0)), (158, (.getfield 81, 3, 12, 4, 0, 0)), (161, (.iload 5, 2, 0, 0, 0, 0)), (163, (.invokevirtual 137, 3, 29, 4, 1, 0)), (166, (.istore 6, 2, 0, 0, 0, 0)), (168, (.aload_n 0, 1, 0, 0, 0, 0)), (169, (.iload 5, 2, 0, 0, 0, 0)), (171, (.invokestatic 101, 3, 168, 1, 8, 0)), (174, (.iload 6, 2, 0, 0, 0, 0)), (176, (.invokestatic 107, 3, 46, 2, 4, 0)), (179, (.iload 4, 2, 0, 0, 0, 0)), (181, (.invokevirtual 141, 3, 52, 3, 4, 0)), (184, (.aload_n 0, 1, 0, 0, 0, 0)), (185, (.iload_n 3, 1, 0, 0, 0, 0)), (186, (.iload 5, 2, 0, 0, 0, 0)), (188, (.invokestatic 144, 3, 169, 1, 8, 0)), (191, (.iload 6, 2, 0, 0, 0, 0)), (193, (.invokestatic 107, 3, 46, 2, 4, 0)), (196, (.invokevirtual 141, 3, 52, 3, 4, 0)), (199, (.goto 10, 3, 209, 0, 0, 0)), (202, (.aload_n 0, 1, 0, 0, 0, 0)), (203, (.iload_n 3, 1, 0, 0, 0, 0)), (204, (.iload 4, 2, 0, 0, 0, 0)), (206, (.invokevirtual 141, 3, 52, 3, 4, 0)), (209, (.return_, 1, 0, 0, 0, 0))]
def kk_45 (q : Nat) : Option Ent := lkp k_45 q
def k_46 : List (Nat × Ent) := [(0, (.iload_n 0, 1, 0, 0, 0, 0)), (1, (.iconst 4, 1, 0, 0, 0, 0)), (2, (.if_icmp .ge 7, 3, 9, 0, 0, 0)), (5, (.iload_n 0, 1, 0, 0, 0, 0)), (6, (.goto 14, 3, 20, 0, 0, 0)), (9, (.iconst 4, 1, 0, 0, 0, 0)), (10, (.iconst 4, 1, 0, 0, 0, 0)), (11, (.iload_n 1, 1, 0, 0, 0, 0)), (12, (.imul, 1, 0, 0, 0, 0)), (13, (.iadd, 1, 0, 0, 0, 0)), (14, (.iload_n 0, 1, 0, 0, 0, 0)), (15, (.iconst 4, 1, 0, 0, 0, 0)), (16, (.isub, 1, 0, 0, 0, 0)), (17, (.iconst 4, 1, 0, 0, 0, 0)), (18, (.irem, 1, 0, 0, 0, 0)), (19, (.iadd, 1, 0, 0, 0, 0)), (20, (.ireturn, 1, 0, 0, 0, 0))]
def kk_46 (q : Nat) : Option Ent := lkp k_46 q
def k_47 : List (Nat × Ent) := [(0, (.aload_n 0, 1, 0, 0, 0, 0)), (1, (.iload_n 2, 1, 0, 0, 0, 0)), (2, (.invokevirtual 147, 3, 49, 2, 4, 0)), (5, (.istore_n 3, 1, 0, 0, 0, 0)), (6, (.iconst 0, 1, 0, 0, 0, 0)), (7, (.istore 4, 2, 0, 0, 0, 0)), (9, (.iload 4, 2, 0, 0, 0, 0)), (11, (.iload_n 3, 1, 0, 0, 0, 0)), (12, (.if_icmp .ge 23, 3, 35, 0, 0, 0)), (15, (.aload_n 0, 1, 0, 0, 0, 0)), (16, (.iload_n 1, 1, 0, 0, 0, 0)), (17, (.aload_n 0, 1, 0, 0, 0, 0)), (18, (.getfield 29, 3, 4, 4, 2, 0)), (21, (.iload 4, 2, 0, 0, 0, 0)), (23, (.invokestatic 150, 3, 96, 2, 10, 0)), (26, (.invokevirtual 141, 3, 52, 3, 4, 0)), (29, (.iinc 4 1, 3, 0, 0, 0, 0)), (32, (.goto (-23), 3, 9, 0, 0, 0)), (35, (.return_, 1, 0, 0, 0, 0))]
def kk_47 (q : Nat) : Option Ent := lkp k_47 q
def k_48 : List (Nat × Ent) := [(0, (.aload_n 0, 1, 0, 0, 0, 0)), (1, (.iload_n 1, 1, 0, 0, 0, 0)), (2, (.invokevirtual 147, 3, 49, 2, 4, 0)), (5, (.istore_n 3, 1, 0, 0, 0, 0)), (6, (.iconst 0, 1, 0, 0, 0, 0)), (7, (.istore 4, 2, 0, 0, 0, 0)), (9, (.iload 4, 2, 0, 0, 0, 0)), (11, (.iload_n 3, 1, 0, 0, 0, 0)), (12, (.if_icmp .ge 23, 3, 35, 0, 0, 0)), (15, (.aload_n 0, 1, 0, 0, 0, 0)), (16, (.aload_n 0, 1, 0, 0, 0, 0)), (17, (.getfield 29, 3, 4, 4, 2, 0)), (20, (.iload 4, 2, 0, 0, 0, 0)), (22, (.invokestatic 150, 3, 96, 2, 10, 0)), (25, (.iload_n 2, 1, 0, 0, 0, 0)), (26, (.invokevirtual 141, 3, 52, 3, 4, 0)), (29, (.iinc 4 1, 3, 0, 0, 0, 0)), (32, (.goto (-23), 3, 9, 0, 0, 0)), (35, (.return_, 1, 0, 0, 0, 0))]
def kk_48 (q : Nat) : Option Ent := lkp k_48 q
def k_49 : List (Nat × Ent) := [(0, (.iconst 0, 1, 0, 0, 0, 0)), (1, (.istore_n 2, 1, 0, 0, 0, 0)), (2, (.iconst 0, 1, 0, 0, 0, 0)), (3, (.istore_n 3, 1, 0, 0, 0, 0)), (4, (.iload_n 3, 1, 0, 0, 0, 0)), (5, (.iconst 3, 1, 0, 0, 0, 0)), (6, (.if_icmp .ge 71, 3, 77, 0, 0, 0)), (9, (.aload_n 0, 1, 0, 0, 0, 0)), (10, (.iload_n 1, 1, 0, 0, 0, 0)), (11, (.iload_n 3, 1, 0, 0, 0, 0)), (12, (.invokevirtual 154, 3, 54, 3, 4, 0)), (15, (.lstore 4, 2, 0, 0, 0, 0)), (17, (.iconst 0, 1, 0, 0, 0, 0)), (18, (.istore 6, 2, 0, 0, 0, 0)), (20, (.iload 6, 2, 0, 0, 0, 0)), (22, (.bipush 64, 2, 0, 0, 0, 0)), (24, (.if_icmp .ge 47, 3, 71, 0, 0, 0)), (27, (.lload 4, 2, 0, 0, 0, 0)), (29, (.iload 6, 2, 0, 0, 0, 0)), (31, (.lushr, 1, 0, 0, 0, 0)), (32, (.lconst 0, 1, 0, 0, 0, 0)), (33, (.lcmp, 1, 0, 0, 0, 0)), (34, (.ifCond .eq 37, 3, 71, 0, 0, 0)), (37, (.lload 4, 2, 0, 0, 0, 0)), (39, (.iload 6, 2, 0, 0, 0, 0)), (41, (.invokestatic 158, 3, 173, 2, 8, 0)), (44, (.ifCond .eq 21, 3, 65, 0, 0, 0)), (47, (.aload_n 0, 1, 0, 0, 0, 0)), (48, (.getfield 29, 3, 4, 4, 2, 0)), (51, (.iload_n 2, 1, 0, 0, 0, 0)), (52, (.bipush 64, 2, 0, 0, 0, 0)), (54, (.iload_n 3, 1, 0, 0, 0, 0)), (55, (.imul, 1, 0, 0, 0, 0)), (56, (.iload 6, 2, 0, 0, 0, 0)), (58, (.iadd, 1, 0, 0, 0, 0)), (59, (.invokestatic 97, 3, 98, 3, 10, 0)), (62, (.iinc 2 1, 3, 0, 0, 0, 0)), (65, (.iinc 6 1, 3, 0, 0, 0, 0)), (68, (.goto (-48), 3, 20, 0, 0, 0)), (71, (.iinc 3 1, 3, 0, 0, 0, 0)), (74, (.goto (-70), 3, 4, 0, 0, 0)), (77, (.iload_n 2, 1, 0, 0, 0, 0)), (78, (.ireturn, 1, 0, 0, 0, 0))]
def kk_49 (q : Nat) : Option Ent := lkp k_49 q
def k_50 : List (Nat × Ent) := [(0, (.iload_n 3, 1, 0, 0, 0, 0)), (1, (.ifCond .ne 10, 3, 11, 0, 0, 0)), (4, (.aload_n 0, 1, 0, 0, 0, 0)), (5, (.iload_n 1, 1, 0, 0, 0, 0)), (6, (.iload_n 2, 1, 0, 0, 0, 0)), (7, (.invokevirtual 141, 3, 52, 3, 4, 0)), (10, (.return_, 1, 0, 0, 0, 0)), (11, (.iload_n 3, 1, 0, 0, 0, 0)), (12, (.iconst 1, 1, 0, 0, 0, 0)), (13, (.if_icmp .ne 9, 3, 22, 0, 0, 0)), (16, (.ldc2_w 162, 3, 0, 0, 0, 7190235)), (19, (.goto 6, 3, 25, 0, 0, 0)), (22, (.ldc2_w 164, 3, 0, 0, 0, 2396745)), (25, (.lstore 4, 2, 0, 0, 0, 0)), (27, (.aload_n 0, 1, 0, 0, 0, 0)), (28, (.iload_n 1, 1, 0, 0, 0, 0)), (29, (.iconst 2, 1, 0, 0, 0, 0)), (30, (.aload_n 0, 1, 0, 0, 0, 0)), (31, (.iload_n 2, 1, 0, 0, 0, 0)), (32, (.iconst 2, 1, 0, 0, 0, 0)), (33, (.invokevirtual 154, 3, 54, 3, 4, 0)), (36, (.lload 4, 2, 0, 0, 0, 0)), (38, (.land, 1, 0, 0, 0, 0)), (39, (.iload_n 3, 1, 0, 0, 0, 0)), (40, (.lshl, 1, 0, 0, 0, 0)), (41, (.invokevirtual 166, 3, 53, 4, 4, 0)), (44, (.return_, 1, 0, 0, 0, 0))]
def kk_50 (q : Nat) : Option Ent := lkp k_50 q
def k_51 : List (Nat × Ent) := [(0, (.aload_n 0, 1, 0, 0, 0, 0)), (1, (.iload_n 1, 1, 0, 0, 0, 0)), (2, (.iload_n 2, 1, 0, 0, 0, 0)), (3, (.bipush 6, 2, 0, 0, 0, 0)), (5, (.ishr, 1, 0, 0, 0, 0)), (6, (.lconst 1, 1, 0, 0, 0, 0)), (7, (.iload_n 2, 1, 0, 0, 0, 0)), (8, (.lshl, 1, 0, 0, 0, 0)), (9, (.invokevirtual 166, 3, 53, 4, 4, 0)), (12, (.return_, 1, 0, 0, 0, 0))]
def kk_51 (q : Nat) : Option Ent := lkp k_51 q
def k_52 : List (Nat × Ent) := [(0, (.iconst 0, 1, 0, 0, 0, 0)), (1, (.istore_n 3, 1, 0, 0, 0, 0)), (2, (.iload_n 3, 1, 0, 0, 0, 0)), (3, (.iconst 3, 1, 0, 0, 0, 0)), (4, (.if_icmp .ge 21, 3, 25, 0, 0, 0)), (7, (.aload_n 0, 1, 0, 0, 0, 0)), (8, (.iload_n 1, 1, 0, 0, 0, 0)), (9, (.iload_n 3, 1, 0, 0, 0, 0)), (10, (.aload_n 0, 1, 0, 0, 0, 0)), (11, (.iload_n 2, 1, 0, 0, 0, 0)), (12, (.iload_n 3, 1, 0, 0, 0, 0)), (13, (.invokevirtual 154, 3, 54, 3, 4, 0)), (16, (.invokevirtual 166, 3, 53, 4, 4, 0)), (19, (.iinc 3 1, 3, 0, 0, 0, 0)), (22, (.goto (-20), 3, 2, 0, 0, 0)), (25, (.return_, 1, 0, 0, 0, 0))]
def kk_52 (q : Nat) : Option Ent := lkp k_52 q
def k_53 : List (Nat × Ent) := [(0, (.lload_n 3, 1, 0, 0, 0, 0)), (1, (.aload_n 0, 1, 0, 0, 0, 0)), (2, (.getfield 22, 3, 2, 4, 2, 0)), (5, (.iload_n 1, 1, 0, 0, 0, 0)), (6, (.iconst 3, 1, 0, 0, 0, 0)), (7, (.imul, 1, 0, 0, 0, 0)), (8, (.iload_n 2, 1, 0, 0, 0, 0)), (9, (.iadd, 1, 0, 0, 0, 0)), (10, (.invokestatic 170, 3, 97, 2, 10, 0)), (13, (.ldc2_w 173, 3, 0, 0, 0, -1)), (16, (.lxor, 1, 0, 0, 0, 0)), (17, (.land, 1, 0, 0, 0, 0)), (18, (.lstore 5, 2, 0, 0, 0, 0)), (20, (.aload_n 0, 1, 0, 0, 0, 0)), (21, (.getfield 22, 3, 2, 4, 2, 0)), (24, (.iload_n 1, 1, 0, 0, 0, 0)), (25, (.iconst 3, 1, 0, 0, 0, 0)), (26, (.imul, 1, 0, 0, 0, 0)), (27, (.iload_n 2, 1, 0, 0, 0, 0)), (28, (.iadd, 1, 0, 0, 0, 0)), (29, (.lload 5, 2, 0, 0, 0, 0)), (31, (.invokestatic 175, 3, 99, 3, 10, 0)), (34, (.aload_n 0, 1, 0, 0, 0, 0)), (35, (.getfield 25, 3, 3, 4, 2, 0)), (38, (.iload_n 1, 1, 0, 0, 0, 0)), (39, (.invokestatic 150, 3, 96, 2, 10, 0)), (42, (.istore 7, 2, 0, 0, 0, 0)), (44, (.iconst 0, 1, 0, 0, 0, 0)), (45, (.istore 8, 2, 0, 0, 0, 0)), (47, (.iload 8, 2, 0, 0, 0, 0)), (49, (.bipush 64, 2, 0, 0, 0, 0)), (51, (.if_icmp .ge 131, 3, 182, 0, 0, 0)), (54, (.lload 5, 2, 0, 0, 0, 0)), (56, (.iload 8, 2, 0, 0, 0, 0)), (58, (.lushr, 1, 0, 0, 0, 0)), (59, (.lconst 0, 1, 0, 0, 0, 0)), (60, (.lcmp, 1, 0, 0, 0, 0)), (61, (.ifCond .eq 121, 3, 182, 0, 0, 0)), (64, (.lload 5, 2, 0, 0, 0, 0)), (66, (.iload 8, 2, 0, 0, 0, 0)), (68, (.invokestatic 158, 3, 173, 2, 8, 0)), (71, (.ifCond .eq 105, 3, 176, 0, 0, 0)), (74, (.aload_n 0, 1, 0, 0, 0, 0)), (75, (.getfield 25, 3, 3, 4, 2, 0)), (78, (.bipush 64, 2, 0, 0, 0, 0)), (80, (.iload_n 2, 1, 0, 0, 0, 0)), (81, (.imul, 1, 0, 0, 0, 0)), (82, (.iload 8, 2, 0, 0, 0, 0)), (84, (.iadd, 1, 0, 0, 0, 0)), (85, (.invokestatic 150, 3, 96, 2, 10, 0)), (88, (.istore 9, 2, 0, 0, 0, 0)), (90, (.aload_n 0, 1, 0, 0, 0, 0)), (91, (.dup, 1, 0, 0, 0, 0)), (92, (.getfield 52, 3, 9, 4, 0, 0)), (95, (.iconst 1, 1, 0, 0, 0, 0)), (96, (.iadd, 1, 0, 0, 0, 0)), (97, (.putfield 52, 3, 9, 4, 0, 0)), (100, (.aload_n 0, 1, 0, 0, 0, 0)), (101, (.aload_n 0, 1, 0, 0, 0, 0)), (102, (.getfield 56, 3, 11, 4, 0, 0)), (105, (.putfield 87, 3, 10, 4, 0, 0)), (108, (.aload_n 0, 1, 0, 0, 0, 0)), (109, (.getfield 32, 3, 5, 4, 2, 0)), (112, (.iload 7, 2, 0, 0, 0, 0)), (114, (.invokestatic 170, 3, 97, 2, 10, 0)), (117, (.iload 9, 2, 0, 0, 0, 0)), (119, (.invokestatic 158, 3, 173, 2, 8, 0)), (122, (.ifCond .ne 54, 3, 176, 0, 0, 0)), (125, (.aload_n 0, 1, 0, 0, 0, 0)), (126, (.getfield 32, 3, 5, 4, 2, 0)), (129, (.iload 7, 2, 0, 0, 0, 0)), (131, (.lconst 1, 1, 0, 0, 0, 0)), (132, (.iload 9, 2, 0, 0, 0, 0)), (134, (.lshl, 1, 0, 0, 0, 0)), (135, (.invokestatic 175, 3, 99, 3, 10, 0)), (138, (.aload_n 0, 1, 0, 0, 0, 0)), (139, (.getfield 35, 3, 6, 4, 2, 0)), (142, (.iload 7, 2, 0, 0, 0, 0)), (144, (.bipush 44, 2, 0, 0, 0, 0)), (146, (.imul, 1, 0, 0, 0, 0)), (147, (.iload 9, 2, 0, 0, 0, 0)), (149, (.iadd, 1, 0, 0, 0, 0)), (150, (.aload_n 0, 1, 0, 0, 0, 0)), (151, (.getfield 56, 3, 11, 4, 0, 0)), (154, (.invokestatic 97, 3, 98, 3, 10, 0)), (157, (.aload_n 0, 1, 0, 0, 0, 0)), (158, (.getfield 38, 3, 7, 4, 2, 0)), (161, (.iload 7, 2, 0, 0, 0, 0)), (163, (.bipush 44, 2, 0, 0, 0, 0)), (165, (.imul, 1, 0, 0, 0, 0)), (166, (.iload 9, 2, 0, 0, 0, 0)), (168, (.iadd, 1, 0, 0, 0, 0)), (169, (.aload_n 0, 1, 0, 0, 0, 0)), (170, (.getfield 81, 3, 12, 4, 0, 0)), (173, (.invokestatic 97, 3, 98, 3, 10, 0)), (176, (.iinc 8 1, 3, 0, 0, 0, 0)), (179, (.goto (-132), 3, 47, 0, 0, 0)), (182, (.return_, 1, 0, 0, 0, 0))]
def kk_53 (q : Nat) : Option Ent := lkp k_53 q
def k_54 : List (Nat × Ent) := [(0, (.aload_n 0, 1, 0, 0, 0, 0)), (1, (.getfield 18, 3, 1, 4, 2, 0)), (4, (.iload_n 1, 1, 0, 0, 0, 0)), (5, (.iconst 3, 1, 0, 0, 0, 0)), (6, (.imul, 1, 0, 0, 0, 0)), (7, (.iload_n 2, 1, 0, 0, 0, 0)), (8, (.iadd, 1, 0, 0, 0, 0)), (9, (.invokestatic 170, 3, 97, 2, 10, 0)), (12, (.lreturn, 1, 0, 0, 0, 0))]
def kk_54 (q : Nat) : Option Ent := lkp k_54 q
def k_55 : List (Nat × Ent) := [(0, (.aload_n 0, 1, 0, 0, 0, 0)), (1, (.getfield 14, 3, 0, 4, 2, 0)), (4, (.areturn, 1, 0, 0, 0, 0))]
def kk_55 (q : Nat) : Option Ent := lkp k_55 q
def k_56 : List (Nat × Ent) := [(0, (.aload_n 0, 1, 0, 0, 0, 0)), (1, (.getfield 52, 3, 9, 4, 0, 0)), (4, (.ireturn, 1, 0, 0, 0, 0))]
def kk_56 (q : Nat) : Option Ent := lkp k_56 q
def k_57 : List (Nat × Ent) := [(0, (.aload_n 0, 1, 0, 0, 0, 0)), (1, (.getfield 87, 3, 10, 4, 0, 0)), (4, (.ireturn, 1, 0, 0, 0, 0))]
def kk_57 (q : Nat) : Option Ent := lkp k_57 q
def k_58 : List (Nat × Ent) := [(0, (.aload_n 0, 1, 0, 0, 0, 0)), (1, (.getfield 32, 3, 5, 4, 2, 0)), (4, (.iload_n 1, 1, 0, 0, 0, 0)), (5, (.invokestatic 170, 3, 97, 2, 10, 0)), (8, (.lreturn, 1, 0, 0, 0, 0))]
def kk_58 (q : Nat) : Option Ent := lkp k_58 q
def k_59 : List (Nat × Ent) := [(0, (.iload_n 1, 1, 0, 0, 0, 0)), (1, (.iconst 4, 1, 0, 0, 0, 0)), (2, (.if_icmp .ge 7, 3, 9, 0, 0, 0)), (5, (.iconst 0, 1, 0, 0, 0, 0)), (6, (.goto 15, 3, 21, 0, 0, 0)), (9, (.aload_n 0, 1, 0, 0, 0, 0)), (10, (.getfield 14, 3, 0, 4, 2, 0)), (13, (.iload_n 1, 1, 0, 0, 0, 0)), (14, (.invokestatic 179, 3, 170, 1, 8, 0)), (17, (.iload_n 2, 1, 0, 0, 0, 0)), (18, (.invokevirtual 182, 3, 24, 3, 1, 0)), (21, (.istore_n 3, 1, 0, 0, 0, 0)), (22, (.aload_n 0, 1, 0, 0, 0, 0)), (23, (.iload_n 1, 1, 0, 0, 0, 0)), (24, (.iload_n 3, 1, 0, 0, 0, 0)), (25, (.invokestatic 107, 3, 46, 2, 4, 0)), (28, (.invokevirtual 147, 3, 49, 2, 4, 0)), (31, (.istore 4, 2, 0, 0, 0, 0)), (33, (.lconst 0, 1, 0, 0, 0, 0)), (34, (.lstore 5, 2, 0, 0, 0, 0)), (36, (.iconst 0, 1, 0, 0, 0, 0)), (37, (.istore 7, 2, 0, 0, 0, 0)), (39, (.iload 7, 2, 0, 0, 0, 0)), (41, (.iload 4, 2, 0, 0, 0, 0)), (43, (.if_icmp .ge 32, 3, 75, 0, 0, 0)), (46, (.lload 5, 2, 0, 0, 0, 0)), (48, (.lconst 1, 1, 0, 0, 0, 0)), (49, (.aload_n 0, 1, 0, 0, 0, 0)), (50, (.getfield 25, 3, 3, 4, 2, 0)), (53, (.aload_n 0, 1, 0, 0, 0, 0)), (54, (.getfield 29, 3, 4, 4, 2, 0)), (57, (.iload 7, 2, 0, 0, 0, 0)), (59, (.invokestatic 150, 3, 96, 2, 10, 0)), (62, (.invokestatic 150, 3, 96, 2, 10, 0)), (65, (.lshl, 1, 0, 0, 0, 0)), (66, (.lor, 1, 0, 0, 0, 0)), (67, (.lstore 5, 2, 0, 0, 0, 0)), (69, (.iinc 7 1, 3, 0, 0, 0, 0)), (72, (.goto (-33), 3, 39, 0, 0, 0)), (75, (.lload 5, 2, 0, 0, 0, 0)), (77, (.lreturn, 1, 0, 0, 0, 0))]
def kk_59 (q : Nat) : Option Ent := lkp k_59 q
def k_60 : List (Nat × Ent) := [(0, (.aload_n 0, 1, 0, 0, 0, 0)), (1, (.getfield 35, 3, 6, 4, 2, 0)), (4, (.iload_n 1, 1, 0, 0, 0, 0)), (5, (.bipush 44, 2, 0, 0, 0, 0)), (7, (.imul, 1, 0, 0, 0, 0)), (8, (.iload_n 2, 1, 0, 0, 0, 0)), (9, (.iadd, 1, 0, 0, 0, 0)), (10, (.invokestatic 150, 3, 96, 2, 10, 0)), (13, (.ireturn, 1, 0, 0, 0, 0))]
def kk_60 (q : Nat) : Option Ent := lkp k_60 q
def k_61 : List (Nat × Ent) := [(0, (.aload_n 0, 1, 0, 0, 0, 0)), (1, (.getfield 38, 3, 7, 4, 2, 0)), (4, (.iload_n 1, 1, 0, 0, 0, 0)), (5, (.bipush 44, 2, 0, 0, 0, 0)), (7, (.imul, 1, 0, 0, 0, 0)), (8, (.iload_n 2, 1, 0, 0, 0, 0)), (9, (.iadd, 1, 0, 0, 0, 0)), (10, (.invokestatic 150, 3, 96, 2, 10, 0)), (13, (.ireturn, 1, 0, 0, 0, 0))]
def kk_61 (q : Nat) : Option Ent := lkp k_61 q
def k_62 : List (Nat × Ent) := [(0, (.aload_n 0, 1, 0, 0, 0, 0)), (1, (.iconst 0, 1, 0, 0, 0, 0)), (2, (.putfield 31, 3, 6, 5, 0, 0)), (5, (.aload_n 0, 1, 0, 0, 0, 0)), (6, (.iconst 1, 1, 0, 0, 0, 0)), (7, (.putfield 35, 3, 7, 5, 0, 0)), (10, (.aload_n 0, 1, 0, 0, 0, 0)), (11, (.iconst 0, 1, 0, 0, 0, 0)), (12, (.putfield 38, 3, 8, 5, 0, 0)), (15, (.aload_n 0, 1, 0, 0, 0, 0)), (16, (.iconst 0, 1, 0, 0, 0, 0)), (17, (.putfield 41, 3, 9, 5, 0, 0)), (20, (.aload_n 0, 1, 0, 0, 0, 0)), (21, (.iconst 0, 1, 0, 0, 0, 0)), (22, (.putfield 44, 3, 10, 5, 0, 0)), (25, (.aload_n 0, 1, 0, 0, 0, 0)), (26, (.getfield 18, 3, 2, 5, 2, 0)), (29, (.lconst 0, 1, 0, 0, 0, 0)), (30, (.invokestatic 47, 3, 100, 2, 10, 0)), (33, (.return_, 1, 0, 0, 0, 0))]
def kk_62 (q : Nat) : Option Ent := lkp k_62 q
def k_63 : List (Nat × Ent) := [(0, (.aload_n 0, 1, 0, 0, 0, 0)), (1, (.invokevirtual 53, 3, 62, 1, 5, 0)), (4, (.aload_n 0, 1, 0, 0, 0, 0)), (5, (.iconst 0, 1, 0, 0, 0, 0)), (6, (.iconst 4, 1, 0, 0, 0, 0)), (7, (.invokevirtual 56, 3, 64, 3, 5, 0)), (10, (.pop, 1, 0, 0, 0, 0)), (11, (.aload_n 0, 1, 0, 0, 0, 0)), (12, (.aload_n 1, 1, 0, 0, 0, 0)), (13, (.iconst 0, 1, 0, 0, 0, 0)), (14, (.invokevirtual 60, 3, 65, 3, 5, 0)), (17, (.sipush 401, 3, 0, 0, 0, 0)), (20, (.istore_n 2, 1, 0, 0, 0, 0)), (21, (.iconst 0, 1, 0, 0, 0, 0)), (22, (.istore_n 3, 1, 0, 0, 0, 0)), (23, (.iload_n 3, 1, 0, 0, 0, 0)), (24, (.iload_n 2, 1, 0, 0, 0, 0)), (25, (.if_icmp .ge 95, 3, 120, 0, 0, 0)), (28, (.aload_n 0, 1, 0, 0, 0, 0)), (29, (.getfield 31, 3, 6, 5, 0, 0)), (32, (.ifCond .le 88, 3, 120, 0, 0, 0)), (35, (.aload_n 0, 1, 0, 0, 0, 0)), (36, (.getfield 38, 3, 8, 5, 0, 0)), (39, (.sipush 200, 3, 0, 0, 0, 0)), (42, (.if_icmp .ge 78, 3, 120, 0, 0, 0)), (45, (.aload_n 0, 1, 0, 0, 0, 0)), (46, (.getfield 25, 3, 4, 5, 2, 0)), (49, (.aload_n 0, 1, 0, 0, 0, 0)), (50, (.getfield 31, 3, 6, 5, 0, 0)), (53, (.iconst 1, 1, 0, 0, 0, 0)), (54, (.isub, 1, 0, 0, 0, 0)), (55, (.invokestatic 64, 3, 96, 2, 10, 0)), (58, (.istore 4, 2, 0, 0, 0, 0)), (60, (.iload 4, 2, 0, 0, 0, 0)), (62, (.aload_n 1, 1, 0, 0, 0, 0)), (63, (.aload_n 0, 1, 0, 0, 0, 0)), (64, (.getfield 22, 3, 3, 5, 2, 0)), (67, (.aload_n 0, 1, 0, 0, 0, 0)), (68, (.getfield 31, 3, 6, 5, 0, 0)), (71, (.iconst 1, 1, 0, 0, 0, 0)), (72, (.isub, 1, 0, 0, 0, 0)), (73, (.invokestatic 64, 3, 96, 2, 10, 0)), (76, (.invokevirtual 68, 3, 89, 2, 6, 0)), (79, (.if_icmp .ge 30, 3, 109, 0, 0, 0)), (82, (.aload_n 0, 1, 0, 0, 0, 0)), (83, (.getfield 25, 3, 4, 5, 2, 0)), (86, (.aload_n 0, 1, 0, 0, 0, 0)), (87, (.getfield 31, 3, 6, 5, 0, 0)), (90, (.iconst 1, 1, 0, 0, 0, 0)), (91, (.isub, 1, 0, 0, 0, 0)), (92, (.iload 4, 2, 0, 0, 0, 0)), (94, (.iconst 1, 1, 0, 0, 0, 0)), (95, (.iadd, 1, 0, 0, 0, 0)), (96, (.invokestatic 74, 3, 98, 3, 10, 0)), (99, (.aload_n 0, 1, 0, 0, 0, 0)), (100, (.aload_n 1, 1, 0, 0, 0, 0)), (101, (.iload 4, 2, 0, 0, 0, 0)), (103, (.invokevirtual 78, 3, 67, 3, 5, 0)), (106, (.goto 8, 3, 114, 0, 0, 0)), (109, (.aload_n 0, 1, 0, 0, 0, 0)), (110, (.aload_n 1, 1, 0, 0, 0, 0)), (111, (.invokevirtual 81, 3, 66, 2, 5, 0)), (114, (.iinc 3 1, 3, 0, 0, 0, 0)), (117, (.goto (-94), 3, 23, 0, 0, 0)), (120, (.return_, 1, 0, 0, 0, 0))]
def kk_63 (q : Nat) : Option Ent := lkp k_63 q
def k_64 : List (Nat × Ent) := [(0, (.aload_n 0, 1, 0, 0, 0, 0)), (1, (.getfield 35, 3, 7, 5, 0, 0)), (4, (.istore_n 3, 1, 0, 0, 0, 0)), (5, (.iconst 0, 1, 0, 0, 0, 0)), (6, (.istore 4, 2, 0, 0, 0, 0)), (8, (.iload 4, 2, 0, 0, 0, 0)), (10, (.iload_n 2, 1, 0, 0, 0, 0)), (11, (.if_icmp .ge 36, 3, 47, 0, 0, 0)), (14, (.aload_n 0, 1, 0, 0, 0, 0)), (15, (.getfield 11, 3, 0, 5, 2, 0)), (18, (.iload_n 3, 1, 0, 0, 0, 0)), (19, (.iload 4, 2, 0, 0, 0, 0)), (21, (.iadd, 1, 0, 0, 0, 0)), (22, (.iconst 0, 1, 0, 0, 0, 0)), (23, (.invokestatic 74, 3, 98, 3, 10, 0)), (26, (.aload_n 0, 1, 0, 0, 0, 0)), (27, (.getfield 15, 3, 1, 5, 2, 0)), (30, (.iload_n 3, 1, 0, 0, 0, 0)), (31, (.iload 4, 2, 0, 0, 0, 0)), (33, (.iadd, 1, 0, 0, 0, 0)), (34, (.iload_n 1, 1, 0, 0, 0, 0)), (35, (.iload 4, 2, 0, 0, 0, 0)), (37, (.iadd, 1, 0, 0, 0, 0)), (38, (.invokestatic 74, 3, 98, 3, 10, 0)), (41, (.iinc 4 1, 3, 0, 0, 0, 0)), (44, (.goto (-36), 3, 8, 0, 0, 0)), (47, (.aload_n 0, 1, 0, 0, 0, 0)), (48, (.dup, 1, 0, 0, 0, 0)), (49, (.getfield 35, 3, 7, 5, 0, 0)), (52, (.iload_n 2, 1, 0, 0, 0, 0)), (53, (.iadd, 1, 0, 0, 0, 0)), (54, (.putfield 35, 3, 7, 5, 0, 0)), (57, (.iload_n 3, 1, 0, 0, 0, 0)), (58, (.ireturn, 1, 0, 0, 0, 0))]
def kk_64 (q : Nat) : Option Ent := lkp k_64 q
def k_65 : List (Nat × Ent) := [(0, (.aload_n 0, 1, 0, 0, 0, 0)), (1, (.getfield 22, 3, 3, 5, 2, 0)), (4, (.aload_n 0, 1, 0, 0, 0, 0)), (5, (.getfield 31, 3, 6, 5, 0, 0)), (8, (.iload_n 2, 1, 0, 0, 0, 0)), (9, (.invokestatic 74, 3, 98, 3, 10, 0)), (12, (.aload_n 0, 1, 0, 0, 0, 0)), (13, (.getfield 25, 3, 4, 5, 2, 0)), (16, (.aload_n 0, 1, 0, 0, 0, 0)), (17, (.getfield 31, 3, 6, 5, 0, 0)), (20, (.aload_n 1, 1, 0, 0, 0, 0)), (21, (.iload_n 2, 1, 0, 0, 0, 0)), (22, (.invokevirtual 85, 3, 88, 2, 6, 0)), (25, (.invokestatic 74, 3, 98, 3, 10, 0)), (28, (.aload_n 0, 1, 0, 0, 0, 0)), (29, (.getfield 28, 3, 5, 5, 2, 0)), (32, (.aload_n 0, 1, 0, 0, 0, 0)), (33, (.getfield 31, 3, 6, 5, 0, 0)), (36, (.aload_n 0, 1, 0, 0, 0, 0)), (37, (.iload_n 2, 1, 0, 0, 0, 0)), (38, (.invokestatic 88, 3, 168, 1, 8, 0)), (41, (.iconst 4, 1, 0, 0, 0, 0)), (42, (.invokevirtual 56, 3, 64, 3, 5, 0)), (45, (.invokestatic 74, 3, 98, 3, 10, 0)), (48, (.aload_n 0, 1, 0, 0, 0, 0)), (49, (.dup, 1, 0, 0, 0, 0)), (50, (.getfield 31, 3, 6, 5, 0, 0)), (53, (.iconst 1, 1, 0, 0, 0, 0)), (54, (.iadd, 1, 0, 0, 0, 0)), (55, (.putfield 31, 3, 6, 5, 0, 0)), (58, (.return_, 1, 0, 0, 0, 0))]
def kk_65 (q : Nat) : Option Ent := lkp k_65 q
def k_66 : List (Nat × Ent) := [(0, (.aload_n 0, 1, 0, 0, 0, 0)), (1, (.aload_n 0, 1, 0, 0, 0, 0)), (2, (.aload_n 0, 1, 0, 0, 0, 0)), (3, (.getfield 22, 3, 3, 5, 2, 0)), (6, (.aload_n 0, 1, 0, 0, 0, 0)), (7, (.getfield 31, 3, 6, 5, 0, 0)), (10, (.iconst 1, 1, 0, 0, 0, 0)), (11, (.isub, 1, 0, 0, 0, 0)), (12, (.invokestatic 64, 3, 96, 2, 10, 0)), (15, (.invokestatic 91, 3, 169, 1, 8, 0)), (18, (.invokevirtual 94, 3, 72, 2, 5, 0)), (21, (.invokevirtual 97, 3, 73, 2, 5, 0)), (24, (.istore_n 2, 1, 0, 0, 0, 0)), (25, (.aload_n 0, 1, 0, 0, 0, 0)), (26, (.dup, 1, 0, 0, 0, 0)), (27, (.getfield 31, 3, 6, 5, 0, 0)), (30, (.iconst 1, 1, 0, 0, 0, 0)), (31, (.isub, 1, 0, 0, 0, 0)), (32, (.putfield 31, 3, 6, 5, 0, 0)), (35, (.aload_n 0, 1, 0, 0, 0, 0)), (36, (.getfield 31, 3, 6, 5, 0, 0)), (39, (.ifCond .le 33, 3, 72, 0, 0, 0)), (42, (.aload_n 0, 1, 0, 0, 0, 0)), (43, (.getfield 25, 3, 4, 5, 2, 0)), (46, (.aload_n 0, 1, 0, 0, 0, 0)), (47, (.getfield 31, 3, 6, 5, 0, 0)), (50, (.iconst 1, 1, 0, 0, 0, 0)), (51, (.isub, 1, 0, 0, 0, 0)), (52, (.invokestatic 64, 3, 96, 2, 10, 0)), (55, (.iconst 1, 1, 0, 0, 0, 0)), (56, (.isub, 1, 0, 0, 0, 0)), (57, (.istore_n 3, 1, 0, 0, 0, 0)), (58, (.aload_n 0, 1, 0, 0, 0, 0)), (59, (.aload_n 0, 1, 0, 0, 0, 0)), (60, (.aload_n 1, 1, 0, 0, 0, 0)), (61, (.iload_n 3, 1, 0, 0, 0, 0)), (62, (.invokevirtual 100, 3, 91, 2, 6, 0)), (65, (.invokevirtual 94, 3, 72, 2, 5, 0)), (68, (.iload_n 2, 1, 0, 0, 0, 0)), (69, (.invokevirtual 103, 3, 74, 3, 5, 0)), (72, (.return_, 1, 0, 0, 0, 0))]
def kk_66 (q : Nat) : Option Ent := lkp k_66 q
def k_67 : List (Nat × Ent) := [(0, (.aload_n 0, 1, 0, 0, 0, 0)), (1, (.aload_n 1, 1, 0, 0, 0, 0)), (2, (.iload_n 2, 1, 0, 0, 0, 0)), (3, (.invokevirtual 100, 3, 91, 2, 6, 0)), (6, (.invokevirtual 94, 3, 72, 2, 5, 0)), (9, (.istore_n 3, 1, 0, 0, 0, 0)), (10, (.aload_n 0, 1, 0, 0, 0, 0)), (11, (.aload_n 1, 1, 0, 0, 0, 0)), (12, (.iload_n 2, 1, 0, 0, 0, 0)), (13, (.invokevirtual 107, 3, 92, 2, 6, 0)), (16, (.invokevirtual 94, 3, 72, 2, 5, 0)), (19, (.istore 4, 2, 0, 0, 0, 0)), (21, (.aload_n 0, 1, 0, 0, 0, 0)), (22, (.dup, 1, 0, 0, 0, 0)), (23, (.getfield 38, 3, 8, 5, 0, 0)), (26, (.iconst 1, 1, 0, 0, 0, 0)), (27, (.iadd, 1, 0, 0, 0, 0)), (28, (.putfield 38, 3, 8, 5, 0, 0)), (31, (.aload_n 1, 1, 0, 0, 0, 0)), (32, (.iload_n 2, 1, 0, 0, 0, 0)), (33, (.invokevirtual 110, 3, 90, 2, 6, 0)), (36, (.tableswitch 147 0 5 #[40, 50, 64, 78, 96, 128], 40, 0, 0, 0, 0)), (76, (.aload_n 0, 1, 0, 0, 0, 0)), (77, (.iload_n 3, 1, 0, 0, 0, 0)), (78, (.iload 4, 2, 0, 0, 0, 0)), (80, (.invokevirtual 103, 3, 74, 3, 5, 0)), (83, (.goto 116, 3, 199, 0, 0, 0)), (86, (.aload_n 0, 1, 0, 0, 0, 0)), (87, (.iload_n 3, 1, 0, 0, 0, 0)), (88, (.aload_n 0, 1, 0, 0, 0, 0)), (89, (.iload 4, 2, 0, 0, 0, 0)), (91, (.invokevirtual 97, 3, 73, 2, 5, 0)), (94, (.invokevirtual 103, 3, 74, 3, 5, 0)), (97, (.goto 102, 3, 199, 0, 0, 0)), (100, (.aload_n 0, 1, 0, 0, 0, 0)), (101, (.iload_n 3, 1, 0, 0, 0, 0)), (102, (.aload_n 0, 1, 0, 0, 0, 0)), (103, (.iload 4, 2, 0, 0, 0, 0)), (105, (.invokevirtual 97, 3, 73, 2, 5, 0)), (108, (.invokevirtual 113, 3, 68, 3, 5, 0)), (111, (.goto 88, 3, 199, 0, 0, 0)), (114, (.aload_n 0, 1, 0, 0, 0, 0)), (115, (.aload_n 0, 1, 0, 0, 0, 0)), (116, (.iload_n 3, 1, 0, 0, 0, 0)), (117, (.invokevirtual 97, 3, 73, 2, 5, 0)), (120, (.aload_n 0, 1, 0, 0, 0, 0)), (121, (.iload 4, 2, 0, 0, 0, 0)), (123, (.invokevirtual 97, 3, 73, 2, 5, 0)), (126, (.invokevirtual 116, 3, 69, 3, 5, 0)), (129, (.goto 70, 3, 199, 0, 0, 0)), (132, (.aload_n 0, 1, 0, 0, 0, 0)), (133, (.dup, 1, 0, 0, 0, 0)), (134, (.getfield 44, 3, 10, 5, 0, 0)), (137, (.iconst 1, 1, 0, 0, 0, 0)), (138, (.iadd, 1, 0, 0, 0, 0)), (139, (.putfield 44, 3, 10, 5, 0, 0)), (142, (.aload_n 0, 1, 0, 0, 0, 0)), (143, (.iload_n 3, 1, 0, 0, 0, 0)), (144, (.aload_n 0, 1, 0, 0, 0, 0)), (145, (.aload_n 1, 1, 0, 0, 0, 0)), (146, (.iload_n 2, 1, 0, 0, 0, 0)), (147, (.invokevirtual 119, 3, 95, 2, 6, 0)), (150, (.iconst 0, 1, 0, 0, 0, 0)), (151, (.invokestatic 122, 3, 171, 2, 8, 0)), (154, (.iconst 3, 1, 0, 0, 0, 0)), (155, (.invokevirtual 56, 3, 64, 3, 5, 0)), (158, (.invokevirtual 103, 3, 74, 3, 5, 0)), (161, (.goto 38, 3, 199, 0, 0, 0)), (164, (.aload_n 0, 1, 0, 0, 0, 0)), (165, (.iload_n 3, 1, 0, 0, 0, 0)), (166, (.aload_n 0, 1, 0, 0, 0, 0)), (167, (.iload 4, 2, 0, 0, 0, 0)), (169, (.invokevirtual 97, 3, 73, 2, 5, 0)), (172, (.aload_n 1, 1, 0, 0, 0, 0)), (173, (.iload_n 2, 1, 0, 0, 0, 0)), (174, (.invokevirtual 125, 3, 93, 2, 6, 0)), (177, (.invokevirtual 128, 3, 70, 4, 5, 0)), (180, (.goto 19, 3, 199, 0, 0, 0)), (183, (.aload_n 0, 1, 0, 0, 0, 0)), (184, (.aload_n 1, 1, 0, 0, 0, 0)), (185, (.aload_n 1, 1, 0, 0, 0, 0)), (186, (.iload_n 2, 1, 0, 0, 0, 0)), (187, (.invokevirtual 125, 3, 93, 2, 6, 0)), (190, (.aload_n 0, 1, 0, 0, 0, 0)), (191, (.iload 4, 2, 0, 0, 0, 0)), (193, (.invokevirtual 97, 3, 73, 2, 5, 0)), (196, (.invokevirtual 132, 3, 71, 4, 5, 0)), (199, (.return_, 1, 0, 0, 0, 0))]
def kk_67 (q : Nat) : Option Ent := lkp k_67 q
def k_68 : List (Nat × Ent) := [(0, (.iload_n 2, 1, 0, 0, 0, 0)), (1, (.ifCond .ne 16, 3, 17, 0, 0, 0)), (4, (.aload_n 0, 1, 0, 0, 0, 0)), (5, (.dup, 1, 0, 0, 0, 0)), (6, (.getfield 41, 3, 9, 5, 0, 0)), (9, (.iconst 1, 1, 0, 0, 0, 0)), (10, (.iadd, 1, 0, 0, 0, 0)), (11, (.putfield 41, 3, 9, 5, 0, 0)), (14, (.goto 13, 3, 27, 0, 0, 0)), (17, (.aload_n 0, 1, 0, 0, 0, 0)), (18, (.iload_n 1, 1, 0, 0, 0, 0)), (19, (.aload_n 0, 1, 0, 0, 0, 0)), (20, (.iload_n 2, 1, 0, 0, 0, 0)), (21, (.invokevirtual 97, 3, 73, 2, 5, 0)), (24, (.invokevirtual 103, 3, 74, 3, 5, 0)), (27, (.return_, 1, 0, 0, 0, 0))]
def kk_68 (q : Nat) : Option Ent := lkp k_68 q
def k_69 : List (Nat × Ent) := [(0, (.iload_n 1, 1, 0, 0, 0, 0)), (1, (.ifCond .ne 16, 3, 17, 0, 0, 0)), (4, (.aload_n 0, 1, 0, 0, 0, 0)), (5, (.dup, 1, 0, 0, 0, 0)), (6, (.getfield 41, 3, 9, 5, 0, 0)), (9, (.iconst 1, 1, 0, 0, 0, 0)), (10, (.iadd, 1, 0, 0, 0, 0)), (11, (.putfield 41, 3, 9, 5, 0, 0)), (14, (.goto 9, 3, 23, 0, 0, 0)), (17, (.aload_n 0, 1, 0, 0, 0, 0)), (18, (.iload_n 1, 1, 0, 0, 0, 0)), (19, (.iload_n 2, 1, 0, 0, 0, 0)), (20, (.invokevirtual 103, 3, 74, 3, 5, 0)), (23, (.return_, 1, 0, 0, 0, 0))]
def kk_69 (q : Nat) : Option Ent := lkp k_69 q
def k_70 : List (Nat × Ent) := [(0, (.iload_n 2, 1, 0, 0, 0, 0)), (1, (.ifCond .eq 7, 3, 8, 0, 0, 0)), (4, (.iload_n 3, 1, 0, 0, 0, 0)), (5, (.ifCond .ne 10, 3, 15, 0, 0, 0)), (8, (.aload_n 0, 1, 0, 0, 0, 0)), (9, (.iload_n 1, 1, 0, 0, 0, 0)), (10, (.iload_n 2, 1, 0, 0, 0, 0)), (11, (.invokevirtual 103, 3, 74, 3, 5, 0)), (14, (.return_, 1, 0, 0, 0, 0)), (15, (.aload_n 0, 1, 0, 0, 0, 0)), (16, (.getfield 15, 3, 1, 5, 2, 0)), (19, (.iload_n 2, 1, 0, 0, 0, 0)), (20, (.invokestatic 64, 3, 96, 2, 10, 0)), (23, (.bipush 20, 2, 0, 0, 0, 0)), (25, (.isub, 1, 0, 0, 0, 0)), (26, (.istore 4, 2, 0, 0, 0, 0)), (28, (.iload 4, 2, 0, 0, 0, 0)), (30, (.ifCond .lt 13, 3, 43, 0, 0, 0)), (33, (.iload 4, 2, 0, 0, 0, 0)), (35, (.iconst 3, 1, 0, 0, 0, 0)), (36, (.irem, 1, 0, 0, 0, 0)), (37, (.iload_n 3, 1, 0, 0, 0, 0)), (38, (.iadd, 1, 0, 0, 0, 0)), (39, (.iconst 3, 1, 0, 0, 0, 0)), (40, (.if_icmp .lt 16, 3, 56, 0, 0, 0)), (43, (.aload_n 0, 1, 0, 0, 0, 0)), (44, (.dup, 1, 0, 0, 0, 0)), (45, (.getfield 41, 3, 9, 5, 0, 0)), (48, (.iconst 1, 1, 0, 0, 0, 0)), (49, (.iadd, 1, 0, 0, 0, 0)), (50, (.putfield 41, 3, 9, 5, 0, 0)), (53, (.goto 11, 3, 64, 0, 0, 0)), (56, (.aload_n 0, 1, 0, 0, 0, 0)), (57, (.iload_n 1, 1, 0, 0, 0, 0)), (58, (.iload_n 2, 1, 0, 0, 0, 0)), (59, (.iload_n 3, 1, 0, 0, 0, 0)), (60, (.iadd, 1, 0, 0, 0, 0)), (61, (.invokevirtual 103, 3, 74, 3, 5, 0)), (64, (.return_, 1, 0, 0, 0, 0))]
def kk_70 (q : Nat) : Option Ent := lkp k_70 q
def k_71 : List (Nat × Ent) := [(0, (.aload_n 0, 1, 0, 0, 0, 0)), (1, (.getfield 31, 3, 6, 5, 0, 0)), (4, (.bipush 6, 2, 0, 0, 0, 0)), (6, (.if_icmp .ge 32, 3, 38, 0, 0, 0)), (9, (.aload_n 0, 1, 0, 0, 0, 0)), (10, (.getfield 38, 3, 8, 5, 0, 0)), (13, (.sipush 200, 3, 0, 0, 0, 0)), (16, (.if_icmp .ge 22, 3, 38, 0, 0, 0)), (19, (.aload_n 0, 1, 0, 0, 0, 0)), (20, (.aload_n 1, 1, 0, 0, 0, 0)), (21, (.iload_n 2, 1, 0, 0, 0, 0)), (22, (.invokevirtual 60, 3, 65, 3, 5, 0)), (25, (.aload_n 0, 1, 0, 0, 0, 0)), (26, (.aload_n 0, 1, 0, 0, 0, 0)), (27, (.iload_n 2, 1, 0, 0, 0, 0)), (28, (.invokestatic 88, 3, 168, 1, 8, 0)), (31, (.invokevirtual 94, 3, 72, 2, 5, 0)), (34, (.iload_n 3, 1, 0, 0, 0, 0)), (35, (.invokevirtual 103, 3, 74, 3, 5, 0)), (38, (.return_, 1, 0, 0, 0, 0))]
def kk_71 (q : Nat) : Option Ent := lkp k_71 q
def k_72 : List (Nat × Ent) := [(0, (.iload_n 1, 1, 0, 0, 0, 0)), (1, (.iconst 4, 1, 0, 0, 0, 0)), (2, (.if_icmp .ge 7, 3, 9, 0, 0, 0)), (5, (.iconst 1, 1, 0, 0, 0, 0)), (6, (.iload_n 1, 1, 0, 0, 0, 0)), (7, (.iadd, 1, 0, 0, 0, 0)), (8, (.ireturn, 1, 0, 0, 0, 0)), (9, (.aload_n 0, 1, 0, 0, 0, 0)), (10, (.getfield 28, 3, 5, 5, 2, 0)), (13, (.aload_n 0, 1, 0, 0, 0, 0)), (14, (.getfield 31, 3, 6, 5, 0, 0)), (17, (.iconst 1, 1, 0, 0, 0, 0)), (18, (.isub, 1, 0, 0, 0, 0)), (19, (.invokestatic 64, 3, 96, 2, 10, 0)), (22, (.iload_n 1, 1, 0, 0, 0, 0)), (23, (.iconst 4, 1, 0, 0, 0, 0)), (24, (.isub, 1, 0, 0, 0, 0)), (25, (.iconst 4, 1, 0, 0, 0, 0)), (26, (.irem, 1, 0, 0, 0, 0)), (27, (.iadd, 1, 0, 0, 0, 0)), (28, (.ireturn, 1, 0, 0, 0, 0))]
def kk_72 (q : Nat) : Option Ent := lkp k_72 q
def k_73 : List (Nat × Ent) := [(0, (.aload_n 0, 1, 0, 0, 0, 0)), (1, (.getfield 11, 3, 0, 5, 2, 0)), (4, (.iload_n 1, 1, 0, 0, 0, 0)), (5, (.invokestatic 64, 3, 96, 2, 10, 0)), (8, (.ireturn, 1, 0, 0, 0, 0))]
def kk_73 (q : Nat) : Option Ent := lkp k_73 q
def k_74 : List (Nat × Ent) := [(0, (.aload_n 0, 1, 0, 0, 0, 0)), (1, (.getfield 11, 3, 0, 5, 2, 0)), (4, (.iload_n 1, 1, 0, 0, 0, 0)), (5, (.iload_n 2, 1, 0, 0, 0, 0)), (6, (.invokestatic 74, 3, 98, 3, 10, 0)), (9, (.iload_n 2, 1, 0, 0, 0, 0)), (10, (.ifCond .eq 28, 3, 38, 0, 0, 0)), (13, (.aload_n 0, 1, 0, 0, 0, 0)), (14, (.getfield 18, 3, 2, 5, 2, 0)), (17, (.aload_n 0, 1, 0, 0, 0, 0)), (18, (.getfield 15, 3, 1, 5, 2, 0)), (21, (.iload_n 1, 1, 0, 0, 0, 0)), (22, (.invokestatic 64, 3, 96, 2, 10, 0)), (25, (.lconst 1, 1, 0, 0, 0, 0)), (26, (.aload_n 0, 1, 0, 0, 0, 0)), (27, (.getfield 15, 3, 1, 5, 2, 0)), (30, (.iload_n 2, 1, 0, 0, 0, 0)), (31, (.invokestatic 64, 3, 96, 2, 10, 0)), (34, (.lshl, 1, 0, 0, 0, 0)), (35, (.invokestatic 136, 3, 99, 3, 10, 0)), (38, (.return_, 1, 0, 0, 0, 0))]
def kk_74 (q : Nat) : Option Ent := lkp k_74 q
def k_75 : List (Nat × Ent) := [(0, (.aload_n 0, 1, 0, 0, 0, 0)), (1, (.getfield 38, 3, 8, 5, 0, 0)), (4, (.ireturn, 1, 0, 0, 0, 0))]
def kk_75 (q : Nat) : Option Ent := lkp k_75 q
def k_76 : List (Nat × Ent) := [(0, (.aload_n 0, 1, 0, 0, 0, 0)), (1, (.getfield 41, 3, 9, 5, 0, 0)), (4, (.ireturn, 1, 0, 0, 0, 0))]
def kk_76 (q : Nat) : Option Ent := lkp k_76 q
def k_77 : List (Nat × Ent) := [(0, (.aload_n 0, 1, 0, 0, 0, 0)), (1, (.getfield 44, 3, 10, 5, 0, 0)), (4, (.ireturn, 1, 0, 0, 0, 0))]
def kk_77 (q : Nat) : Option Ent := lkp k_77 q
def k_78 : List (Nat × Ent) := [(0, (.aload_n 0, 1, 0, 0, 0, 0)), (1, (.getfield 18, 3, 2, 5, 2, 0)), (4, (.iload_n 1, 1, 0, 0, 0, 0)), (5, (.invokestatic 140, 3, 97, 2, 10, 0)), (8, (.lreturn, 1, 0, 0, 0, 0))]
def kk_78 (q : Nat) : Option Ent := lkp k_78 q
def k_79 : List (Nat × Ent) := [(0, (.aload_n 0, 1, 0, 0, 0, 0)), (1, (.getfield 30, 3, 2, 6, 0, 0)), (4, (.ireturn, 1, 0, 0, 0, 0))]
def kk_79 (q : Nat) : Option Ent := lkp k_79 q
def k_80 : List (Nat × Ent) := [(0, (.aload_n 0, 1, 0, 0, 0, 0)), (1, (.iload_n 1, 1, 0, 0, 0, 0)), (2, (.putfield 30, 3, 2, 6, 0, 0)), (5, (.return_, 1, 0, 0, 0, 0))]
def kk_80 (q : Nat) : Option Ent := lkp k_80 q
def k_81 : List (Nat × Ent) := [(0, (.aload_n 2, 1, 0, 0, 0, 0)), (1, (.invokevirtual 34, 3, 32, 1, 2, 0)), (4, (.bipush 12, 2, 0, 0, 0, 0)), (6, (.if_icmp .gt 39, 3, 45, 0, 0, 0)), (9, (.aload_n 2, 1, 0, 0, 0, 0)), (10, (.invokevirtual 40, 3, 33, 1, 2, 0)), (13, (.aload_n 0, 1, 0, 0, 0, 0)), (14, (.iload_n 1, 1, 0, 0, 0, 0)), (15, (.iconst 4, 1, 0, 0, 0, 0)), (16, (.invokevirtual 43, 3, 82, 3, 6, 0)), (19, (.iadd, 1, 0, 0, 0, 0)), (20, (.bipush 8, 2, 0, 0, 0, 0)), (22, (.if_icmp .gt 23, 3, 45, 0, 0, 0)), (25, (.aload_n 2, 1, 0, 0, 0, 0)), (26, (.invokevirtual 47, 3, 34, 1, 2, 0)), (29, (.aload_n 0, 1, 0, 0, 0, 0)), (30, (.iload_n 1, 1, 0, 0, 0, 0)), (31, (.bipush 6, 2, 0, 0, 0, 0)), (33, (.invokevirtual 43, 3, 82, 3, 6, 0)), (36, (.iadd, 1, 0, 0, 0, 0)), (37, (.iconst 5, 1, 0, 0, 0, 0)), (38, (.if_icmp .gt 7, 3, 45, 0, 0, 0)), (41, (.iconst 1, 1, 0, 0, 0, 0)), (42, (.goto 4, 3, 46, 0, 0, 0)), (45, (.iconst 0, 1, 0, 0, 0, 0)), (46, (.ireturn, 1, 1, 0, 0, 0))]
def kk_81 (q : Nat) : Option Ent := lkp k_81 q
def k_82 : List (Nat × Ent) := [(0, (.iconst 0, 1, 0, 0, 0, 0)), (1, (.istore_n 3, 1, 0, 0, 0, 0)), (2, (.iconst 0, 1, 0, 0, 0, 0)), (3, (.istore 4, 2, 0, 0, 0, 0)), (5, (.iload 4, 2, 0, 0, 0, 0)), (7, (.aload_n 0, 1, 0, 0, 0, 0)), (8, (.invokevirtual 50, 3, 86, 1, 6, 0)), (11, (.if_icmp .ge 32, 3, 43, 0, 0, 0)), (14, (.aload_n 0, 1, 0, 0, 0, 0)), (15, (.iload 4, 2, 0, 0, 0, 0)), (17, (.invokevirtual 51, 3, 90, 2, 6, 0)), (20, (.iload_n 2, 1, 0, 0, 0, 0)), (21, (.if_icmp .ne 16, 3, 37, 0, 0, 0)), (24, (.aload_n 0, 1, 0, 0, 0, 0)), (25, (.iload 4, 2, 0, 0, 0, 0)), (27, (.invokevirtual 55, 3, 94, 2, 6, 0)), (30, (.iload_n 1, 1, 0, 0, 0, 0)), (31, (.if_icmp .eq 6, 3, 37, 0, 0, 0)), (34, (.iinc 3 1, 3, 0, 0, 0, 0)), (37, (.iinc 4 1, 3, 0, 0, 0, 0)), (40, (.goto (-35), 3, 5, 0, 0, 0)), (43, (.iload_n 3, 1, 0, 0, 0, 0)), (44, (.ireturn, 1, 0, 0, 0, 0))]
def kk_82 (q : Nat) : Option Ent := lkp k_82 q
def k_83 : List (Nat × Ent) := [(0, (.iconst 0, 1, 0, 0, 0, 0)), (1, (.istore_n 3, 1, 0, 0, 0, 0)), (2, (.iload_n 3, 1, 0, 0, 0, 0)), (3, (.bipush 12, 2, 0, 0, 0, 0)), (5, (.if_icmp .ge 27, 3, 32, 0, 0, 0)), (8, (.aload_n 0, 1, 0, 0, 0, 0)), (9, (.getfield 9, 3, 0, 6, 2, 0)), (12, (.bipush 12, 2, 0, 0, 0, 0)), (14, (.iload_n 1, 1, 0, 0, 0, 0)), (15, (.imul, 1, 0, 0, 0, 0)), (16, (.iload_n 3, 1, 0, 0, 0, 0)), (17, (.iadd, 1, 0, 0, 0, 0)), (18, (.aload_n 2, 1, 0, 0, 0, 0)), (19, (.iload_n 3, 1, 0, 0, 0, 0)), (20, (.invokevirtual 58, 3, 35, 2, 2, 0)), (23, (.invokestatic 61, 3, 98, 3, 10, 0)), (26, (.iinc 3 1, 3, 0, 0, 0, 0)), (29, (.goto (-27), 3, 2, 0, 0, 0)), (32, (.aload_n 0, 1, 0, 0, 0, 0)), (33, (.getfield 15, 3, 1, 6, 2, 0)), (36, (.iload_n 1, 1, 0, 0, 0, 0)), (37, (.aload_n 2, 1, 0, 0, 0, 0)), (38, (.invokevirtual 34, 3, 32, 1, 2, 0)), (41, (.invokestatic 61, 3, 98, 3, 10, 0)), (44, (.aload_n 0, 1, 0, 0, 0, 0)), (45, (.invokevirtual 67, 3, 85, 1, 6, 0)), (48, (.return_, 1, 0, 0, 0, 0))]
def kk_83 (q : Nat) : Option Ent := lkp k_83 q
def k_84 : List (Nat × Ent) := [(0, (.aload_n 1, 1, 0, 0, 0, 0)), (1, (.getfield 9, 3, 0, 6, 2, 0)), (4, (.aload_n 0, 1, 0, 0, 0, 0)), (5, (.getfield 9, 3, 0, 6, 2, 0)), (8, (.invokestatic 70, 3, 101, 2, 10, 0)), (11, (.aload_n 1, 1, 0, 0, 0, 0)), (12, (.getfield 15, 3, 1, 6, 2, 0)), (15, (.aload_n 0, 1, 0, 0, 0, 0)), (16, (.getfield 15, 3, 1, 6, 2, 0)), (19, (.invokestatic 70, 3, 101, 2, 10, 0)), (22, (.aload_n 0, 1, 0, 0, 0, 0)), (23, (.aload_n 1, 1, 0, 0, 0, 0)), (24, (.getfield 30, 3, 2, 6, 0, 0)), (27, (.putfield 30, 3, 2, 6, 0, 0)), (30, (.aload_n 0, 1, 0, 0, 0, 0)), (31, (.invokevirtual 67, 3, 85, 1, 6, 0)), (34, (.return_, 1, 0, 0, 0, 0))]
def kk_84 (q : Nat) : Option Ent := lkp k_84 q
def k_85 : List (Nat × Ent) := [(0, (.iconst 0, 1, 0, 0, 0, 0)), (1, (.istore_n 1, 1, 0, 0, 0, 0)), (2, (.aload_n 0, 1, 0, 0, 0, 0)), (3, (.iconst 0, 1, 0, 0, 0, 0)), (4, (.putfield 74, 3, 7, 6, 0, 0)), (7, (.iconst 0, 1, 0, 0, 0, 0)), (8, (.istore_n 2, 1, 0, 0, 0, 0)), (9, (.iload_n 2, 1, 0, 0, 0, 0)), (10, (.iconst 4, 1, 0, 0, 0, 0)), (11, (.if_icmp .ge 115, 3, 126, 0, 0, 0)), (14, (.aload_n 0, 1, 0, 0, 0, 0)), (15, (.getfield 27, 3, 6, 6, 2, 0)), (18, (.iload_n 2, 1, 0, 0, 0, 0)), (19, (.iload_n 1, 1, 0, 0, 0, 0)), (20, (.invokestatic 61, 3, 98, 3, 10, 0)), (23, (.aload_n 0, 1, 0, 0, 0, 0)), (24, (.getfield 15, 3, 1, 6, 2, 0)), (27, (.iload_n 2, 1, 0, 0, 0, 0)), (28, (.invokestatic 77, 3, 96, 2, 10, 0)), (31, (.istore_n 3, 1, 0, 0, 0, 0)), (32, (.iconst 0, 1, 0, 0, 0, 0)), (33, (.istore 4, 2, 0, 0, 0, 0)), (35, (.iload 4, 2, 0, 0, 0, 0)), (37, (.iload_n 3, 1, 0, 0, 0, 0)), (38, (.if_icmp .ge 82, 3, 120, 0, 0, 0)), (41, (.aload_n 0, 1, 0, 0, 0, 0)), (42, (.getfield 9, 3, 0, 6, 2, 0)), (45, (.bipush 12, 2, 0, 0, 0, 0)), (47, (.iload_n 2, 1, 0, 0, 0, 0)), (48, (.imul, 1, 0, 0, 0, 0)), (49, (.iload 4, 2, 0, 0, 0, 0)), (51, (.iadd, 1, 0, 0, 0, 0)), (52, (.invokestatic 77, 3, 96, 2, 10, 0)), (55, (.istore 5, 2, 0, 0, 0, 0)), (57, (.aload_n 0, 1, 0, 0, 0, 0)), (58, (.getfield 18, 3, 3, 6, 2, 0)), (61, (.iload_n 1, 1, 0, 0, 0, 0)), (62, (.iload 5, 2, 0, 0, 0, 0)), (64, (.invokestatic 61, 3, 98, 3, 10, 0)), (67, (.aload_n 0, 1, 0, 0, 0, 0)), (68, (.getfield 21, 3, 4, 6, 2, 0)), (71, (.iload_n 1, 1, 0, 0, 0, 0)), (72, (.iload_n 2, 1, 0, 0, 0, 0)), (73, (.invokestatic 61, 3, 98, 3, 10, 0)), (76, (.aload_n 0, 1, 0, 0, 0, 0)), (77, (.getfield 24, 3, 5, 6, 2, 0)), (80, (.iload_n 1, 1, 0, 0, 0, 0)), (81, (.aload_n 0, 1, 0, 0, 0, 0)), (82, (.getfield 74, 3, 7, 6, 0, 0)), (85, (.invokestatic 61, 3, 98, 3, 10, 0)), (88, (.aload_n 0, 1, 0, 0, 0, 0)), (89, (.dup, 1, 0, 0, 0, 0)), (90, (.getfield 74, 3, 7, 6, 0, 0)), (93, (.iload 5, 2, 0, 0, 0, 0)), (95, (.invokestatic 80, 3, 104, 1, 11, 0)), (98, (.iconst 4, 1, 0, 0, 0, 0)), (99, (.if_icmp .ne 7, 3, 106, 0, 0, 0)), (102, (.iconst 1, 1, 0, 0, 0, 0)), (103, (.goto 4, 3, 107, 0, 0, 0)), (106, (.iconst 0, 1, 0, 0, 0, 0)), (107, (.iadd, 1, 0, 0, 0, 0)), (108, (.putfield 74, 3, 7, 6, 0, 0)), (111, (.iinc 1 1, 3, 0, 0, 0, 0)), (114, (.iinc 4 1, 3, 0, 0, 0, 0)), (117, (.goto (-82), 3, 35, 0, 0, 0)), (120, (.iinc 2 1, 3, 0, 0, 0, 0)), (123, (.goto (-114), 3, 9, 0, 0, 0)), (126, (.aload_n 0, 1, 0, 0, 0, 0)), (127, (.getfield 27, 3, 6, 6, 2, 0)), (130, (.iconst 4, 1, 0, 0, 0, 0)), (131, (.iload_n 1, 1, 0, 0, 0, 0)), (132, (.invokestatic 61, 3, 98, 3, 10, 0)), (135, (.return_, 1, 0, 0, 0, 0))]
def kk_85 (q : Nat) : Option Ent := lkp k_85 q
def k_86 : List (Nat × Ent) := [(0, (.aload_n 0, 1, 0, 0, 0, 0)), (1, (.iconst 4, 1, 0, 0, 0, 0)), (2, (.invokevirtual 85, 3, 88, 2, 6, 0)), (5, (.ireturn, 1, 0, 0, 0, 0))]
def kk_86 (q : Nat) : Option Ent := lkp k_86 q
def k_87 : List (Nat × Ent) := [(0, (.aload_n 0, 1, 0, 0, 0, 0)), (1, (.getfield 74, 3, 7, 6, 0, 0)), (4, (.ireturn, 1, 0, 0, 0, 0))]
def kk_87 (q : Nat) : Option Ent := lkp k_87 q
def k_88 : List (Nat × Ent) := [(0, (.aload_n 0, 1, 0, 0, 0, 0)), (1, (.getfield 27, 3, 6, 6, 2, 0)), (4, (.iload_n 1, 1, 0, 0, 0, 0)), (5, (.invokestatic 77, 3, 96, 2, 10, 0)), (8, (.ireturn, 1, 0, 0, 0, 0))]
def kk_88 (q : Nat) : Option Ent := lkp k_88 q
def k_89 : List (Nat × Ent) := [(0, (.aload_n 0, 1, 0, 0, 0, 0)), (1, (.getfield 27, 3, 6, 6, 2, 0)), (4, (.iload_n 1, 1, 0, 0, 0, 0)), (5, (.iconst 1, 1, 0, 0, 0, 0)), (6, (.iadd, 1, 0, 0, 0, 0)), (7, (.invokestatic 77, 3, 96, 2, 10, 0)), (10, (.ireturn, 1, 0, 0, 0, 0))]
def kk_89 (q : Nat) : Option Ent := lkp k_89 q
def k_90 : List (Nat × Ent) := [(0, (.aload_n 0, 1, 0, 0, 0, 0)), (1, (.getfield 18, 3, 3, 6, 2, 0)), (4, (.iload_n 1, 1, 0, 0, 0, 0)), (5, (.invokestatic 77, 3, 96, 2, 10, 0)), (8, (.invokestatic 80, 3, 104, 1, 11, 0)), (11, (.ireturn, 1, 0, 0, 0, 0))]
def kk_90 (q : Nat) : Option Ent := lkp k_90 q
def k_91 : List (Nat × Ent) := [(0, (.aload_n 0, 1, 0, 0, 0, 0)), (1, (.getfield 18, 3, 3, 6, 2, 0)), (4, (.iload_n 1, 1, 0, 0, 0, 0)), (5, (.invokestatic 77, 3, 96, 2, 10, 0)), (8, (.invokestatic 88, 3, 105, 1, 11, 0)), (11, (.ireturn, 1, 0, 0, 0, 0))]
def kk_91 (q : Nat) : Option Ent := lkp k_91 q
def k_92 : List (Nat × Ent) := [(0, (.aload_n 0, 1, 0, 0, 0, 0)), (1, (.getfield 18, 3, 3, 6, 2, 0)), (4, (.iload_n 1, 1, 0, 0, 0, 0)), (5, (.invokestatic 77, 3, 96, 2, 10, 0)), (8, (.invokestatic 91, 3, 106, 1, 11, 0)), (11, (.ireturn, 1, 0, 0, 0, 0))]
def kk_92 (q : Nat) : Option Ent := lkp k_92 q
def k_93 : List (Nat × Ent) := [(0, (.aload_n 0, 1, 0, 0, 0, 0)), (1, (.getfield 18, 3, 3, 6, 2, 0)), (4, (.iload_n 1, 1, 0, 0, 0, 0)), (5, (.invokestatic 77, 3, 96, 2, 10, 0)), (8, (.invokestatic 94, 3, 107, 1, 11, 0)), (11, (.ireturn, 1, 0, 0, 0, 0))]
def kk_93 (q : Nat) : Option Ent := lkp k_93 q
def k_94 : List (Nat × Ent) := [(0, (.aload_n 0, 1, 0, 0, 0, 0)), (1, (.getfield 21, 3, 4, 6, 2, 0)), (4, (.iload_n 1, 1, 0, 0, 0, 0)), (5, (.invokestatic 77, 3, 96, 2, 10, 0)), (8, (.ireturn, 1, 0, 0, 0, 0))]
def kk_94 (q : Nat) : Option Ent := lkp k_94 q
def k_95 : List (Nat × Ent) := [(0, (.aload_n 0, 1, 0, 0, 0, 0)), (1, (.getfield 24, 3, 5, 6, 2, 0)), (4, (.iload_n 1, 1, 0, 0, 0, 0)), (5, (.invokestatic 77, 3, 96, 2, 10, 0)), (8, (.ireturn, 1, 0, 0, 0, 0))]
def kk_95 (q : Nat) : Option Ent := lkp k_95 q
def k_96 : List (Nat × Ent) := [(0, (.iload_n 1, 1, 0, 0, 0, 0)), (1, (.ifCond .lt 15, 3, 16, 0, 0, 0)), (4, (.iload_n 1, 1, 0, 0, 0, 0)), (5, (.aload_n 0, 1, 0, 0, 0, 0)), (6, (.arraylength, 1, 0, 0, 0, 0)), (7, (.if_icmp .ge 9, 3, 16, 0, 0, 0)), (10, (.aload_n 0, 1, 0, 0, 0, 0)), (11, (.iload_n 1, 1, 0, 0, 0, 0)), (12, (.iaload, 1, 0, 0, 0, 0)), (13, (.goto 4, 3, 17, 0, 0, 0)), (16, (.iconst 0, 1, 0, 0, 0, 0)), (17, (.ireturn, 1, 0, 0, 0, 0))]
def kk_96 (q : Nat) : Option Ent := lkp k_96 q
def k_97 : List (Nat × Ent) := [(0, (.iload_n 1, 1, 0, 0, 0, 0)), (1, (.ifCond .lt 15, 3, 16, 0, 0, 0)), (4, (.iload_n 1, 1, 0, 0, 0, 0)), (5, (.aload_n 0, 1, 0, 0, 0, 0)), (6, (.arraylength, 1, 0, 0, 0, 0)), (7, (.if_icmp .ge 9, 3, 16, 0, 0, 0)), (10, (.aload_n 0, 1, 0, 0, 0, 0)), (11, (.iload_n 1, 1, 0, 0, 0, 0)), (12, (.laload, 1, 0, 0, 0, 0)), (13, (.goto 4, 3, 17, 0, 0, 0)), (16, (.lconst 0, 1, 0, 0, 0, 0)), (17, (.lreturn, 1, 0, 0, 0, 0))]
def kk_97 (q : Nat) : Option Ent := lkp k_97 q
def k_98 : List (Nat × Ent) := [(0, (.iload_n 1, 1, 0, 0, 0, 0)), (1, (.ifCond .lt 13, 3, 14, 0, 0, 0)), (4, (.iload_n 1, 1, 0, 0, 0, 0)), (5, (.aload_n 0, 1, 0, 0, 0, 0)), (6, (.arraylength, 1, 0, 0, 0, 0)), (7, (.if_icmp .ge 7, 3, 14, 0, 0, 0)), (10, (.aload_n 0, 1, 0, 0, 0, 0)), (11, (.iload_n 1, 1, 0, 0, 0, 0)), (12, (.iload_n 2, 1, 0, 0, 0, 0)), (13, (.iastore, 1, 0, 0, 0, 0)), (14, (.return_, 1, 0, 0, 0, 0))]
def kk_98 (q : Nat) : Option Ent := lkp k_98 q
def k_99 : List (Nat × Ent) := [(0, (.iload_n 1, 1, 0, 0, 0, 0)), (1, (.ifCond .lt 16, 3, 17, 0, 0, 0)), (4, (.iload_n 1, 1, 0, 0, 0, 0)), (5, (.aload_n 0, 1, 0, 0, 0, 0)), (6, (.arraylength, 1, 0, 0, 0, 0)), (7, (.if_icmp .ge 10, 3, 17, 0, 0, 0)), (10, (.aload_n 0, 1, 0, 0, 0, 0)), (11, (.iload_n 1, 1, 0, 0, 0, 0)), (12, (.dup2, 1, 0, 0, 0, 0)), (13, (.laload, 1, 0, 0, 0, 0)), (14, (.lload_n 2, 1, 0, 0, 0, 0)), (15, (.lor, 1, 0, 0, 0, 0)), (16, (.lastore, 1, 0, 0, 0, 0)), (17, (.return_, 1, 0, 0, 0, 0))]
def kk_99 (q : Nat) : Option Ent := lkp k_99 q
def k_100 : List (Nat × Ent) := [(0, (.iconst 0, 1, 0, 0, 0, 0)), (1, (.istore_n 3, 1, 0, 0, 0, 0)), (2, (.iload_n 3, 1, 0, 0, 0, 0)), (3, (.aload_n 0, 1, 0, 0, 0, 0)), (4, (.arraylength, 1, 0, 0, 0, 0)), (5, (.if_icmp .ge 13, 3, 18, 0, 0, 0)), (8, (.aload_n 0, 1, 0, 0, 0, 0)), (9, (.iload_n 3, 1, 0, 0, 0, 0)), (10, (.lload_n 1, 1, 0, 0, 0, 0)), (11, (.lastore, 1, 0, 0, 0, 0)), (12, (.iinc 3 1, 3, 0, 0, 0, 0)), (15, (.goto (-13), 3, 2, 0, 0, 0)), (18, (.return_, 1, 0, 0, 0, 0))]
def kk_100 (q : Nat) : Option Ent := lkp k_100 q
def k_101 : List (Nat × Ent) := [(0, (.iconst 0, 1, 0, 0, 0, 0)), (1, (.istore_n 2, 1, 0, 0, 0, 0)), (2, (.iload_n 2, 1, 0, 0, 0, 0)), (3, (.aload_n 0, 1, 0, 0, 0, 0)), (4, (.arraylength, 1, 0, 0, 0, 0)), (5, (.if_icmp .ge 21, 3, 26, 0, 0, 0)), (8, (.iload_n 2, 1, 0, 0, 0, 0)), (9, (.aload_n 1, 1, 0, 0, 0, 0)), (10, (.arraylength, 1, 0, 0, 0, 0)), (11, (.if_icmp .ge 15, 3, 26, 0, 0, 0)), (14, (.aload_n 1, 1, 0, 0, 0, 0)), (15, (.iload_n 2, 1, 0, 0, 0, 0)), (16, (.aload_n 0, 1, 0, 0, 0, 0)), (17, (.iload_n 2, 1, 0, 0, 0, 0)), (18, (.iaload, 1, 0, 0, 0, 0)), (19, (.iastore, 1, 0, 0, 0, 0)), (20, (.iinc 2 1, 3, 0, 0, 0, 0)), (23, (.goto (-21), 3, 2, 0, 0, 0)), (26, (.return_, 1, 0, 0, 0, 0))]
def kk_101 (q : Nat) : Option Ent := lkp k_101 q
def k_102 : List (Nat × Ent) := [(0, (.iconst 0, 1, 0, 0, 0, 0)), (1, (.istore_n 2, 1, 0, 0, 0, 0)), (2, (.iload_n 2, 1, 0, 0, 0, 0)), (3, (.aload_n 0, 1, 0, 0, 0, 0)), (4, (.arraylength, 1, 0, 0, 0, 0)), (5, (.if_icmp .ge 21, 3, 26, 0, 0, 0)), (8, (.iload_n 2, 1, 0, 0, 0, 0)), (9, (.aload_n 1, 1, 0, 0, 0, 0)), (10, (.arraylength, 1, 0, 0, 0, 0)), (11, (.if_icmp .ge 15, 3, 26, 0, 0, 0)), (14, (.aload_n 1, 1, 0, 0, 0, 0)), (15, (.iload_n 2, 1, 0, 0, 0, 0)), (16, (.aload_n 0, 1, 0, 0, 0, 0)), (17, (.iload_n 2, 1, 0, 0, 0, 0)), (18, (.laload, 1, 0, 0, 0, 0)), (19, (.lastore, 1, 0, 0, 0, 0)), (20, (.iinc 2 1, 3, 0, 0, 0, 0)), (23, (.goto (-21), 3, 2, 0, 0, 0)), (26, (.return_, 1, 0, 0, 0, 0))]
def kk_102 (q : Nat) : Option Ent := lkp k_102 q
def k_103 : List (Nat × Ent) := [(0, (.iload_n 0, 1, 0, 0, 0, 0)), (1, (.iload_n 1, 1, 0, 0, 0, 0)), (2, (.iconst 3, 1, 0, 0, 0, 0)), (3, (.ishl, 1, 0, 0, 0, 0)), (4, (.ior, 1, 0, 0, 0, 0)), (5, (.iload_n 2, 1, 0, 0, 0, 0)), (6, (.bipush 8, 2, 0, 0, 0, 0)), (8, (.ishl, 1, 0, 0, 0, 0)), (9, (.ior, 1, 0, 0, 0, 0)), (10, (.iload_n 3, 1, 0, 0, 0, 0)), (11, (.bipush 13, 2, 0, 0, 0, 0)), (13, (.ishl, 1, 0, 0, 0, 0)), (14, (.ior, 1, 0, 0, 0, 0)), (15, (.ireturn, 1, 0, 0, 0, 0))]
def kk_103 (q : Nat) : Option Ent := lkp k_103 q
def k_104 : List (Nat × Ent) := [(0, (.iload_n 0, 1, 0, 0, 0, 0)), (1, (.bipush 7, 2, 0, 0, 0, 0)), (3, (.iand, 1, 0, 0, 0, 0)), (4, (.ireturn, 1, 0, 0, 0, 0))]
def kk_104 (q : Nat) : Option Ent := lkp k_104 q
def k_105 : List (Nat × Ent) := [(0, (.iload_n 0, 1, 0, 0, 0, 0)), (1, (.iconst 3, 1, 0, 0, 0, 0)), (2, (.ishr, 1, 0, 0, 0, 0)), (3, (.bipush 31, 2, 0, 0, 0, 0)), (5, (.iand, 1, 0, 0, 0, 0)), (6, (.ireturn, 1, 0, 0, 0, 0))]
def kk_105 (q : Nat) : Option Ent := lkp k_105 q
def k_106 : List (Nat × Ent) := [(0, (.iload_n 0, 1, 0, 0, 0, 0)), (1, (.bipush 8, 2, 0, 0, 0, 0)), (3, (.ishr, 1, 0, 0, 0, 0)), (4, (.bipush 31, 2, 0, 0, 0, 0)), (6, (.iand, 1, 0, 0, 0, 0)), (7, (.ireturn, 1, 0, 0, 0, 0))]
def kk_106 (q : Nat) : Option Ent := lkp k_106 q
def k_107 : List (Nat × Ent) := [(0, (.iload_n 0, 1, 0, 0, 0, 0)), (1, (.bipush 13, 2, 0, 0, 0, 0)), (3, (.ishr, 1, 0, 0, 0, 0)), (4, (.iconst 3, 1, 0, 0, 0, 0)), (5, (.iand, 1, 0, 0, 0, 0)), (6, (.ireturn, 1, 0, 0, 0, 0))]
def kk_107 (q : Nat) : Option Ent := lkp k_107 q
def k_108 : List (Nat × Ent) := [(0, (.aload_n 0, 1, 0, 0, 0, 0)), (1, (.iconst 1, 1, 0, 0, 0, 0)), (2, (.putfield 18, 3, 2, 7, 1, 0)), (5, (.return_, 1, 0, 0, 0, 0))]
def kk_108 (q : Nat) : Option Ent := lkp k_108 q
def k_109 : List (Nat × Ent) := [(0, (.aload_n 0, 1, 0, 0, 0, 0)), (1, (.getfield 18, 3, 2, 7, 1, 0)), (4, (.ifCond .ne 4, 3, 8, 0, 0, 0)), (7, (.return_, 1, 0, 0, 0, 0)), (8, (.aload_n 0, 1, 0, 0, 0, 0)), (9, (.iconst 0, 1, 0, 0, 0, 0)), (10, (.putfield 18, 3, 2, 7, 1, 0)), (13, (.aload_n 0, 1, 0, 0, 0, 0)), (14, (.invokevirtual 22, 3, 110, 1, 7, 0)), (17, (.iconst 0, 1, 0, 0, 0, 0)), (18, (.istore_n 2, 1, 0, 0, 0, 0)), (19, (.iload_n 2, 1, 0, 0, 0, 0)), (20, (.aload_n 1, 1, 0, 0, 0, 0)), (21, (.invokevirtual 25, 3, 86, 1, 6, 0)), (24, (.if_icmp .ge 15, 3, 39, 0, 0, 0)), (27, (.aload_n 0, 1, 0, 0, 0, 0)), (28, (.aload_n 1, 1, 0, 0, 0, 0)), (29, (.iload_n 2, 1, 0, 0, 0, 0)), (30, (.invokevirtual 31, 3, 114, 3, 7, 0)), (33, (.iinc 2 1, 3, 0, 0, 0, 0)), (36, (.goto (-17), 3, 19, 0, 0, 0)), (39, (.return_, 1, 0, 0, 0, 0))]
def kk_109 (q : Nat) : Option Ent := lkp k_109 q
def k_110 : List (Nat × Ent) := [(0, (.iconst 0, 1, 0, 0, 0, 0)), (1, (.istore_n 1, 1, 0, 0, 0, 0)), (2, (.iload_n 1, 1, 0, 0, 0, 0)), (3, (.bipush 68, 2, 0, 0, 0, 0)), (5, (.if_icmp .ge 27, 3, 32, 0, 0, 0)), (8, (.aload_n 0, 1, 0, 0, 0, 0)), (9, (.getfield 11, 3, 0, 7, 2, 0)), (12, (.iload_n 1, 1, 0, 0, 0, 0)), (13, (.iload_n 1, 1, 0, 0, 0, 0)), (14, (.invokestatic 35, 3, 98, 3, 10, 0)), (17, (.aload_n 0, 1, 0, 0, 0, 0)), (18, (.getfield 15, 3, 1, 7, 2, 0)), (21, (.iload_n 1, 1, 0, 0, 0, 0)), (22, (.iconst (-1), 1, 0, 0, 0, 0)), (23, (.invokestatic 35, 3, 98, 3, 10, 0)), (26, (.iinc 1 1, 3, 0, 0, 0, 0)), (29, (.goto (-27), 3, 2, 0, 0, 0)), (32, (.iconst 0, 1, 0, 0, 0, 0)), (33, (.istore_n 1, 1, 0, 0, 0, 0)), (34, (.iload_n 1, 1, 0, 0, 0, 0)), (35, (.bipush 20, 2, 0, 0, 0, 0)), (37, (.if_icmp .ge 36, 3, 73, 0, 0, 0)), (40, (.aload_n 0, 1, 0, 0, 0, 0)), (41, (.getfield 15, 3, 1, 7, 2, 0)), (44, (.iload_n 1, 1, 0, 0, 0, 0)), (45, (.iload_n 1, 1, 0, 0, 0, 0)), (46, (.invokestatic 41, 3, 111, 1, 7, 0)), (49, (.invokestatic 35, 3, 98, 3, 10, 0)), (52, (.aload_n 0, 1, 0, 0, 0, 0)), (53, (.getfield 15, 3, 1, 7, 2, 0)), (56, (.iload_n 1, 1, 0, 0, 0, 0)), (57, (.invokestatic 41, 3, 111, 1, 7, 0)), (60, (.iload_n 1, 1, 0, 0, 0, 0)), (61, (.invokestatic 45, 3, 112, 1, 7, 0)), (64, (.invokestatic 35, 3, 98, 3, 10, 0)), (67, (.iinc 1 1, 3, 0, 0, 0, 0)), (70, (.goto (-36), 3, 34, 0, 0, 0)), (73, (.return_, 1, 0, 0, 0, 0))]
def kk_110 (q : Nat) : Option Ent := lkp k_110 q
def k_111 : List (Nat × Ent) := [(0, (.bipush 28, 2, 0, 0, 0, 0)), (2, (.iload_n 0, 1, 0, 0, 0, 0)), (3, (.iadd, 1, 0, 0, 0, 0)), (4, (.ireturn, 1, 0, 0, 0, 0))]
def kk_111 (q : Nat) : Option Ent := lkp k_111 q
def k_112 : List (Nat × Ent) := [(0, (.bipush 48, 2, 0, 0, 0, 0)), (2, (.iload_n 0, 1, 0, 0, 0, 0)), (3, (.iadd, 1, 0, 0, 0, 0)), (4, (.ireturn, 1, 0, 0, 0, 0))]
def kk_112 (q : Nat) : Option Ent := lkp k_112 q
def k_113 : List (Nat × Ent) := [(0, (.bipush 20, 2, 0, 0, 0, 0)), (2, (.iload_n 0, 1, 0, 0, 0, 0)), (3, (.iadd, 1, 0, 0, 0, 0)), (4, (.ireturn, 1, 0, 0, 0, 0))]
def kk_113 (q : Nat) : Option Ent := lkp k_113 q
def k_114 : List (Nat × Ent) := [(0, (.aload_n 1, 1, 0, 0, 0, 0)), (1, (.iload_n 2, 1, 0, 0, 0, 0)), (2, (.invokevirtual 48, 3, 91, 2, 6, 0)), (5, (.istore_n 3, 1, 0, 0, 0, 0)), (6, (.aload_n 1, 1, 0, 0, 0, 0)), (7, (.iload_n 2, 1, 0, 0, 0, 0)), (8, (.invokevirtual 51, 3, 92, 2, 6, 0)), (11, (.istore 4, 2, 0, 0, 0, 0)), (13, (.aload_n 1, 1, 0, 0, 0, 0)), (14, (.iload_n 2, 1, 0, 0, 0, 0)), (15, (.invokevirtual 54, 3, 93, 2, 6, 0)), (18, (.istore 5, 2, 0, 0, 0, 0)), (20, (.aload_n 1, 1, 0, 0, 0, 0)), (21, (.iload_n 2, 1, 0, 0, 0, 0)), (22, (.invokevirtual 57, 3, 90, 2, 6, 0)), (25, (.tableswitch 143 0 6 #[43, 143, 56, 72, 88, 143, 107], 43, 0, 0, 0, 0)), (68, (.aload_n 0, 1, 0, 0, 0, 0)), (69, (.iload_n 3, 1, 0, 0, 0, 0)), (70, (.invokestatic 41, 3, 111, 1, 7, 0)), (73, (.iload 4, 2, 0, 0, 0, 0)), (75, (.invokevirtual 60, 3, 115, 3, 7, 0)), (78, (.goto 103, 3, 181, 0, 0, 0)), (81, (.aload_n 0, 1, 0, 0, 0, 0)), (82, (.iload_n 3, 1, 0, 0, 0, 0)), (83, (.invokestatic 41, 3, 111, 1, 7, 0)), (86, (.iload 4, 2, 0, 0, 0, 0)), (88, (.invokestatic 45, 3, 112, 1, 7, 0)), (91, (.invokevirtual 60, 3, 115, 3, 7, 0)), (94, (.goto 87, 3, 181, 0, 0, 0)), (97, (.aload_n 0, 1, 0, 0, 0, 0)), (98, (.iload_n 3, 1, 0, 0, 0, 0)), (99, (.invokestatic 45, 3, 112, 1, 7, 0)), (102, (.iload 4, 2, 0, 0, 0, 0)), (104, (.invokestatic 41, 3, 111, 1, 7, 0)), (107, (.invokevirtual 60, 3, 115, 3, 7, 0)), (110, (.goto 71, 3, 181, 0, 0, 0)), (113, (.aload_n 0, 1, 0, 0, 0, 0)), (114, (.iload_n 3, 1, 0, 0, 0, 0)), (115, (.invokestatic 41, 3, 111, 1, 7, 0)), (118, (.aload_n 1, 1, 0, 0, 0, 0)), (119, (.iload_n 2, 1, 0, 0, 0, 0)), (120, (.invokevirtual 64, 3, 95, 2, 6, 0)), (123, (.invokestatic 67, 3, 113, 1, 7, 0)), (126, (.invokevirtual 60, 3, 115, 3, 7, 0)), (129, (.goto 52, 3, 181, 0, 0, 0)), (132, (.aload_n 0, 1, 0, 0, 0, 0)), (133, (.iload 5, 2, 0, 0, 0, 0)), (135, (.invokestatic 70, 3, 168, 1, 8, 0)), (138, (.invokestatic 41, 3, 111, 1, 7, 0)), (141, (.iload 4, 2, 0, 0, 0, 0)), (143, (.invokestatic 41, 3, 111, 1, 7, 0)), (146, (.invokevirtual 60, 3, 115, 3, 7, 0)), (149, (.aload_n 0, 1, 0, 0, 0, 0)), (150, (.iload_n 3, 1, 0, 0, 0, 0)), (151, (.invokestatic 41, 3, 111, 1, 7, 0)), (154, (.iload 5, 2, 0, 0, 0, 0)), (156, (.invokestatic 73, 3, 169, 1, 8, 0)), (159, (.invokestatic 41, 3, 111, 1, 7, 0)), (162, (.invokevirtual 60, 3, 115, 3, 7, 0)), (165, (.goto 16, 3, 181, 0, 0, 0)), (168, (.aload_n 0, 1, 0, 0, 0, 0)), (169, (.iload_n 3, 1, 0, 0, 0, 0)), (170, (.invokestatic 41, 3, 111, 1, 7, 0)), (173, (.iload 4, 2, 0, 0, 0, 0)), (175, (.invokestatic 41, 3, 111, 1, 7, 0)), (178, (.invokevirtual 60, 3, 115, 3, 7, 0)), (181, (.return_, 1, 0, 0, 0, 0))]
def kk_114 (q : Nat) : Option Ent := lkp k_114 q
def k_115 : List (Nat × Ent) := [(0, (.aload_n 0, 1, 0, 0, 0, 0)), (1, (.iload_n 1, 1, 0, 0, 0, 0)), (2, (.invokevirtual 76, 3, 116, 2, 7, 0)), (5, (.istore_n 3, 1, 0, 0, 0, 0)), (6, (.aload_n 0, 1, 0, 0, 0, 0)), (7, (.iload_n 2, 1, 0, 0, 0, 0)), (8, (.invokevirtual 76, 3, 116, 2, 7, 0)), (11, (.istore 4, 2, 0, 0, 0, 0)), (13, (.iconst 0, 1, 0, 0, 0, 0)), (14, (.istore 5, 2, 0, 0, 0, 0)), (16, (.iload 5, 2, 0, 0, 0, 0)), (18, (.bipush 68, 2, 0, 0, 0, 0)), (20, (.if_icmp .ge 90, 3, 110, 0, 0, 0)), (23, (.iload_n 3, 1, 0, 0, 0, 0)), (24, (.iload 4, 2, 0, 0, 0, 0)), (26, (.if_icmp .eq 84, 3, 110, 0, 0, 0)), (29, (.aload_n 0, 1, 0, 0, 0, 0)), (30, (.getfield 15, 3, 1, 7, 2, 0)), (33, (.iload_n 3, 1, 0, 0, 0, 0)), (34, (.invokestatic 79, 3, 96, 2, 10, 0)), (37, (.istore 6, 2, 0, 0, 0, 0)), (39, (.aload_n 0, 1, 0, 0, 0, 0)), (40, (.getfield 15, 3, 1, 7, 2, 0)), (43, (.iload 4, 2, 0, 0, 0, 0)), (45, (.invokestatic 79, 3, 96, 2, 10, 0)), (48, (.istore 7, 2, 0, 0, 0, 0)), (50, (.aload_n 0, 1, 0, 0, 0, 0)), (51, (.getfield 11, 3, 0, 7, 2, 0)), (54, (.iload 4, 2, 0, 0, 0, 0)), (56, (.iload_n 3, 1, 0, 0, 0, 0)), (57, (.invokestatic 35, 3, 98, 3, 10, 0)), (60, (.iload 6, 2, 0, 0, 0, 0)), (62, (.iconst (-1), 1, 0, 0, 0, 0)), (63, (.if_icmp .ne 13, 3, 76, 0, 0, 0)), (66, (.aload_n 0, 1, 0, 0, 0, 0)), (67, (.getfield 15, 3, 1, 7, 2, 0)), (70, (.iload_n 3, 1, 0, 0, 0, 0)), (71, (.iload 7, 2, 0, 0, 0, 0)), (73, (.invokestatic 35, 3, 98, 3, 10, 0)), (76, (.iload 6, 2, 0, 0, 0, 0)), (78, (.iconst (-1), 1, 0, 0, 0, 0)), (79, (.if_icmp .eq 9, 3, 88, 0, 0, 0)), (82, (.iload 7, 2, 0, 0, 0, 0)), (84, (.iconst (-1), 1, 0, 0, 0, 0)), (85, (.if_icmp .ne 4, 3, 89, 0, 0, 0)), (88, (.return_, 1, 0, 0, 0, 0)), (89, (.aload_n 0, 1, 0, 0, 0, 0)), (90, (.iload 6, 2, 0, 0, 0, 0)), (92, (.invokevirtual 76, 3, 116, 2, 7, 0)), (95, (.istore_n 3, 1, 0, 0, 0, 0)), (96, (.aload_n 0, 1, 0, 0, 0, 0)), (97, (.iload 7, 2, 0, 0, 0, 0)), (99, (.invokevirtual 76, 3, 116, 2, 7, 0)), (102, (.istore 4, 2, 0, 0, 0, 0)), (104, (.iinc 5 1, 3, 0, 0, 0, 0)), (107, (.goto (-91), 3, 16, 0, 0, 0)), (110, (.return_, 1, 0, 0, 0, 0))]
def kk_115 (q : Nat) : Option Ent := lkp k_115 q
def k_116 : List (Nat × Ent) := [(0, (.iload_n 1, 1, 0, 0, 0, 0)), (1, (.istore_n 2, 1, 0, 0, 0, 0)), (2, (.iconst 0, 1, 0, 0, 0, 0)), (3, (.istore_n 3, 1, 0, 0, 0, 0)), (4, (.iload_n 3, 1, 0, 0, 0, 0)), (5, (.bipush 68, 2, 0, 0, 0, 0)), (7, (.if_icmp .ge 30, 3, 37, 0, 0, 0)), (10, (.aload_n 0, 1, 0, 0, 0, 0)), (11, (.getfield 11, 3, 0, 7, 2, 0)), (14, (.iload_n 2, 1, 0, 0, 0, 0)), (15, (.invokestatic 79, 3, 96, 2, 10, 0)), (18, (.iload_n 2, 1, 0, 0, 0, 0)), (19, (.if_icmp .eq 18, 3, 37, 0, 0, 0)), (22, (.aload_n 0, 1, 0, 0, 0, 0)), (23, (.getfield 11, 3, 0, 7, 2, 0)), (26, (.iload_n 2, 1, 0, 0, 0, 0)), (27, (.invokestatic 79, 3, 96, 2, 10, 0)), (30, (.istore_n 2, 1, 0, 0, 0, 0)), (31, (.iinc 3 1, 3, 0, 0, 0, 0)), (34, (.goto (-30), 3, 4, 0, 0, 0)), (37, (.iload_n 2, 1, 0, 0, 0, 0)), (38, (.ireturn, 1, 0, 0, 0, 0))]
def kk_116 (q : Nat) : Option Ent := lkp k_116 q
def k_117 : List (Nat × Ent) := [(0, (.aload_n 0, 1, 0, 0, 0, 0)), (1, (.iload_n 1, 1, 0, 0, 0, 0)), (2, (.invokevirtual 76, 3, 116, 2, 7, 0)), (5, (.aload_n 0, 1, 0, 0, 0, 0)), (6, (.iload_n 2, 1, 0, 0, 0, 0)), (7, (.invokevirtual 76, 3, 116, 2, 7, 0)), (10, (.if_icmp .ne 7, 3, 17, 0, 0, 0)), (13, (.iconst 1, 1, 0, 0, 0, 0)), (14, (.goto 4, 3, 18, 0, 0, 0)), (17, (.iconst 0, 1, 0, 0, 0, 0)), (18, (.ireturn, 1, 1, 0, 0, 0))]
def kk_117 (q : Nat) : Option Ent := lkp k_117 q
def k_118 : List (Nat × Ent) := [(0, (.aload_n 0, 1, 0, 0, 0, 0)), (1, (.iload_n 1, 1, 0, 0, 0, 0)), (2, (.invokestatic 41, 3, 111, 1, 7, 0)), (5, (.invokevirtual 76, 3, 116, 2, 7, 0)), (8, (.istore_n 3, 1, 0, 0, 0, 0)), (9, (.lconst 0, 1, 0, 0, 0, 0)), (10, (.lstore 4, 2, 0, 0, 0, 0)), (12, (.iconst 0, 1, 0, 0, 0, 0)), (13, (.istore 6, 2, 0, 0, 0, 0)), (15, (.iload 6, 2, 0, 0, 0, 0)), (17, (.bipush 20, 2, 0, 0, 0, 0)), (19, (.if_icmp .ge 32, 3, 51, 0, 0, 0)), (22, (.lload 4, 2, 0, 0, 0, 0)), (24, (.aload_n 0, 1, 0, 0, 0, 0)), (25, (.iload 6, 2, 0, 0, 0, 0)), (27, (.invokevirtual 76, 3, 116, 2, 7, 0)), (30, (.iload_n 3, 1, 0, 0, 0, 0)), (31, (.if_icmp .ne 10, 3, 41, 0, 0, 0)), (34, (.lconst 1, 1, 0, 0, 0, 0)), (35, (.iload 6, 2, 0, 0, 0, 0)), (37, (.lshl, 1, 0, 0, 0, 0)), (38, (.goto 4, 3, 42, 0, 0, 0)), (41, (.lconst 0, 1, 0, 0, 0, 0)), (42, (.lor, 1, 0, 0, 0, 0)), (43, (.lstore 4, 2, 0, 0, 0, 0)), (45, (.iinc 6 1, 3, 0, 0, 0, 0)), (48, (.goto (-33), 3, 15, 0, 0, 0)), (51, (.iconst 0, 1, 0, 0, 0, 0)), (52, (.istore 6, 2, 0, 0, 0, 0)), (54, (.iload 6, 2, 0, 0, 0, 0)), (56, (.iload_n 2, 1, 0, 0, 0, 0)), (57, (.if_icmp .ge 36, 3, 93, 0, 0, 0)), (60, (.lload 4, 2, 0, 0, 0, 0)), (62, (.aload_n 0, 1, 0, 0, 0, 0)), (63, (.iload 6, 2, 0, 0, 0, 0)), (65, (.invokestatic 67, 3, 113, 1, 7, 0)), (68, (.invokevirtual 76, 3, 116, 2, 7, 0)), (71, (.iload_n 3, 1, 0, 0, 0, 0)), (72, (.if_icmp .ne 11, 3, 83, 0, 0, 0)), (75, (.iload 6, 2, 0, 0, 0, 0)), (77, (.invokestatic 83, 3, 172, 1, 8, 0)), (80, (.goto 4, 3, 84, 0, 0, 0)), (83, (.lconst 0, 1, 0, 0, 0, 0)), (84, (.lor, 1, 0, 0, 0, 0)), (85, (.lstore 4, 2, 0, 0, 0, 0)), (87, (.iinc 6 1, 3, 0, 0, 0, 0)), (90, (.goto (-36), 3, 54, 0, 0, 0)), (93, (.lload 4, 2, 0, 0, 0, 0)), (95, (.lreturn, 1, 0, 0, 0, 0))]
def kk_118 (q : Nat) : Option Ent := lkp k_118 q
def k_119 : List (Nat × Ent) := [(0, (.iconst 0, 1, 0, 0, 0, 0)), (1, (.istore_n 2, 1, 0, 0, 0, 0)), (2, (.iconst 0, 1, 0, 0, 0, 0)), (3, (.istore_n 3, 1, 0, 0, 0, 0)), (4, (.iload_n 3, 1, 0, 0, 0, 0)), (5, (.iload_n 1, 1, 0, 0, 0, 0)), (6, (.invokestatic 67, 3, 113, 1, 7, 0)), (9, (.if_icmp .ge 25, 3, 34, 0, 0, 0)), (12, (.iload_n 2, 1, 0, 0, 0, 0)), (13, (.aload_n 0, 1, 0, 0, 0, 0)), (14, (.iload_n 3, 1, 0, 0, 0, 0)), (15, (.invokevirtual 87, 3, 120, 2, 7, 0)), (18, (.ifCond .eq 7, 3, 25, 0, 0, 0)), (21, (.iconst 1, 1, 0, 0, 0, 0)), (22, (.goto 4, 3, 26, 0, 0, 0)), (25, (.iconst 0, 1, 0, 0, 0, 0)), (26, (.iadd, 1, 0, 0, 0, 0)), (27, (.istore_n 2, 1, 0, 0, 0, 0)), (28, (.iinc 3 1, 3, 0, 0, 0, 0)), (31, (.goto (-27), 3, 4, 0, 0, 0)), (34, (.iload_n 2, 1, 0, 0, 0, 0)), (35, (.ireturn, 1, 0, 0, 0, 0))]
def kk_119 (q : Nat) : Option Ent := lkp k_119 q
def k_120 : List (Nat × Ent) := [(0, (.iconst 0, 1, 0, 0, 0, 0)), (1, (.istore_n 2, 1, 0, 0, 0, 0)), (2, (.iload_n 2, 1, 0, 0, 0, 0)), (3, (.iload_n 1, 1, 0, 0, 0, 0)), (4, (.if_icmp .ge 20, 3, 24, 0, 0, 0)), (7, (.aload_n 0, 1, 0, 0, 0, 0)), (8, (.iload_n 2, 1, 0, 0, 0, 0)), (9, (.iload_n 1, 1, 0, 0, 0, 0)), (10, (.invokevirtual 91, 3, 117, 3, 7, 0)), (13, (.ifCond .eq 5, 3, 18, 0, 0, 0)), (16, (.iconst 0, 1, 0, 0, 0, 0)), (17, (.ireturn, 1, 1, 0, 0, 0)), (18, (.iinc 2 1, 3, 0, 0, 0, 0)), (21, (.goto (-19), 3, 2, 0, 0, 0)), (24, (.iconst 1, 1, 0, 0, 0, 0)), (25, (.ireturn, 1, 1, 0, 0, 0))]
def kk_120 (q : Nat) : Option Ent := lkp k_120 q
def k_121 : List (Nat × Ent) := [(0, (.iload_n 1, 1, 0, 0, 0, 0)), (1, (.bipush 33, 2, 0, 0, 0, 0)), (3, (.if_icmp .lt 9, 3, 12, 0, 0, 0)), (6, (.iload_n 1, 1, 0, 0, 0, 0)), (7, (.bipush 126, 2, 0, 0, 0, 0)), (9, (.if_icmp .le 13, 3, 22, 0, 0, 0)), (12, (.new 72, 3, 1, 1, 0, 0)), (15, (.dup, 1, 0, 0, 0, 0)), (16, (.ldc 74, 2, 0, 0, 0, 0)), (18, (.invokespecial 76, 3, 0, 0, 0, 0)), (21, (.athrow, 1, 0, 0, 0, 0)), (22, (.aload_n 0, 1, 0, 0, 0, 0)), (23, (.getfield 12, 3, 0, 8, 2, 0)), (26, (.invokevirtual 79, 3, 0, 1, 0, 0)), (29, (.ifCond .eq 13, 3, 42, 0, 0, 0)), (32, (.new 83, 3, 2, 1, 0, 0)), (35, (.dup, 1, 0, 0, 0, 0)), (36, (.ldc 85, 2, 0, 0, 0, 0)), (38, (.invokespecial 87, 3, 0, 0, 0, 0)), (41, (.athrow, 1, 0, 0, 0, 0)), (42, (.aload_n 0, 1, 0, 0, 0, 0)), (43, (.getfield 12, 3, 0, 8, 2, 0)), (46, (.iload_n 1, 1, 0, 0, 0, 0)), (47, (.invokevirtual 88, 3, 1, 2, 0, 0)), (50, (.ireturn, 1, 0, 0, 0, 0))]
def kk_121 (q : Nat) : Option Ent := lkp k_121 q
def k_122 : List (Nat × Ent) := [(0, (.aload_n 0, 1, 0, 0, 0, 0)), (1, (.iload_n 1, 1, 0, 0, 0, 0)), (2, (.invokevirtual 92, 3, 162, 2, 8, 1)), (5, (.aload_n 0, 1, 0, 0, 0, 0)), (6, (.aload_n 0, 1, 0, 0, 0, 0)), (7, (.getfield 12, 3, 0, 8, 2, 0)), (10, (.iload_n 1, 1, 0, 0, 0, 0)), (11, (.aload_n 0, 1, 0, 0, 0, 0)), (12, (.getfield 19, 3, 1, 8, 2, 0)), (15, (.invokevirtual 96, 3, 3, 3, 0, 0)), (18, (.putfield 64, 3, 9, 8, 0, 0)), (21, (.aload_n 0, 1, 0, 0, 0, 0)), (22, (.getfield 12, 3, 0, 8, 2, 0)), (25, (.invokevirtual 100, 3, 2, 1, 0, 0)), (28, (.aload_n 0, 1, 0, 0, 0, 0)), (29, (.getfield 64, 3, 9, 8, 0, 0)), (32, (.ifCond .lt 13, 3, 45, 0, 0, 0)), (35, (.new 72, 3, 1, 1, 0, 0)), (38, (.dup, 1, 0, 0, 0, 0)), (39, (.ldc 103, 2, 0, 0, 0, 0)), (41, (.invokespecial 76, 3, 0, 0, 0, 0)), (44, (.athrow, 1, 0, 0, 0, 0)), (45, (.aload_n 0, 1, 0, 0, 0, 0)), (46, (.getfield 26, 3, 2, 8, 2, 0)), (49, (.iload_n 1, 1, 0, 0, 0, 0)), (50, (.aload_n 0, 1, 0, 0, 0, 0)), (51, (.getfield 19, 3, 1, 8, 2, 0)), (54, (.invokevirtual 105, 3, 81, 3, 6, 0)), (57, (.ifCond .ne 13, 3, 70, 0, 0, 0)), (60, (.new 83, 3, 2, 1, 0, 0)), (63, (.dup, 1, 0, 0, 0, 0)), (64, (.ldc 109, 2, 0, 0, 0, 0)), (66, (.invokespecial 87, 3, 0, 0, 0, 0)), (69, (.athrow, 1, 0, 0, 0, 0)), (70, (.aload_n 0, 1, 0, 0, 0, 0)), (71, (.getfield 26, 3, 2, 8, 2, 0)), (74, (.iload_n 1, 1, 0, 0, 0, 0)), (75, (.aload_n 0, 1, 0, 0, 0, 0)), (76, (.getfield 19, 3, 1, 8, 2, 0)), (79, (.invokevirtual 111, 3, 83, 3, 6, 0)), (82, (.aload_n 0, 1, 0, 0, 0, 0)), (83, (.invokevirtual 115, 3, 158, 1, 8, 0)), (86, (.aload_n 0, 1, 0, 0, 0, 0)), (87, (.getfield 19, 3, 1, 8, 2, 0)), (90, (.invokevirtual 118, 3, 32, 1, 2, 0)), (93, (.ireturn, 1, 0, 0, 0, 0))]
def kk_122 (q : Nat) : Option Ent := lkp k_122 q
def k_123 : List (Nat × Ent) := [(0, (.aload_n 0, 1, 0, 0, 0, 0)), (1, (.getfield 64, 3, 9, 8, 0, 0)), (4, (.ireturn, 1, 0, 0, 0, 0))]
def kk_123 (q : Nat) : Option Ent := lkp k_123 q
def k_124 : List (Nat × Ent) := [(0, (.aload_n 0, 1, 0, 0, 0, 0)), (1, (.getfield 26, 3, 2, 8, 2, 0)), (4, (.invokevirtual 122, 3, 86, 1, 6, 0)), (7, (.ireturn, 1, 0, 0, 0, 0))]
def kk_124 (q : Nat) : Option Ent := lkp k_124 q
def k_125 : List (Nat × Ent) := [(0, (.aload_n 0, 1, 0, 0, 0, 0)), (1, (.iload_n 1, 1, 0, 0, 0, 0)), (2, (.invokevirtual 123, 3, 164, 2, 8, 1)), (5, (.aload_n 0, 1, 0, 0, 0, 0)), (6, (.getfield 26, 3, 2, 8, 2, 0)), (9, (.iload_n 1, 1, 0, 0, 0, 0)), (10, (.invokevirtual 126, 3, 90, 2, 6, 0)), (13, (.ireturn, 1, 0, 0, 0, 0))]
def kk_125 (q : Nat) : Option Ent := lkp k_125 q
def k_126 : List (Nat × Ent) := [(0, (.aload_n 0, 1, 0, 0, 0, 0)), (1, (.iload_n 1, 1, 0, 0, 0, 0)), (2, (.invokevirtual 123, 3, 164, 2, 8, 1)), (5, (.aload_n 0, 1, 0, 0, 0, 0)), (6, (.getfield 26, 3, 2, 8, 2, 0)), (9, (.iload_n 1, 1, 0, 0, 0, 0)), (10, (.invokevirtual 129, 3, 94, 2, 6, 0)), (13, (.ireturn, 1, 0, 0, 0, 0))]
def kk_126 (q : Nat) : Option Ent := lkp k_126 q
def k_127 : List (Nat × Ent) := [(0, (.aload_n 0, 1, 0, 0, 0, 0)), (1, (.getfield 26, 3, 2, 8, 2, 0)), (4, (.invokevirtual 132, 3, 87, 1, 6, 0)), (7, (.ireturn, 1, 0, 0, 0, 0))]
def kk_127 (q : Nat) : Option Ent := lkp k_127 q
def k_128 : List (Nat × Ent) := [(0, (.iload_n 1, 1, 0, 0, 0, 0)), (1, (.ifCond .lt 8, 3, 9, 0, 0, 0)), (4, (.iload_n 1, 1, 0, 0, 0, 0)), (5, (.iconst 2, 1, 0, 0, 0, 0)), (6, (.if_icmp .le 13, 3, 19, 0, 0, 0)), (9, (.new 72, 3, 1, 1, 0, 0)), (12, (.dup, 1, 0, 0, 0, 0)), (13, (.ldc 135, 2, 0, 0, 0, 0)), (15, (.invokespecial 76, 3, 0, 0, 0, 0)), (18, (.athrow, 1, 0, 0, 0, 0)), (19, (.aload_n 0, 1, 0, 0, 0, 0)), (20, (.getfield 26, 3, 2, 8, 2, 0)), (23, (.invokevirtual 137, 3, 79, 1, 6, 0)), (26, (.istore_n 2, 1, 0, 0, 0, 0)), (27, (.aload_n 0, 1, 0, 0, 0, 0)), (28, (.getfield 26, 3, 2, 8, 2, 0)), (31, (.iload_n 1, 1, 0, 0, 0, 0)), (32, (.invokevirtual 140, 3, 80, 2, 6, 0)), (35, (.aload_n 0, 1, 0, 0, 0, 0)), (36, (.getfield 36, 3, 4, 8, 2, 0)), (39, (.invokevirtual 143, 3, 41, 1, 4, 0)), (42, (.iload_n 2, 1, 0, 0, 0, 0)), (43, (.ireturn, 1, 0, 0, 0, 0))]
def kk_128 (q : Nat) : Option Ent := lkp k_128 q
def k_129 : List (Nat × Ent) := [(0, (.aload_n 0, 1, 0, 0, 0, 0)), (1, (.iload_n 1, 1, 0, 0, 0, 0)), (2, (.invokevirtual 92, 3, 162, 2, 8, 1)), (5, (.aload_n 0, 1, 0, 0, 0, 0)), (6, (.getfield 36, 3, 4, 8, 2, 0)), (9, (.aload_n 0, 1, 0, 0, 0, 0)), (10, (.getfield 26, 3, 2, 8, 2, 0)), (13, (.aload_n 0, 1, 0, 0, 0, 0)), (14, (.getfield 26, 3, 2, 8, 2, 0)), (17, (.invokevirtual 137, 3, 79, 1, 6, 0)), (20, (.invokevirtual 146, 3, 42, 3, 4, 0)), (23, (.aload_n 0, 1, 0, 0, 0, 0)), (24, (.getfield 36, 3, 4, 8, 2, 0)), (27, (.invokevirtual 150, 3, 55, 1, 4, 0)), (30, (.iload_n 1, 1, 0, 0, 0, 0)), (31, (.invokevirtual 154, 3, 23, 2, 1, 0)), (34, (.ireturn, 1, 0, 0, 0, 0))]
def kk_129 (q : Nat) : Option Ent := lkp k_129 q
def k_130 : List (Nat × Ent) := [(0, (.aload_n 0, 1, 0, 0, 0, 0)), (1, (.getfield 36, 3, 4, 8, 2, 0)), (4, (.aload_n 0, 1, 0, 0, 0, 0)), (5, (.getfield 26, 3, 2, 8, 2, 0)), (8, (.aload_n 0, 1, 0, 0, 0, 0)), (9, (.getfield 26, 3, 2, 8, 2, 0)), (12, (.invokevirtual 137, 3, 79, 1, 6, 0)), (15, (.invokevirtual 146, 3, 42, 3, 4, 0)), (18, (.aload_n 0, 1, 0, 0, 0, 0)), (19, (.iload_n 1, 1, 0, 0, 0, 0)), (20, (.iload_n 2, 1, 0, 0, 0, 0)), (21, (.invokevirtual 159, 3, 163, 3, 8, 2)), (24, (.aload_n 0, 1, 0, 0, 0, 0)), (25, (.getfield 36, 3, 4, 8, 2, 0)), (28, (.invokevirtual 150, 3, 55, 1, 4, 0)), (31, (.iload_n 1, 1, 0, 0, 0, 0)), (32, (.iload_n 2, 1, 0, 0, 0, 0)), (33, (.invokevirtual 163, 3, 27, 3, 1, 0)), (36, (.ireturn, 1, 0, 0, 0, 0))]
def kk_130 (q : Nat) : Option Ent := lkp k_130 q
def k_131 : List (Nat × Ent) := [(0, (.aload_n 0, 1, 0, 0, 0, 0)), (1, (.getfield 36, 3, 4, 8, 2, 0)), (4, (.aload_n 0, 1, 0, 0, 0, 0)), (5, (.getfield 26, 3, 2, 8, 2, 0)), (8, (.aload_n 0, 1, 0, 0, 0, 0)), (9, (.getfield 26, 3, 2, 8, 2, 0)), (12, (.invokevirtual 137, 3, 79, 1, 6, 0)), (15, (.invokevirtual 146, 3, 42, 3, 4, 0)), (18, (.aload_n 0, 1, 0, 0, 0, 0)), (19, (.iload_n 1, 1, 0, 0, 0, 0)), (20, (.iload_n 2, 1, 0, 0, 0, 0)), (21, (.invokevirtual 159, 3, 163, 3, 8, 2)), (24, (.iload_n 3, 1, 0, 0, 0, 0)), (25, (.ifCond .lt 19, 3, 44, 0, 0, 0)), (28, (.iload_n 3, 1, 0, 0, 0, 0)), (29, (.aload_n 0, 1, 0, 0, 0, 0)), (30, (.getfield 36, 3, 4, 8, 2, 0)), (33, (.invokevirtual 150, 3, 55, 1, 4, 0)), (36, (.iload_n 1, 1, 0, 0, 0, 0)), (37, (.iload_n 2, 1, 0, 0, 0, 0)), (38, (.invokevirtual 163, 3, 27, 3, 1, 0)), (41, (.if_icmp .lt 13, 3, 54, 0, 0, 0)), (44, (.new 167, 3, 3, 1, 0, 0)), (47, (.dup, 1, 0, 0, 0, 0)), (48, (.ldc 169, 2, 0, 0, 0, 0)), (50, (.invokespecial 171, 3, 0, 0, 0, 0)), (53, (.athrow, 1, 0, 0, 0, 0)), (54, (.aload_n 0, 1, 0, 0, 0, 0)), (55, (.getfield 36, 3, 4, 8, 2, 0)), (58, (.invokevirtual 150, 3, 55, 1, 4, 0)), (61, (.iload_n 1, 1, 0, 0, 0, 0)), (62, (.iload_n 2, 1, 0, 0, 0, 0)), (63, (.iload_n 3, 1, 0, 0, 0, 0)), (64, (.invokevirtual 172, 3, 28, 4, 1, 0)), (67, (.ireturn, 1, 0, 0, 0, 0))]
def kk_131 (q : Nat) : Option Ent := lkp k_131 q
def k_132 : List (Nat × Ent) := [(0, (.aload_n 0, 1, 0, 0, 0, 0)), (1, (.iload_n 1, 1, 0, 0, 0, 0)), (2, (.invokevirtual 176, 3, 165, 2, 8, 1)), (5, (.aload_n 0, 1, 0, 0, 0, 0)), (6, (.getfield 36, 3, 4, 8, 2, 0)), (9, (.aload_n 0, 1, 0, 0, 0, 0)), (10, (.getfield 26, 3, 2, 8, 2, 0)), (13, (.aload_n 0, 1, 0, 0, 0, 0)), (14, (.getfield 26, 3, 2, 8, 2, 0)), (17, (.invokevirtual 137, 3, 79, 1, 6, 0)), (20, (.invokevirtual 146, 3, 42, 3, 4, 0)), (23, (.aload_n 0, 1, 0, 0, 0, 0)), (24, (.getfield 36, 3, 4, 8, 2, 0)), (27, (.iload_n 1, 1, 0, 0, 0, 0)), (28, (.invokevirtual 179, 3, 58, 2, 4, 0)), (31, (.lreturn, 1, 0, 0, 0, 0))]
def kk_132 (q : Nat) : Option Ent := lkp k_132 q
def k_133 : List (Nat × Ent) := [(0, (.aload_n 0, 1, 0, 0, 0, 0)), (1, (.iload_n 1, 1, 0, 0, 0, 0)), (2, (.invokevirtual 176, 3, 165, 2, 8, 1)), (5, (.aload_n 0, 1, 0, 0, 0, 0)), (6, (.getfield 36, 3, 4, 8, 2, 0)), (9, (.aload_n 0, 1, 0, 0, 0, 0)), (10, (.getfield 26, 3, 2, 8, 2, 0)), (13, (.aload_n 0, 1, 0, 0, 0, 0)), (14, (.getfield 26, 3, 2, 8, 2, 0)), (17, (.invokevirtual 137, 3, 79, 1, 6, 0)), (20, (.invokevirtual 146, 3, 42, 3, 4, 0)), (23, (.iload_n 1, 1, 0, 0, 0, 0)), (24, (.iconst 4, 1, 0, 0, 0, 0)), (25, (.if_icmp .lt 15, 3, 40, 0, 0, 0)), (28, (.aload_n 0, 1, 0, 0, 0, 0)), (29, (.iload_n 1, 1, 0, 0, 0, 0)), (30, (.invokestatic 183, 3, 170, 1, 8, 0)), (33, (.iload_n 2, 1, 0, 0, 0, 0)), (34, (.invokevirtual 159, 3, 163, 3, 8, 2)), (37, (.goto 17, 3, 54, 0, 0, 0)), (40, (.iload_n 2, 1, 0, 0, 0, 0)), (41, (.ifCond .eq 13, 3, 54, 0, 0, 0)), (44, (.new 167, 3, 3, 1, 0, 0)), (47, (.dup, 1, 0, 0, 0, 0)), (48, (.ldc 186, 2, 0, 0, 0, 0)), (50, (.invokespecial 171, 3, 0, 0, 0, 0)), (53, (.athrow, 1, 0, 0, 0, 0)), (54, (.aload_n 0, 1, 0, 0, 0, 0)), (55, (.getfield 36, 3, 4, 8, 2, 0)), (58, (.iload_n 1, 1, 0, 0, 0, 0)), (59, (.iload_n 2, 1, 0, 0, 0, 0)), (60, (.invokevirtual 188, 3, 59, 3, 4, 0)), (63, (.lreturn, 1, 0, 0, 0, 0))]
def kk_133 (q : Nat) : Option Ent := lkp k_133 q
def k_134 : List (Nat × Ent) := [(0, (.aload_n 0, 1, 0, 0, 0, 0)), (1, (.iload_n 1, 1, 0, 0, 0, 0)), (2, (.iload_n 2, 1, 0, 0, 0, 0)), (3, (.invokevirtual 192, 3, 166, 3, 8, 1)), (6, (.aload_n 0, 1, 0, 0, 0, 0)), (7, (.getfield 36, 3, 4, 8, 2, 0)), (10, (.aload_n 0, 1, 0, 0, 0, 0)), (11, (.getfield 26, 3, 2, 8, 2, 0)), (14, (.aload_n 0, 1, 0, 0, 0, 0)), (15, (.getfield 26, 3, 2, 8, 2, 0)), (18, (.invokevirtual 137, 3, 79, 1, 6, 0)), (21, (.invokevirtual 146, 3, 42, 3, 4, 0)), (24, (.aload_n 0, 1, 0, 0, 0, 0)), (25, (.getfield 36, 3, 4, 8, 2, 0)), (28, (.iload_n 1, 1, 0, 0, 0, 0)), (29, (.iload_n 2, 1, 0, 0, 0, 0)), (30, (.invokestatic 195, 3, 171, 2, 8, 0)), (33, (.invokevirtual 179, 3, 58, 2, 4, 0)), (36, (.lreturn, 1, 0, 0, 0, 0))]
def kk_134 (q : Nat) : Option Ent := lkp k_134 q
def k_135 : List (Nat × Ent) := [(0, (.aload_n 0, 1, 0, 0, 0, 0)), (1, (.getfield 36, 3, 4, 8, 2, 0)), (4, (.aload_n 0, 1, 0, 0, 0, 0)), (5, (.getfield 26, 3, 2, 8, 2, 0)), (8, (.aload_n 0, 1, 0, 0, 0, 0)), (9, (.getfield 26, 3, 2, 8, 2, 0)), (12, (.invokevirtual 137, 3, 79, 1, 6, 0)), (15, (.invokevirtual 146, 3, 42, 3, 4, 0)), (18, (.aload_n 0, 1, 0, 0, 0, 0)), (19, (.getfield 36, 3, 4, 8, 2, 0)), (22, (.invokevirtual 198, 3, 56, 1, 4, 0)), (25, (.ireturn, 1, 0, 0, 0, 0))]
def kk_135 (q : Nat) : Option Ent := lkp k_135 q
def k_136 : List (Nat × Ent) := [(0, (.aload_n 0, 1, 0, 0, 0, 0)), (1, (.iload_n 1, 1, 0, 0, 0, 0)), (2, (.invokevirtual 176, 3, 165, 2, 8, 1)), (5, (.aload_n 0, 1, 0, 0, 0, 0)), (6, (.iload_n 2, 1, 0, 0, 0, 0)), (7, (.invokevirtual 176, 3, 165, 2, 8, 1)), (10, (.aload_n 0, 1, 0, 0, 0, 0)), (11, (.getfield 36, 3, 4, 8, 2, 0)), (14, (.aload_n 0, 1, 0, 0, 0, 0)), (15, (.getfield 26, 3, 2, 8, 2, 0)), (18, (.aload_n 0, 1, 0, 0, 0, 0)), (19, (.getfield 26, 3, 2, 8, 2, 0)), (22, (.invokevirtual 137, 3, 79, 1, 6, 0)), (25, (.invokevirtual 146, 3, 42, 3, 4, 0)), (28, (.aload_n 0, 1, 0, 0, 0, 0)), (29, (.getfield 36, 3, 4, 8, 2, 0)), (32, (.iload_n 1, 1, 0, 0, 0, 0)), (33, (.invokevirtual 179, 3, 58, 2, 4, 0)), (36, (.aload_n 0, 1, 0, 0, 0, 0)), (37, (.getfield 36, 3, 4, 8, 2, 0)), (40, (.iload_n 2, 1, 0, 0, 0, 0)), (41, (.invokevirtual 179, 3, 58, 2, 4, 0)), (44, (.land, 1, 0, 0, 0, 0)), (45, (.lconst 0, 1, 0, 0, 0, 0)), (46, (.lcmp, 1, 0, 0, 0, 0)), (47, (.ifCond .eq 7, 3, 54, 0, 0, 0)), (50, (.iconst 1, 1, 0, 0, 0, 0)), (51, (.goto 4, 3, 55, 0, 0, 0)), (54, (.iconst 0, 1, 0, 0, 0, 0)), (55, (.ireturn, 1, 1, 0, 0, 0))]
def kk_136 (q : Nat) : Option Ent := lkp k_136 q
def k_137 : List (Nat × Ent) := [(0, (.aload_n 0, 1, 0, 0, 0, 0)), (1, (.iload_n 1, 1, 0, 0, 0, 0)), (2, (.invokevirtual 176, 3, 165, 2, 8, 1)), (5, (.aload_n 0, 1, 0, 0, 0, 0)), (6, (.getfield 36, 3, 4, 8, 2, 0)), (9, (.aload_n 0, 1, 0, 0, 0, 0)), (10, (.getfield 26, 3, 2, 8, 2, 0)), (13, (.aload_n 0, 1, 0, 0, 0, 0)), (14, (.getfield 26, 3, 2, 8, 2, 0)), (17, (.invokevirtual 137, 3, 79, 1, 6, 0)), (20, (.invokevirtual 146, 3, 42, 3, 4, 0)), (23, (.aload_n 0, 1, 0, 0, 0, 0)), (24, (.invokevirtual 201, 3, 159, 1, 8, 0)), (27, (.aload_n 0, 1, 0, 0, 0, 0)), (28, (.getfield 53, 3, 7, 8, 2, 0)), (31, (.iload_n 1, 1, 0, 0, 0, 0)), (32, (.invokevirtual 204, 3, 40, 2, 3, 0)), (35, (.lreturn, 1, 0, 0, 0, 0))]
def kk_137 (q : Nat) : Option Ent := lkp k_137 q
def k_138 : List (Nat × Ent) := [(0, (.aload_n 0, 1, 0, 0, 0, 0)), (1, (.getfield 36, 3, 4, 8, 2, 0)), (4, (.aload_n 0, 1, 0, 0, 0, 0)), (5, (.getfield 26, 3, 2, 8, 2, 0)), (8, (.aload_n 0, 1, 0, 0, 0, 0)), (9, (.getfield 26, 3, 2, 8, 2, 0)), (12, (.invokevirtual 137, 3, 79, 1, 6, 0)), (15, (.invokevirtual 146, 3, 42, 3, 4, 0)), (18, (.aload_n 0, 1, 0, 0, 0, 0)), (19, (.invokevirtual 201, 3, 159, 1, 8, 0)), (22, (.lconst 0, 1, 0, 0, 0, 0)), (23, (.lstore_n 1, 1, 0, 0, 0, 0)), (24, (.iconst 0, 1, 0, 0, 0, 0)), (25, (.istore_n 3, 1, 0, 0, 0, 0)), (26, (.iload_n 3, 1, 0, 0, 0, 0)), (27, (.iconst 4, 1, 0, 0, 0, 0)), (28, (.if_icmp .ge 20, 3, 48, 0, 0, 0)), (31, (.lload_n 1, 1, 0, 0, 0, 0)), (32, (.aload_n 0, 1, 0, 0, 0, 0)), (33, (.getfield 53, 3, 7, 8, 2, 0)), (36, (.iload_n 3, 1, 0, 0, 0, 0)), (37, (.invokevirtual 204, 3, 40, 2, 3, 0)), (40, (.lor, 1, 0, 0, 0, 0)), (41, (.lstore_n 1, 1, 0, 0, 0, 0)), (42, (.iinc 3 1, 3, 0, 0, 0, 0)), (45, (.goto (-19), 3, 26, 0, 0, 0)), (48, (.iconst 0, 1, 0, 0, 0, 0)), (49, (.istore_n 3, 1, 0, 0, 0, 0)), (50, (.iconst 0, 1, 0, 0, 0, 0)), (51, (.istore 4, 2, 0, 0, 0, 0)), (53, (.iload 4, 2, 0, 0, 0, 0)), (55, (.bipush 8, 2, 0, 0, 0, 0)), (57, (.if_icmp .ge 28, 3, 85, 0, 0, 0)), (60, (.lload_n 1, 1, 0, 0, 0, 0)), (61, (.iload 4, 2, 0, 0, 0, 0)), (63, (.invokestatic 207, 3, 172, 1, 8, 0)), (66, (.land, 1, 0, 0, 0, 0)), (67, (.lconst 0, 1, 0, 0, 0, 0)), (68, (.lcmp, 1, 0, 0, 0, 0)), (69, (.ifCond .eq 10, 3, 79, 0, 0, 0)), (72, (.iload_n 3, 1, 0, 0, 0, 0)), (73, (.iconst 1, 1, 0, 0, 0, 0)), (74, (.iload 4, 2, 0, 0, 0, 0)), (76, (.ishl, 1, 0, 0, 0, 0)), (77, (.ior, 1, 0, 0, 0, 0)), (78, (.istore_n 3, 1, 0, 0, 0, 0)), (79, (.iinc 4 1, 3, 0, 0, 0, 0)), (82, (.goto (-29), 3, 53, 0, 0, 0)), (85, (.iload_n 3, 1, 0, 0, 0, 0)), (86, (.ireturn, 1, 0, 0, 0, 0))]
def kk_138 (q : Nat) : Option Ent := lkp k_138 q
def k_139 : List (Nat × Ent) := [(0, (.aload_n 0, 1, 0, 0, 0, 0)), (1, (.getfield 40, 3, 5, 8, 2, 0)), (4, (.aload_n 0, 1, 0, 0, 0, 0)), (5, (.getfield 26, 3, 2, 8, 2, 0)), (8, (.iconst 0, 1, 0, 0, 0, 0)), (9, (.invokevirtual 146, 3, 42, 3, 4, 0)), (12, (.aload_n 0, 1, 0, 0, 0, 0)), (13, (.iload_n 1, 1, 0, 0, 0, 0)), (14, (.iload_n 2, 1, 0, 0, 0, 0)), (15, (.invokevirtual 210, 3, 167, 3, 8, 3)), (18, (.aload_n 0, 1, 0, 0, 0, 0)), (19, (.getfield 40, 3, 5, 8, 2, 0)), (22, (.iload_n 1, 1, 0, 0, 0, 0)), (23, (.iload_n 2, 1, 0, 0, 0, 0)), (24, (.invokevirtual 213, 3, 60, 3, 4, 0)), (27, (.ireturn, 1, 0, 0, 0, 0))]
def kk_139 (q : Nat) : Option Ent := lkp k_139 q
def k_140 : List (Nat × Ent) := [(0, (.aload_n 0, 1, 0, 0, 0, 0)), (1, (.getfield 40, 3, 5, 8, 2, 0)), (4, (.aload_n 0, 1, 0, 0, 0, 0)), (5, (.getfield 26, 3, 2, 8, 2, 0)), (8, (.iconst 0, 1, 0, 0, 0, 0)), (9, (.invokevirtual 146, 3, 42, 3, 4, 0)), (12, (.aload_n 0, 1, 0, 0, 0, 0)), (13, (.iload_n 1, 1, 0, 0, 0, 0)), (14, (.iload_n 2, 1, 0, 0, 0, 0)), (15, (.invokevirtual 210, 3, 167, 3, 8, 3)), (18, (.aload_n 0, 1, 0, 0, 0, 0)), (19, (.getfield 40, 3, 5, 8, 2, 0)), (22, (.iload_n 1, 1, 0, 0, 0, 0)), (23, (.iload_n 2, 1, 0, 0, 0, 0)), (24, (.invokevirtual 216, 3, 61, 3, 4, 0)), (27, (.ireturn, 1, 0, 0, 0, 0))]
def kk_140 (q : Nat) : Option Ent := lkp k_140 q
def k_141 : List (Nat × Ent) := [(0, (.aload_n 0, 1, 0, 0, 0, 0)), (1, (.getfield 40, 3, 5, 8, 2, 0)), (4, (.aload_n 0, 1, 0, 0, 0, 0)), (5, (.getfield 26, 3, 2, 8, 2, 0)), (8, (.iconst 0, 1, 0, 0, 0, 0)), (9, (.invokevirtual 146, 3, 42, 3, 4, 0)), (12, (.aload_n 0, 1, 0, 0, 0, 0)), (13, (.getfield 40, 3, 5, 8, 2, 0)), (16, (.invokevirtual 219, 3, 57, 1, 4, 0)), (19, (.ireturn, 1, 0, 0, 0, 0))]
def kk_141 (q : Nat) : Option Ent := lkp k_141 q
def k_142 : List (Nat × Ent) := [(0, (.aload_n 0, 1, 0, 0, 0, 0)), (1, (.iload_n 1, 1, 0, 0, 0, 0)), (2, (.invokevirtual 176, 3, 165, 2, 8, 1)), (5, (.aload_n 0, 1, 0, 0, 0, 0)), (6, (.getfield 46, 3, 6, 8, 2, 0)), (9, (.aload_n 0, 1, 0, 0, 0, 0)), (10, (.getfield 26, 3, 2, 8, 2, 0)), (13, (.invokevirtual 222, 3, 109, 2, 7, 0)), (16, (.aload_n 0, 1, 0, 0, 0, 0)), (17, (.getfield 46, 3, 6, 8, 2, 0)), (20, (.iload_n 1, 1, 0, 0, 0, 0)), (21, (.aload_n 0, 1, 0, 0, 0, 0)), (22, (.getfield 26, 3, 2, 8, 2, 0)), (25, (.invokevirtual 132, 3, 87, 1, 6, 0)), (28, (.invokevirtual 225, 3, 118, 3, 7, 0)), (31, (.lreturn, 1, 0, 0, 0, 0))]
def kk_142 (q : Nat) : Option Ent := lkp k_142 q
def k_143 : List (Nat × Ent) := [(0, (.aload_n 0, 1, 0, 0, 0, 0)), (1, (.iload_n 1, 1, 0, 0, 0, 0)), (2, (.invokevirtual 176, 3, 165, 2, 8, 1)), (5, (.aload_n 0, 1, 0, 0, 0, 0)), (6, (.iload_n 2, 1, 0, 0, 0, 0)), (7, (.invokevirtual 176, 3, 165, 2, 8, 1)), (10, (.aload_n 0, 1, 0, 0, 0, 0)), (11, (.getfield 46, 3, 6, 8, 2, 0)), (14, (.aload_n 0, 1, 0, 0, 0, 0)), (15, (.getfield 26, 3, 2, 8, 2, 0)), (18, (.invokevirtual 222, 3, 109, 2, 7, 0)), (21, (.aload_n 0, 1, 0, 0, 0, 0)), (22, (.getfield 46, 3, 6, 8, 2, 0)), (25, (.iload_n 1, 1, 0, 0, 0, 0)), (26, (.iload_n 2, 1, 0, 0, 0, 0)), (27, (.invokevirtual 227, 3, 117, 3, 7, 0)), (30, (.ireturn, 1, 1, 0, 0, 0))]
def kk_143 (q : Nat) : Option Ent := lkp k_143 q
def k_144 : List (Nat × Ent) := [(0, (.aload_n 0, 1, 0, 0, 0, 0)), (1, (.getfield 46, 3, 6, 8, 2, 0)), (4, (.aload_n 0, 1, 0, 0, 0, 0)), (5, (.getfield 26, 3, 2, 8, 2, 0)), (8, (.invokevirtual 222, 3, 109, 2, 7, 0)), (11, (.aload_n 0, 1, 0, 0, 0, 0)), (12, (.getfield 46, 3, 6, 8, 2, 0)), (15, (.aload_n 0, 1, 0, 0, 0, 0)), (16, (.getfield 26, 3, 2, 8, 2, 0)), (19, (.invokevirtual 132, 3, 87, 1, 6, 0)), (22, (.invokevirtual 231, 3, 119, 2, 7, 0)), (25, (.ireturn, 1, 0, 0, 0, 0))]
def kk_144 (q : Nat) : Option Ent := lkp k_144 q
def k_145 : List (Nat × Ent) := [(0, (.aload_n 0, 1, 0, 0, 0, 0)), (1, (.iload_n 1, 1, 0, 0, 0, 0)), (2, (.invokevirtual 92, 3, 162, 2, 8, 1)), (5, (.aload_n 0, 1, 0, 0, 0, 0)), (6, (.getfield 36, 3, 4, 8, 2, 0)), (9, (.aload_n 0, 1, 0, 0, 0, 0)), (10, (.getfield 26, 3, 2, 8, 2, 0)), (13, (.aload_n 0, 1, 0, 0, 0, 0)), (14, (.getfield 26, 3, 2, 8, 2, 0)), (17, (.invokevirtual 137, 3, 79, 1, 6, 0)), (20, (.invokevirtual 146, 3, 42, 3, 4, 0)), (23, (.aload_n 0, 1, 0, 0, 0, 0)), (24, (.invokevirtual 234, 3, 160, 1, 8, 0)), (27, (.aload_n 0, 1, 0, 0, 0, 0)), (28, (.getfield 53, 3, 7, 8, 2, 0)), (31, (.iload_n 1, 1, 0, 0, 0, 0)), (32, (.invokevirtual 204, 3, 40, 2, 3, 0)), (35, (.lconst 1, 1, 0, 0, 0, 0)), (36, (.iload_n 1, 1, 0, 0, 0, 0)), (37, (.lshl, 1, 0, 0, 0, 0)), (38, (.lor, 1, 0, 0, 0, 0)), (39, (.lstore_n 2, 1, 0, 0, 0, 0)), (40, (.lconst 0, 1, 0, 0, 0, 0)), (41, (.lstore 4, 2, 0, 0, 0, 0)), (43, (.iconst 0, 1, 0, 0, 0, 0)), (44, (.istore 6, 2, 0, 0, 0, 0)), (46, (.iload 6, 2, 0, 0, 0, 0)), (48, (.aload_n 0, 1, 0, 0, 0, 0)), (49, (.getfield 26, 3, 2, 8, 2, 0)), (52, (.invokevirtual 122, 3, 86, 1, 6, 0)), (55, (.if_icmp .ge 59, 3, 114, 0, 0, 0)), (58, (.aload_n 0, 1, 0, 0, 0, 0)), (59, (.getfield 26, 3, 2, 8, 2, 0)), (62, (.iload 6, 2, 0, 0, 0, 0)), (64, (.invokevirtual 126, 3, 90, 2, 6, 0)), (67, (.iconst 3, 1, 0, 0, 0, 0)), (68, (.if_icmp .ne 40, 3, 108, 0, 0, 0)), (71, (.lload_n 2, 1, 0, 0, 0, 0)), (72, (.aload_n 0, 1, 0, 0, 0, 0)), (73, (.getfield 26, 3, 2, 8, 2, 0)), (76, (.iload 6, 2, 0, 0, 0, 0)), (78, (.invokevirtual 129, 3, 94, 2, 6, 0)), (81, (.invokestatic 237, 3, 173, 2, 8, 0)), (84, (.ifCond .eq 24, 3, 108, 0, 0, 0)), (87, (.lload 4, 2, 0, 0, 0, 0)), (89, (.aload_n 0, 1, 0, 0, 0, 0)), (90, (.getfield 36, 3, 4, 8, 2, 0)), (93, (.aload_n 0, 1, 0, 0, 0, 0)), (94, (.getfield 26, 3, 2, 8, 2, 0)), (97, (.iload 6, 2, 0, 0, 0, 0)), (99, (.invokevirtual 241, 3, 91, 2, 6, 0)), (102, (.invokevirtual 179, 3, 58, 2, 4, 0)), (105, (.lor, 1, 0, 0, 0, 0)), (106, (.lstore 4, 2, 0, 0, 0, 0)), (108, (.iinc 6 1, 3, 0, 0, 0, 0)), (111, (.goto (-65), 3, 46, 0, 0, 0)), (114, (.lload 4, 2, 0, 0, 0, 0)), (116, (.lreturn, 1, 0, 0, 0, 0))]
def kk_145 (q : Nat) : Option Ent := lkp k_145 q
def k_146 : List (Nat × Ent) := [(0, (.aload_n 0, 1, 0, 0, 0, 0)), (1, (.iload_n 1, 1, 0, 0, 0, 0)), (2, (.invokevirtual 92, 3, 162, 2, 8, 1)), (5, (.aload_n 0, 1, 0, 0, 0, 0)), (6, (.getfield 36, 3, 4, 8, 2, 0)), (9, (.aload_n 0, 1, 0, 0, 0, 0)), (10, (.getfield 26, 3, 2, 8, 2, 0)), (13, (.aload_n 0, 1, 0, 0, 0, 0)), (14, (.getfield 26, 3, 2, 8, 2, 0)), (17, (.invokevirtual 137, 3, 79, 1, 6, 0)), (20, (.invokevirtual 146, 3, 42, 3, 4, 0)), (23, (.aload_n 0, 1, 0, 0, 0, 0)), (24, (.getfield 36, 3, 4, 8, 2, 0)), (27, (.invokevirtual 150, 3, 55, 1, 4, 0)), (30, (.iload_n 1, 1, 0, 0, 0, 0)), (31, (.invokevirtual 154, 3, 23, 2, 1, 0)), (34, (.ifCond .le 7, 3, 41, 0, 0, 0)), (37, (.iconst 1, 1, 0, 0, 0, 0)), (38, (.goto 4, 3, 42, 0, 0, 0)), (41, (.iconst 0, 1, 0, 0, 0, 0)), (42, (.ireturn, 1, 1, 0, 0, 0))]
def kk_146 (q : Nat) : Option Ent := lkp k_146 q
def k_147 : List (Nat × Ent) := [(0, (.aload_n 0, 1, 0, 0, 0, 0)), (1, (.iload_n 1, 1, 0, 0, 0, 0)), (2, (.invokevirtual 92, 3, 162, 2, 8, 1)), (5, (.aload_n 0, 1, 0, 0, 0, 0)), (6, (.invokevirtual 234, 3, 160, 1, 8, 0)), (9, (.aload_n 0, 1, 0, 0, 0, 0)), (10, (.getfield 53, 3, 7, 8, 2, 0)), (13, (.iload_n 1, 1, 0, 0, 0, 0)), (14, (.invokevirtual 204, 3, 40, 2, 3, 0)), (17, (.iload_n 1, 1, 0, 0, 0, 0)), (18, (.invokestatic 237, 3, 173, 2, 8, 0)), (21, (.ireturn, 1, 1, 0, 0, 0))]
def kk_147 (q : Nat) : Option Ent := lkp k_147 q
def k_148 : List (Nat × Ent) := [(0, (.aload_n 0, 1, 0, 0, 0, 0)), (1, (.iload_n 1, 1, 0, 0, 0, 0)), (2, (.invokevirtual 176, 3, 165, 2, 8, 1)), (5, (.aload_n 0, 1, 0, 0, 0, 0)), (6, (.invokevirtual 244, 3, 161, 1, 8, 0)), (9, (.aload_n 0, 1, 0, 0, 0, 0)), (10, (.getfield 53, 3, 7, 8, 2, 0)), (13, (.iload_n 1, 1, 0, 0, 0, 0)), (14, (.invokevirtual 204, 3, 40, 2, 3, 0)), (17, (.lstore_n 2, 1, 0, 0, 0, 0)), (18, (.iconst 1, 1, 0, 0, 0, 0)), (19, (.iload_n 1, 1, 0, 0, 0, 0)), (20, (.ishl, 1, 0, 0, 0, 0)), (21, (.istore 4, 2, 0, 0, 0, 0)), (23, (.iconst 0, 1, 0, 0, 0, 0)), (24, (.istore 5, 2, 0, 0, 0, 0)), (26, (.iload 5, 2, 0, 0, 0, 0)), (28, (.bipush 20, 2, 0, 0, 0, 0)), (30, (.if_icmp .ge 43, 3, 73, 0, 0, 0)), (33, (.lload_n 2, 1, 0, 0, 0, 0)), (34, (.iload 5, 2, 0, 0, 0, 0)), (36, (.invokestatic 237, 3, 173, 2, 8, 0)), (39, (.ifCond .eq 28, 3, 67, 0, 0, 0)), (42, (.aload_n 0, 1, 0, 0, 0, 0)), (43, (.getfield 53, 3, 7, 8, 2, 0)), (46, (.iload 5, 2, 0, 0, 0, 0)), (48, (.invokevirtual 204, 3, 40, 2, 3, 0)), (51, (.iload_n 1, 1, 0, 0, 0, 0)), (52, (.invokestatic 237, 3, 173, 2, 8, 0)), (55, (.ifCond .eq 12, 3, 67, 0, 0, 0)), (58, (.iload 4, 2, 0, 0, 0, 0)), (60, (.iconst 1, 1, 0, 0, 0, 0)), (61, (.iload 5, 2, 0, 0, 0, 0)), (63, (.ishl, 1, 0, 0, 0, 0)), (64, (.ior, 1, 0, 0, 0, 0)), (65, (.istore 4, 2, 0, 0, 0, 0)), (67, (.iinc 5 1, 3, 0, 0, 0, 0)), (70, (.goto (-44), 3, 26, 0, 0, 0)), (73, (.iload 4, 2, 0, 0, 0, 0)), (75, (.ireturn, 1, 0, 0, 0, 0))]
def kk_148 (q : Nat) : Option Ent := lkp k_148 q
def k_149 : List (Nat × Ent) := [(0, (.aload_n 0, 1, 0, 0, 0, 0)), (1, (.getfield 60, 3, 8, 8, 2, 0)), (4, (.aload_n 0, 1, 0, 0, 0, 0)), (5, (.getfield 26, 3, 2, 8, 2, 0)), (8, (.invokevirtual 247, 3, 63, 2, 5, 0)), (11, (.aload_n 0, 1, 0, 0, 0, 0)), (12, (.getfield 60, 3, 8, 8, 2, 0)), (15, (.invokevirtual 250, 3, 75, 1, 5, 0)), (18, (.ireturn, 1, 0, 0, 0, 0))]
def kk_149 (q : Nat) : Option Ent := lkp k_149 q
def k_150 : List (Nat × Ent) := [(0, (.aload_n 0, 1, 0, 0, 0, 0)), (1, (.iload_n 1, 1, 0, 0, 0, 0)), (2, (.invokevirtual 176, 3, 165, 2, 8, 1)), (5, (.aload_n 0, 1, 0, 0, 0, 0)), (6, (.getfield 60, 3, 8, 8, 2, 0)), (9, (.iload_n 1, 1, 0, 0, 0, 0)), (10, (.invokevirtual 253, 3, 78, 2, 5, 0)), (13, (.lreturn, 1, 0, 0, 0, 0))]
def kk_150 (q : Nat) : Option Ent := lkp k_150 q
def k_151 : List (Nat × Ent) := [(0, (.aload_n 0, 1, 0, 0, 0, 0)), (1, (.iload_n 1, 1, 0, 0, 0, 0)), (2, (.iload_n 2, 1, 0, 0, 0, 0)), (3, (.invokevirtual 192, 3, 166, 3, 8, 1)), (6, (.aload_n 0, 1, 0, 0, 0, 0)), (7, (.getfield 60, 3, 8, 8, 2, 0)), (10, (.iload_n 1, 1, 0, 0, 0, 0)), (11, (.iload_n 2, 1, 0, 0, 0, 0)), (12, (.invokestatic 195, 3, 171, 2, 8, 0)), (15, (.invokevirtual 253, 3, 78, 2, 5, 0)), (18, (.lreturn, 1, 0, 0, 0, 0))]
def kk_151 (q : Nat) : Option Ent := lkp k_151 q
def k_152 : List (Nat × Ent) := [(0, (.aload_n 0, 1, 0, 0, 0, 0)), (1, (.getfield 60, 3, 8, 8, 2, 0)), (4, (.invokevirtual 256, 3, 76, 1, 5, 0)), (7, (.ireturn, 1, 0, 0, 0, 0))]
def kk_152 (q : Nat) : Option Ent := lkp k_152 q
def k_153 : List (Nat × Ent) := [(0, (.aload_n 0, 1, 0, 0, 0, 0)), (1, (.getfield 60, 3, 8, 8, 2, 0)), (4, (.invokevirtual 259, 3, 77, 1, 5, 0)), (7, (.ireturn, 1, 0, 0, 0, 0))]
def kk_153 (q : Nat) : Option Ent := lkp k_153 q
def k_154 : List (Nat × Ent) := [(0, (.aload_n 0, 1, 0, 0, 0, 0)), (1, (.getfield 36, 3, 4, 8, 2, 0)), (4, (.aload_n 0, 1, 0, 0, 0, 0)), (5, (.getfield 26, 3, 2, 8, 2, 0)), (8, (.aload_n 0, 1, 0, 0, 0, 0)), (9, (.getfield 26, 3, 2, 8, 2, 0)), (12, (.invokevirtual 137, 3, 79, 1, 6, 0)), (15, (.invokevirtual 146, 3, 42, 3, 4, 0)), (18, (.aload_n 0, 1, 0, 0, 0, 0)), (19, (.getfield 46, 3, 6, 8, 2, 0)), (22, (.aload_n 0, 1, 0, 0, 0, 0)), (23, (.getfield 26, 3, 2, 8, 2, 0)), (26, (.invokevirtual 222, 3, 109, 2, 7, 0)), (29, (.iconst 0, 1, 0, 0, 0, 0)), (30, (.istore_n 1, 1, 0, 0, 0, 0)), (31, (.iconst 0, 1, 0, 0, 0, 0)), (32, (.istore_n 2, 1, 0, 0, 0, 0)), (33, (.iconst 0, 1, 0, 0, 0, 0)), (34, (.istore_n 3, 1, 0, 0, 0, 0)), (35, (.iload_n 3, 1, 0, 0, 0, 0)), (36, (.bipush 20, 2, 0, 0, 0, 0)), (38, (.if_icmp .ge 44, 3, 82, 0, 0, 0)), (41, (.iload_n 1, 1, 0, 0, 0, 0)), (42, (.aload_n 0, 1, 0, 0, 0, 0)), (43, (.getfield 36, 3, 4, 8, 2, 0)), (46, (.iload_n 3, 1, 0, 0, 0, 0)), (47, (.invokevirtual 179, 3, 58, 2, 4, 0)), (50, (.invokestatic 262, 3, 278, 1, 13, 0)), (53, (.iadd, 1, 0, 0, 0, 0)), (54, (.istore_n 1, 1, 0, 0, 0, 0)), (55, (.iload_n 2, 1, 0, 0, 0, 0)), (56, (.aload_n 0, 1, 0, 0, 0, 0)), (57, (.getfield 46, 3, 6, 8, 2, 0)), (60, (.iload_n 3, 1, 0, 0, 0, 0)), (61, (.aload_n 0, 1, 0, 0, 0, 0)), (62, (.getfield 26, 3, 2, 8, 2, 0)), (65, (.invokevirtual 132, 3, 87, 1, 6, 0)), (68, (.invokevirtual 225, 3, 118, 3, 7, 0)), (71, (.invokestatic 262, 3, 278, 1, 13, 0)), (74, (.iadd, 1, 0, 0, 0, 0)), (75, (.istore_n 2, 1, 0, 0, 0, 0)), (76, (.iinc 3 1, 3, 0, 0, 0, 0)), (79, (.goto (-44), 3, 35, 0, 0, 0)), (82, (.iload_n 2, 1, 0, 0, 0, 0)), (83, (.ifCond .ne 14, 3, 97, 0, 0, 0)), (86, (.new 268, 3, 5, 1, 0, 0)), (89, (.dup, 1, 0, 0, 0, 0)), (90, (.ldc_w 270, 3, 0, 0, 0, 0)), (93, (.invokespecial 272, 3, 0, 0, 0, 0)), (96, (.athrow, 1, 0, 0, 0, 0)), (97, (.iload_n 1, 1, 0, 0, 0, 0)), (98, (.i2d, 1, 0, 0, 0, 0)), (99, (.iload_n 2, 1, 0, 0, 0, 0)), (100, (.i2d, 1, 0, 0, 0, 0)), (101, (.ddiv, 1, 0, 0, 0, 0)), (102, (.dreturn, 1, 0, 0, 0, 0))]
def kk_154 (q : Nat) : Option Ent := lkp k_154 q
def k_155 : List (Nat × Ent) := [(0, (.aload_n 0, 1, 0, 0, 0, 0)), (1, (.getfield 36, 3, 4, 8, 2, 0)), (4, (.aload_n 0, 1, 0, 0, 0, 0)), (5, (.getfield 26, 3, 2, 8, 2, 0)), (8, (.aload_n 0, 1, 0, 0, 0, 0)), (9, (.getfield 26, 3, 2, 8, 2, 0)), (12, (.invokevirtual 137, 3, 79, 1, 6, 0)), (15, (.invokevirtual 146, 3, 42, 3, 4, 0)), (18, (.iconst 0, 1, 0, 0, 0, 0)), (19, (.istore_n 1, 1, 0, 0, 0, 0)), (20, (.iconst 0, 1, 0, 0, 0, 0)), (21, (.istore_n 2, 1, 0, 0, 0, 0)), (22, (.iconst 0, 1, 0, 0, 0, 0)), (23, (.istore_n 3, 1, 0, 0, 0, 0)), (24, (.iload_n 3, 1, 0, 0, 0, 0)), (25, (.bipush 20, 2, 0, 0, 0, 0)), (27, (.if_icmp .ge 40, 3, 67, 0, 0, 0)), (30, (.aload_n 0, 1, 0, 0, 0, 0)), (31, (.getfield 36, 3, 4, 8, 2, 0)), (34, (.iload_n 3, 1, 0, 0, 0, 0)), (35, (.invokevirtual 179, 3, 58, 2, 4, 0)), (38, (.invokestatic 262, 3, 278, 1, 13, 0)), (41, (.istore 4, 2, 0, 0, 0, 0)), (43, (.iload_n 1, 1, 0, 0, 0, 0)), (44, (.iload 4, 2, 0, 0, 0, 0)), (46, (.iadd, 1, 0, 0, 0, 0)), (47, (.istore_n 1, 1, 0, 0, 0, 0)), (48, (.iload_n 2, 1, 0, 0, 0, 0)), (49, (.iload 4, 2, 0, 0, 0, 0)), (51, (.ifCond .le 7, 3, 58, 0, 0, 0)), (54, (.iconst 1, 1, 0, 0, 0, 0)), (55, (.goto 4, 3, 59, 0, 0, 0)), (58, (.iconst 0, 1, 0, 0, 0, 0)), (59, (.iadd, 1, 0, 0, 0, 0)), (60, (.istore_n 2, 1, 0, 0, 0, 0)), (61, (.iinc 3 1, 3, 0, 0, 0, 0)), (64, (.goto (-40), 3, 24, 0, 0, 0)), (67, (.iload_n 2, 1, 0, 0, 0, 0)), (68, (.ifCond .ne 14, 3, 82, 0, 0, 0)), (71, (.new 268, 3, 5, 1, 0, 0)), (74, (.dup, 1, 0, 0, 0, 0)), (75, (.ldc_w 273, 3, 0, 0, 0, 0)), (78, (.invokespecial 272, 3, 0, 0, 0, 0)), (81, (.athrow, 1, 0, 0, 0, 0)), (82, (.iload_n 1, 1, 0, 0, 0, 0)), (83, (.i2f, 1, 0, 0, 0, 0)), (84, (.iload_n 2, 1, 0, 0, 0, 0)), (85, (.i2f, 1, 0, 0, 0, 0)), (86, (.fdiv, 1, 0, 0, 0, 0)), (87, (.freturn, 1, 0, 0, 0, 0))]
def kk_155 (q : Nat) : Option Ent := lkp k_155 q
def k_156 : List (Nat × Ent) := [(0, (.aload_n 0, 1, 0, 0, 0, 0)), (1, (.getfield 30, 3, 3, 8, 2, 0)), (4, (.aload_n 0, 1, 0, 0, 0, 0)), (5, (.getfield 26, 3, 2, 8, 2, 0)), (8, (.invokevirtual 275, 3, 84, 2, 6, 0)), (11, (.aload_n 0, 1, 0, 0, 0, 0)), (12, (.iconst 1, 1, 0, 0, 0, 0)), (13, (.putfield 68, 3, 10, 8, 1, 0)), (16, (.return_, 1, 0, 0, 0, 0))]
def kk_156 (q : Nat) : Option Ent := lkp k_156 q
def k_157 : List (Nat × Ent) := [(0, (.aload_n 0, 1, 0, 0, 0, 0)), (1, (.getfield 68, 3, 10, 8, 1, 0)), (4, (.ifCond .ne 14, 3, 18, 0, 0, 0)), (7, (.new 83, 3, 2, 1, 0, 0)), (10, (.dup, 1, 0, 0, 0, 0)), (11, (.ldc_w 278, 3, 0, 0, 0, 0)), (14, (.invokespecial 87, 3, 0, 0, 0, 0)), (17, (.athrow, 1, 0, 0, 0, 0)), (18, (.aload_n 0, 1, 0, 0, 0, 0)), (19, (.getfield 26, 3, 2, 8, 2, 0)), (22, (.aload_n 0, 1, 0, 0, 0, 0)), (23, (.getfield 30, 3, 3, 8, 2, 0)), (26, (.invokevirtual 275, 3, 84, 2, 6, 0)), (29, (.aload_n 0, 1, 0, 0, 0, 0)), (30, (.invokevirtual 115, 3, 158, 1, 8, 0)), (33, (.return_, 1, 0, 0, 0, 0))]
def kk_157 (q : Nat) : Option Ent := lkp k_157 q
def k_158 : List (Nat × Ent) := [(0, (.aload_n 0, 1, 0, 0, 0, 0)), (1, (.getfield 36, 3, 4, 8, 2, 0)), (4, (.invokevirtual 143, 3, 41, 1, 4, 0)), (7, (.aload_n 0, 1, 0, 0, 0, 0)), (8, (.getfield 40, 3, 5, 8, 2, 0)), (11, (.invokevirtual 143, 3, 41, 1, 4, 0)), (14, (.aload_n 0, 1, 0, 0, 0, 0)), (15, (.getfield 46, 3, 6, 8, 2, 0)), (18, (.invokevirtual 280, 3, 108, 1, 7, 0)), (21, (.aload_n 0, 1, 0, 0, 0, 0)), (22, (.getfield 60, 3, 8, 8, 2, 0)), (25, (.invokevirtual 281, 3, 62, 1, 5, 0)), (28, (.return_, 1, 0, 0, 0, 0))]
def kk_158 (q : Nat) : Option Ent := lkp k_158 q
def k_159 : List (Nat × Ent) := [(0, (.aload_n 0, 1, 0, 0, 0, 0)), (1, (.getfield 53, 3, 7, 8, 2, 0)), (4, (.invokevirtual 284, 3, 36, 1, 3, 0)), (7, (.iconst 0, 1, 0, 0, 0, 0)), (8, (.istore_n 1, 1, 0, 0, 0, 0)), (9, (.iload_n 1, 1, 0, 0, 0, 0)), (10, (.bipush 44, 2, 0, 0, 0, 0)), (12, (.if_icmp .ge 25, 3, 37, 0, 0, 0)), (15, (.aload_n 0, 1, 0, 0, 0, 0)), (16, (.getfield 53, 3, 7, 8, 2, 0)), (19, (.iload_n 1, 1, 0, 0, 0, 0)), (20, (.aload_n 0, 1, 0, 0, 0, 0)), (21, (.getfield 36, 3, 4, 8, 2, 0)), (24, (.iload_n 1, 1, 0, 0, 0, 0)), (25, (.invokevirtual 179, 3, 58, 2, 4, 0)), (28, (.invokevirtual 285, 3, 38, 3, 3, 0)), (31, (.iinc 1 1, 3, 0, 0, 0, 0)), (34, (.goto (-25), 3, 9, 0, 0, 0)), (37, (.aload_n 0, 1, 0, 0, 0, 0)), (38, (.getfield 53, 3, 7, 8, 2, 0)), (41, (.invokevirtual 289, 3, 39, 1, 3, 0)), (44, (.return_, 1, 0, 0, 0, 0))]
def kk_159 (q : Nat) : Option Ent := lkp k_159 q
def k_160 : List (Nat × Ent) := [(0, (.aload_n 0, 1, 0, 0, 0, 0)), (1, (.getfield 53, 3, 7, 8, 2, 0)), (4, (.invokevirtual 284, 3, 36, 1, 3, 0)), (7, (.iconst 0, 1, 0, 0, 0, 0)), (8, (.istore_n 1, 1, 0, 0, 0, 0)), (9, (.iload_n 1, 1, 0, 0, 0, 0)), (10, (.aload_n 0, 1, 0, 0, 0, 0)), (11, (.getfield 26, 3, 2, 8, 2, 0)), (14, (.invokevirtual 122, 3, 86, 1, 6, 0)), (17, (.if_icmp .ge 45, 3, 62, 0, 0, 0)), (20, (.aload_n 0, 1, 0, 0, 0, 0)), (21, (.getfield 26, 3, 2, 8, 2, 0)), (24, (.iload_n 1, 1, 0, 0, 0, 0)), (25, (.invokevirtual 126, 3, 90, 2, 6, 0)), (28, (.bipush 6, 2, 0, 0, 0, 0)), (30, (.if_icmp .ne 26, 3, 56, 0, 0, 0)), (33, (.aload_n 0, 1, 0, 0, 0, 0)), (34, (.getfield 53, 3, 7, 8, 2, 0)), (37, (.aload_n 0, 1, 0, 0, 0, 0)), (38, (.getfield 26, 3, 2, 8, 2, 0)), (41, (.iload_n 1, 1, 0, 0, 0, 0)), (42, (.invokevirtual 129, 3, 94, 2, 6, 0)), (45, (.aload_n 0, 1, 0, 0, 0, 0)), (46, (.getfield 26, 3, 2, 8, 2, 0)), (49, (.iload_n 1, 1, 0, 0, 0, 0)), (50, (.invokevirtual 292, 3, 93, 2, 6, 0)), (53, (.invokevirtual 295, 3, 37, 3, 3, 0)), (56, (.iinc 1 1, 3, 0, 0, 0, 0)), (59, (.goto (-50), 3, 9, 0, 0, 0)), (62, (.aload_n 0, 1, 0, 0, 0, 0)), (63, (.getfield 53, 3, 7, 8, 2, 0)), (66, (.invokevirtual 289, 3, 39, 1, 3, 0)), (69, (.return_, 1, 0, 0, 0, 0))]
def kk_160 (q : Nat) : Option Ent := lkp k_160 q
def k_161 : List (Nat × Ent) := [(0, (.aload_n 0, 1, 0, 0, 0, 0)), (1, (.getfield 53, 3, 7, 8, 2, 0)), (4, (.invokevirtual 284, 3, 36, 1, 3, 0)), (7, (.iconst 0, 1, 0, 0, 0, 0)), (8, (.istore_n 1, 1, 0, 0, 0, 0)), (9, (.iload_n 1, 1, 0, 0, 0, 0)), (10, (.aload_n 0, 1, 0, 0, 0, 0)), (11, (.getfield 26, 3, 2, 8, 2, 0)), (14, (.invokevirtual 122, 3, 86, 1, 6, 0)), (17, (.if_icmp .ge 100, 3, 117, 0, 0, 0)), (20, (.aload_n 0, 1, 0, 0, 0, 0)), (21, (.getfield 26, 3, 2, 8, 2, 0)), (24, (.iload_n 1, 1, 0, 0, 0, 0)), (25, (.invokevirtual 241, 3, 91, 2, 6, 0)), (28, (.istore_n 2, 1, 0, 0, 0, 0)), (29, (.aload_n 0, 1, 0, 0, 0, 0)), (30, (.getfield 26, 3, 2, 8, 2, 0)), (33, (.iload_n 1, 1, 0, 0, 0, 0)), (34, (.invokevirtual 298, 3, 92, 2, 6, 0)), (37, (.istore_n 3, 1, 0, 0, 0, 0)), (38, (.aload_n 0, 1, 0, 0, 0, 0)), (39, (.getfield 26, 3, 2, 8, 2, 0)), (42, (.iload_n 1, 1, 0, 0, 0, 0)), (43, (.invokevirtual 292, 3, 93, 2, 6, 0)), (46, (.istore 4, 2, 0, 0, 0, 0)), (48, (.aload_n 0, 1, 0, 0, 0, 0)), (49, (.getfield 26, 3, 2, 8, 2, 0)), (52, (.iload_n 1, 1, 0, 0, 0, 0)), (53, (.invokevirtual 126, 3, 90, 2, 6, 0)), (56, (.iconst 1, 1, 0, 0, 0, 0)), (57, (.if_icmp .ne 15, 3, 72, 0, 0, 0)), (60, (.aload_n 0, 1, 0, 0, 0, 0)), (61, (.getfield 53, 3, 7, 8, 2, 0)), (64, (.iload_n 3, 1, 0, 0, 0, 0)), (65, (.iload_n 2, 1, 0, 0, 0, 0)), (66, (.invokevirtual 295, 3, 37, 3, 3, 0)), (69, (.goto 42, 3, 111, 0, 0, 0)), (72, (.aload_n 0, 1, 0, 0, 0, 0)), (73, (.getfield 26, 3, 2, 8, 2, 0)), (76, (.iload_n 1, 1, 0, 0, 0, 0)), (77, (.invokevirtual 126, 3, 90, 2, 6, 0)), (80, (.bipush 6, 2, 0, 0, 0, 0)), (82, (.if_icmp .ne 29, 3, 111, 0, 0, 0)), (85, (.aload_n 0, 1, 0, 0, 0, 0)), (86, (.getfield 53, 3, 7, 8, 2, 0)), (89, (.iload_n 3, 1, 0, 0, 0, 0)), (90, (.iload 4, 2, 0, 0, 0, 0)), (92, (.invokestatic 301, 3, 168, 1, 8, 0)), (95, (.invokevirtual 295, 3, 37, 3, 3, 0)), (98, (.aload_n 0, 1, 0, 0, 0, 0)), (99, (.getfield 53, 3, 7, 8, 2, 0)), (102, (.iload 4, 2, 0, 0, 0, 0)), (104, (.invokestatic 304, 3, 169, 1, 8, 0)), (107, (.iload_n 2, 1, 0, 0, 0, 0)), (108, (.invokevirtual 295, 3, 37, 3, 3, 0)), (111, (.iinc 1 1, 3, 0, 0, 0, 0)), (114, (.goto (-105), 3, 9, 0, 0, 0)), (117, (.aload_n 0, 1, 0, 0, 0, 0)), (118, (.getfield 53, 3, 7, 8, 2, 0)), (121, (.invokevirtual 289, 3, 39, 1, 3, 0)), (124, (.return_, 1, 0, 0, 0, 0))]
def kk_161 (q : Nat) : Option Ent := lkp k_161 q
def k_162 : List (Nat × Ent) := [(0, (.iload_n 1, 1, 0, 0, 0, 0)), (1, (.ifCond .lt 8, 3, 9, 0, 0, 0)), (4, (.iload_n 1, 1, 0, 0, 0, 0)), (5, (.iconst 4, 1, 0, 0, 0, 0)), (6, (.if_icmp .lt 14, 3, 20, 0, 0, 0)), (9, (.new 167, 3, 3, 1, 0, 0)), (12, (.dup, 1, 0, 0, 0, 0)), (13, (.ldc_w 307, 3, 0, 0, 0, 0)), (16, (.invokespecial 171, 3, 0, 0, 0, 0)), (19, (.athrow, 1, 0, 0, 0, 0)), (20, (.return_, 1, 0, 0, 0, 0))]
def kk_162 (q : Nat) : Option Ent := lkp k_162 q
def k_163 : List (Nat × Ent) := [(0, (.aload_n 0, 1, 0, 0, 0, 0)), (1, (.iload_n 1, 1, 0, 0, 0, 0)), (2, (.invokevirtual 92, 3, 162, 2, 8, 1)), (5, (.iload_n 2, 1, 0, 0, 0, 0)), (6, (.ifCond .lt 18, 3, 24, 0, 0, 0)), (9, (.iload_n 2, 1, 0, 0, 0, 0)), (10, (.aload_n 0, 1, 0, 0, 0, 0)), (11, (.getfield 36, 3, 4, 8, 2, 0)), (14, (.invokevirtual 150, 3, 55, 1, 4, 0)), (17, (.iload_n 1, 1, 0, 0, 0, 0)), (18, (.invokevirtual 154, 3, 23, 2, 1, 0)), (21, (.if_icmp .lt 13, 3, 34, 0, 0, 0)), (24, (.new 167, 3, 3, 1, 0, 0)), (27, (.dup, 1, 0, 0, 0, 0)), (28, (.ldc 186, 2, 0, 0, 0, 0)), (30, (.invokespecial 171, 3, 0, 0, 0, 0)), (33, (.athrow, 1, 0, 0, 0, 0)), (34, (.return_, 1, 0, 0, 0, 0))]
def kk_163 (q : Nat) : Option Ent := lkp k_163 q
def k_164 : List (Nat × Ent) := [(0, (.iload_n 1, 1, 0, 0, 0, 0)), (1, (.ifCond .lt 14, 3, 15, 0, 0, 0)), (4, (.iload_n 1, 1, 0, 0, 0, 0)), (5, (.aload_n 0, 1, 0, 0, 0, 0)), (6, (.getfield 26, 3, 2, 8, 2, 0)), (9, (.invokevirtual 122, 3, 86, 1, 6, 0)), (12, (.if_icmp .lt 14, 3, 26, 0, 0, 0)), (15, (.new 167, 3, 3, 1, 0, 0)), (18, (.dup, 1, 0, 0, 0, 0)), (19, (.ldc_w 309, 3, 0, 0, 0, 0)), (22, (.invokespecial 171, 3, 0, 0, 0, 0)), (25, (.athrow, 1, 0, 0, 0, 0)), (26, (.return_, 1, 0, 0, 0, 0))]
def kk_164 (q : Nat) : Option Ent := lkp k_164 q
def k_165 : List (Nat × Ent) := [(0, (.iload_n 1, 1, 0, 0, 0, 0)), (1, (.ifCond .lt 9, 3, 10, 0, 0, 0)), (4, (.iload_n 1, 1, 0, 0, 0, 0)), (5, (.bipush 20, 2, 0, 0, 0, 0)), (7, (.if_icmp .lt 14, 3, 21, 0, 0, 0)), (10, (.new 167, 3, 3, 1, 0, 0)), (13, (.dup, 1, 0, 0, 0, 0)), (14, (.ldc_w 311, 3, 0, 0, 0, 0)), (17, (.invokespecial 171, 3, 0, 0, 0, 0)), (20, (.athrow, 1, 0, 0, 0, 0)), (21, (.return_, 1, 0, 0, 0, 0))]
def kk_165 (q : Nat) : Option Ent := lkp k_165 q
def k_166 : List (Nat × Ent) := [(0, (.iload_n 1, 1, 0, 0, 0, 0)), (1, (.ifCond .lt 23, 3, 24, 0, 0, 0)), (4, (.iload_n 1, 1, 0, 0, 0, 0)), (5, (.aload_n 0, 1, 0, 0, 0, 0)), (6, (.getfield 26, 3, 2, 8, 2, 0)), (9, (.invokevirtual 132, 3, 87, 1, 6, 0)), (12, (.if_icmp .ge 12, 3, 24, 0, 0, 0)), (15, (.iload_n 2, 1, 0, 0, 0, 0)), (16, (.ifCond .lt 8, 3, 24, 0, 0, 0)), (19, (.iload_n 2, 1, 0, 0, 0, 0)), (20, (.iconst 3, 1, 0, 0, 0, 0)), (21, (.if_icmp .lt 14, 3, 35, 0, 0, 0)), (24, (.new 167, 3, 3, 1, 0, 0)), (27, (.dup, 1, 0, 0, 0, 0)), (28, (.ldc_w 313, 3, 0, 0, 0, 0)), (31, (.invokespecial 171, 3, 0, 0, 0, 0)), (34, (.athrow, 1, 0, 0, 0, 0)), (35, (.return_, 1, 0, 0, 0, 0))]
def kk_166 (q : Nat) : Option Ent := lkp k_166 q
def k_167 : List (Nat × Ent) := [(0, (.aload_n 0, 1, 0, 0, 0, 0)), (1, (.iload_n 1, 1, 0, 0, 0, 0)), (2, (.invokevirtual 176, 3, 165, 2, 8, 1)), (5, (.iload_n 2, 1, 0, 0, 0, 0)), (6, (.ifCond .lt 18, 3, 24, 0, 0, 0)), (9, (.iload_n 2, 1, 0, 0, 0, 0)), (10, (.aload_n 0, 1, 0, 0, 0, 0)), (11, (.getfield 26, 3, 2, 8, 2, 0)), (14, (.invokevirtual 132, 3, 87, 1, 6, 0)), (17, (.iconst 0, 1, 0, 0, 0, 0)), (18, (.invokestatic 195, 3, 171, 2, 8, 0)), (21, (.if_icmp .lt 14, 3, 35, 0, 0, 0)), (24, (.new 167, 3, 3, 1, 0, 0)), (27, (.dup, 1, 0, 0, 0, 0)), (28, (.ldc_w 315, 3, 0, 0, 0, 0)), (31, (.invokespecial 171, 3, 0, 0, 0, 0)), (34, (.athrow, 1, 0, 0, 0, 0)), (35, (.aload_n 0, 1, 0, 0, 0, 0)), (36, (.getfield 40, 3, 5, 8, 2, 0)), (39, (.iload_n 1, 1, 0, 0, 0, 0)), (40, (.invokevirtual 179, 3, 58, 2, 4, 0)), (43, (.iload_n 2, 1, 0, 0, 0, 0)), (44, (.invokestatic 237, 3, 173, 2, 8, 0)), (47, (.ifCond .ne 14, 3, 61, 0, 0, 0)), (50, (.new 317, 3, 4, 1, 0, 0)), (53, (.dup, 1, 0, 0, 0, 0)), (54, (.ldc_w 319, 3, 0, 0, 0, 0)), (57, (.invokespecial 321, 3, 0, 0, 0, 0)), (60, (.athrow, 1, 0, 0, 0, 0)), (61, (.return_, 1, 0, 0, 0, 0))]
def kk_167 (q : Nat) : Option Ent := lkp k_167 q
def k_168 : List (Nat × Ent) := [(0, (.iconst 4, 1, 0, 0, 0, 0)), (1, (.iconst 4, 1, 0, 0, 0, 0)), (2, (.iload_n 0, 1, 0, 0, 0, 0)), (3, (.imul, 1, 0, 0, 0, 0)), (4, (.iadd, 1, 0, 0, 0, 0)), (5, (.ireturn, 1, 0, 0, 0, 0))]
def kk_168 (q : Nat) : Option Ent := lkp k_168 q
def k_169 : List (Nat × Ent) := [(0, (.iload_n 0, 1, 0, 0, 0, 0)), (1, (.invokestatic 301, 3, 168, 1, 8, 0)), (4, (.iconst 1, 1, 0, 0, 0, 0)), (5, (.iadd, 1, 0, 0, 0, 0)), (6, (.ireturn, 1, 0, 0, 0, 0))]
def kk_169 (q : Nat) : Option Ent := lkp k_169 q
def k_170 : List (Nat × Ent) := [(0, (.iload_n 0, 1, 0, 0, 0, 0)), (1, (.iconst 4, 1, 0, 0, 0, 0)), (2, (.isub, 1, 0, 0, 0, 0)), (3, (.iconst 4, 1, 0, 0, 0, 0)), (4, (.idiv, 1, 0, 0, 0, 0)), (5, (.ireturn, 1, 0, 0, 0, 0))]
def kk_170 (q : Nat) : Option Ent := lkp k_170 q
def k_171 : List (Nat × Ent) := [(0, (.bipush 20, 2, 0, 0, 0, 0)), (2, (.iconst 3, 1, 0, 0, 0, 0)), (3, (.iload_n 0, 1, 0, 0, 0, 0)), (4, (.imul, 1, 0, 0, 0, 0)), (5, (.iadd, 1, 0, 0, 0, 0)), (6, (.iload_n 1, 1, 0, 0, 0, 0)), (7, (.iadd, 1, 0, 0, 0, 0)), (8, (.ireturn, 1, 0, 0, 0, 0))]
def kk_171 (q : Nat) : Option Ent := lkp k_171 q
def k_172 : List (Nat × Ent) := [(0, (.ldc2_w 322, 3, 0, 0, 0, 7)), (3, (.iload_n 0, 1, 0, 0, 0, 0)), (4, (.iconst 0, 1, 0, 0, 0, 0)), (5, (.invokestatic 195, 3, 171, 2, 8, 0)), (8, (.lshl, 1, 0, 0, 0, 0)), (9, (.lreturn, 1, 0, 0, 0, 0))]
def kk_172 (q : Nat) : Option Ent := lkp k_172 q
def k_173 : List (Nat × Ent) := [(0, (.lload_n 0, 1, 0, 0, 0, 0)), (1, (.iload_n 2, 1, 0, 0, 0, 0)), (2, (.lushr, 1, 0, 0, 0, 0)), (3, (.lconst 1, 1, 0, 0, 0, 0)), (4, (.land, 1, 0, 0, 0, 0)), (5, (.lconst 0, 1, 0, 0, 0, 0)), (6, (.lcmp, 1, 0, 0, 0, 0)), (7, (.ifCond .eq 7, 3, 14, 0, 0, 0)), (10, (.iconst 1, 1, 0, 0, 0, 0)), (11, (.goto 4, 3, 15, 0, 0, 0)), (14, (.iconst 0, 1, 0, 0, 0, 0)), (15, (.ireturn, 1, 1, 0, 0, 0))]
def kk_173 (q : Nat) : Option Ent := lkp k_173 q
def k_174 : List (Nat × Ent) := [(0, (.aload_n 0, 1, 0, 0, 0, 0)), (1, (.getfield 84, 3, 0, 9, 0, 0)), (4, (.ireturn, 1, 0, 0, 0, 0))]
def kk_174 (q : Nat) : Option Ent := lkp k_174 q
def k_175 : List (Nat × Ent) := [(0, (.aload_n 0, 1, 0, 0, 0, 0)), (1, (.iload_n 1, 1, 0, 0, 0, 0)), (2, (.putfield 84, 3, 0, 9, 0, 0)), (5, (.iconst 0, 1, 0, 0, 0, 0)), (6, (.ireturn, 1, 0, 0, 0, 0))]
def kk_175 (q : Nat) : Option Ent := lkp k_175 q
def k_176 : List (Nat × Ent) := [(0, (.aload_n 0, 1, 0, 0, 0, 0)), (1, (.iload_n 1, 1, 0, 0, 0, 0)), (2, (.putfield 84, 3, 0, 9, 0, 0)), (5, (.iconst 0, 1, 0, 0, 0, 0)), (6, (.ireturn, 1, 1, 0, 0, 0))]
def kk_176 (q : Nat) : Option Ent := lkp k_176 q
def k_177 : List (Nat × Ent) := [(0, (.iload_n 0, 1, 0, 0, 0, 0)), (1, (.iload_n 1, 1, 0, 0, 0, 0)), (2, (.if_icmp .lt 12, 3, 14, 0, 0, 0)), (5, (.iload_n 0, 1, 0, 0, 0, 0)), (6, (.iload_n 2, 1, 0, 0, 0, 0)), (7, (.if_icmp .gt 7, 3, 14, 0, 0, 0)), (10, (.iconst 1, 1, 0, 0, 0, 0)), (11, (.goto 4, 3, 15, 0, 0, 0)), (14, (.iconst 0, 1, 0, 0, 0, 0)), (15, (.ireturn, 1, 1, 0, 0, 0))]
def kk_177 (q : Nat) : Option Ent := lkp k_177 q
def k_178 : List (Nat × Ent) := [(0, (.iconst 0, 1, 0, 0, 0, 0)), (1, (.istore_n 2, 1, 0, 0, 0, 0)), (2, (.iconst 0, 1, 0, 0, 0, 0)), (3, (.istore_n 3, 1, 0, 0, 0, 0)), (4, (.iload_n 3, 1, 0, 0, 0, 0)), (5, (.bipush 64, 2, 0, 0, 0, 0)), (7, (.if_icmp .ge 18, 3, 25, 0, 0, 0)), (10, (.iload_n 2, 1, 0, 0, 0, 0)), (11, (.lload_n 0, 1, 0, 0, 0, 0)), (12, (.iload_n 3, 1, 0, 0, 0, 0)), (13, (.lshr, 1, 0, 0, 0, 0)), (14, (.lconst 1, 1, 0, 0, 0, 0)), (15, (.land, 1, 0, 0, 0, 0)), (16, (.l2i, 1, 0, 0, 0, 0)), (17, (.iadd, 1, 0, 0, 0, 0)), (18, (.istore_n 2, 1, 0, 0, 0, 0)), (19, (.iinc 3 1, 3, 0, 0, 0, 0)), (22, (.goto (-18), 3, 4, 0, 0, 0)), (25, (.iload_n 2, 1, 0, 0, 0, 0)), (26, (.ireturn, 1, 0, 0, 0, 0))]
def kk_178 (q : Nat) : Option Ent := lkp k_178 q
def k_179 : List (Nat × Ent) := [(0, (.iload_n 0, 1, 0, 0, 0, 0)), (1, (.ifCond .lt 12, 3, 13, 0, 0, 0)), (4, (.iload_n 0, 1, 0, 0, 0, 0)), (5, (.iconst 4, 1, 0, 0, 0, 0)), (6, (.if_icmp .ge 7, 3, 13, 0, 0, 0)), (9, (.iconst 1, 1, 0, 0, 0, 0)), (10, (.goto 4, 3, 14, 0, 0, 0)), (13, (.iconst 0, 1, 0, 0, 0, 0)), (14, (.ireturn, 1, 1, 0, 0, 0))]
def kk_179 (q : Nat) : Option Ent := lkp k_179 q
def k_180 : List (Nat × Ent) := [(0, (.iload_n 0, 1, 0, 0, 0, 0)), (1, (.ifCond .lt 13, 3, 14, 0, 0, 0)), (4, (.iload_n 0, 1, 0, 0, 0, 0)), (5, (.bipush 20, 2, 0, 0, 0, 0)), (7, (.if_icmp .ge 7, 3, 14, 0, 0, 0)), (10, (.iconst 1, 1, 0, 0, 0, 0)), (11, (.goto 4, 3, 15, 0, 0, 0)), (14, (.iconst 0, 1, 0, 0, 0, 0)), (15, (.ireturn, 1, 1, 0, 0, 0))]
def kk_180 (q : Nat) : Option Ent := lkp k_180 q
def k_181 : List (Nat × Ent) := [(0, (.aload_n 0, 1, 0, 0, 0, 0)), (1, (.getfield 22, 3, 5, 9, 2, 0)), (4, (.iconst 0, 1, 0, 0, 0, 0)), (5, (.iaload, 1, 0, 0, 0, 0)), (6, (.aload_n 0, 1, 0, 0, 0, 0)), (7, (.getfield 22, 3, 5, 9, 2, 0)), (10, (.iconst 1, 1, 0, 0, 0, 0)), (11, (.iaload, 1, 0, 0, 0, 0)), (12, (.iadd, 1, 0, 0, 0, 0)), (13, (.aload_n 0, 1, 0, 0, 0, 0)), (14, (.getfield 22, 3, 5, 9, 2, 0)), (17, (.iconst 2, 1, 0, 0, 0, 0)), (18, (.iaload, 1, 0, 0, 0, 0)), (19, (.iadd, 1, 0, 0, 0, 0)), (20, (.aload_n 0, 1, 0, 0, 0, 0)), (21, (.getfield 22, 3, 5, 9, 2, 0)), (24, (.iconst 3, 1, 0, 0, 0, 0)), (25, (.iaload, 1, 0, 0, 0, 0)), (26, (.iadd, 1, 0, 0, 0, 0)), (27, (.ireturn, 1, 0, 0, 0, 0))]
def kk_181 (q : Nat) : Option Ent := lkp k_181 q
def k_182 : List (Nat × Ent) := [(0, (.iload_n 1, 1, 0, 0, 0, 0)), (1, (.istore_n 2, 1, 0, 0, 0, 0)), (2, (.iconst 0, 1, 0, 0, 0, 0)), (3, (.istore_n 3, 1, 0, 0, 0, 0)), (4, (.iload_n 2, 1, 0, 0, 0, 0)), (5, (.aload_n 0, 1, 0, 0, 0, 0)), (6, (.getfield 22, 3, 5, 9, 2, 0)), (9, (.iload_n 3, 1, 0, 0, 0, 0)), (10, (.iaload, 1, 0, 0, 0, 0)), (11, (.if_icmp .lt 18, 3, 29, 0, 0, 0)), (14, (.iload_n 2, 1, 0, 0, 0, 0)), (15, (.aload_n 0, 1, 0, 0, 0, 0)), (16, (.getfield 22, 3, 5, 9, 2, 0)), (19, (.iload_n 3, 1, 0, 0, 0, 0)), (20, (.iaload, 1, 0, 0, 0, 0)), (21, (.isub, 1, 0, 0, 0, 0)), (22, (.istore_n 2, 1, 0, 0, 0, 0)), (23, (.iinc 3 1, 3, 0, 0, 0, 0)), (26, (.goto (-22), 3, 4, 0, 0, 0)), (29, (.bipush 12, 2, 0, 0, 0, 0)), (31, (.iload_n 3, 1, 0, 0, 0, 0)), (32, (.imul, 1, 0, 0, 0, 0)), (33, (.iload_n 2, 1, 0, 0, 0, 0)), (34, (.iadd, 1, 0, 0, 0, 0)), (35, (.ireturn, 1, 0, 0, 0, 0))]
def kk_182 (q : Nat) : Option Ent := lkp k_182 q
def k_183 : List (Nat × Ent) := [(0, (.iload_n 1, 1, 0, 0, 0, 0)), (1, (.bipush 12, 2, 0, 0, 0, 0)), (3, (.irem, 1, 0, 0, 0, 0)), (4, (.istore_n 2, 1, 0, 0, 0, 0)), (5, (.iconst 0, 1, 0, 0, 0, 0)), (6, (.istore_n 3, 1, 0, 0, 0, 0)), (7, (.iload_n 3, 1, 0, 0, 0, 0)), (8, (.iload_n 1, 1, 0, 0, 0, 0)), (9, (.bipush 12, 2, 0, 0, 0, 0)), (11, (.idiv, 1, 0, 0, 0, 0)), (12, (.if_icmp .ge 18, 3, 30, 0, 0, 0)), (15, (.iload_n 2, 1, 0, 0, 0, 0)), (16, (.aload_n 0, 1, 0, 0, 0, 0)), (17, (.getfield 22, 3, 5, 9, 2, 0)), (20, (.iload_n 3, 1, 0, 0, 0, 0)), (21, (.iaload, 1, 0, 0, 0, 0)), (22, (.iadd, 1, 0, 0, 0, 0)), (23, (.istore_n 2, 1, 0, 0, 0, 0)), (24, (.iinc 3 1, 3, 0, 0, 0, 0)), (27, (.goto (-20), 3, 7, 0, 0, 0)), (30, (.iload_n 2, 1, 0, 0, 0, 0)), (31, (.ireturn, 1, 0, 0, 0, 0))]
def kk_183 (q : Nat) : Option Ent := lkp k_183 q
def k_184 : List (Nat × Ent) := [(0, (.iconst 0, 1, 0, 0, 0, 0)), (1, (.istore_n 3, 1, 0, 0, 0, 0)), (2, (.iconst 0, 1, 0, 0, 0, 0)), (3, (.istore 4, 2, 0, 0, 0, 0)), (5, (.iload 4, 2, 0, 0, 0, 0)), (7, (.iconst 4, 1, 0, 0, 0, 0)), (8, (.if_icmp .ge 61, 3, 69, 0, 0, 0)), (11, (.iconst 0, 1, 0, 0, 0, 0)), (12, (.istore 5, 2, 0, 0, 0, 0)), (14, (.iload 5, 2, 0, 0, 0, 0)), (16, (.aload_n 0, 1, 0, 0, 0, 0)), (17, (.getfield 22, 3, 5, 9, 2, 0)), (20, (.iload 4, 2, 0, 0, 0, 0)), (22, (.iaload, 1, 0, 0, 0, 0)), (23, (.if_icmp .ge 40, 3, 63, 0, 0, 0)), (26, (.iload_n 3, 1, 0, 0, 0, 0)), (27, (.iload 4, 2, 0, 0, 0, 0)), (29, (.iload_n 2, 1, 0, 0, 0, 0)), (30, (.if_icmp .eq 24, 3, 54, 0, 0, 0)), (33, (.aload_n 0, 1, 0, 0, 0, 0)), (34, (.getfield 7, 3, 1, 9, 2, 0)), (37, (.bipush 12, 2, 0, 0, 0, 0)), (39, (.iload 4, 2, 0, 0, 0, 0)), (41, (.imul, 1, 0, 0, 0, 0)), (42, (.iload 5, 2, 0, 0, 0, 0)), (44, (.iadd, 1, 0, 0, 0, 0)), (45, (.iaload, 1, 0, 0, 0, 0)), (46, (.iload_n 1, 1, 0, 0, 0, 0)), (47, (.if_icmp .ne 7, 3, 54, 0, 0, 0)), (50, (.iconst 1, 1, 0, 0, 0, 0)), (51, (.goto 4, 3, 55, 0, 0, 0)), (54, (.iconst 0, 1, 0, 0, 0, 0)), (55, (.iadd, 1, 0, 0, 0, 0)), (56, (.istore_n 3, 1, 0, 0, 0, 0)), (57, (.iinc 5 1, 3, 0, 0, 0, 0)), (60, (.goto (-46), 3, 14, 0, 0, 0)), (63, (.iinc 4 1, 3, 0, 0, 0, 0)), (66, (.goto (-61), 3, 5, 0, 0, 0)), (69, (.iload_n 3, 1, 0, 0, 0, 0)), (70, (.ireturn, 1, 0, 0, 0, 0))]
def kk_184 (q : Nat) : Option Ent := lkp k_184 q
def k_185 : List (Nat × Ent) := [(0, (.iconst 0, 1, 0, 0, 0, 0)), (1, (.istore_n 2, 1, 0, 0, 0, 0)), (2, (.iconst 0, 1, 0, 0, 0, 0)), (3, (.istore_n 3, 1, 0, 0, 0, 0)), (4, (.iload_n 3, 1, 0, 0, 0, 0)), (5, (.aload_n 0, 1, 0, 0, 0, 0)), (6, (.iload_n 1, 1, 0, 0, 0, 0)), (7, (.invokevirtual 87, 3, 183, 2, 9, 0)), (10, (.if_icmp .ge 31, 3, 41, 0, 0, 0)), (13, (.iload_n 2, 1, 0, 0, 0, 0)), (14, (.aload_n 0, 1, 0, 0, 0, 0)), (15, (.getfield 7, 3, 1, 9, 2, 0)), (18, (.aload_n 0, 1, 0, 0, 0, 0)), (19, (.iload_n 3, 1, 0, 0, 0, 0)), (20, (.invokevirtual 91, 3, 182, 2, 9, 0)), (23, (.iaload, 1, 0, 0, 0, 0)), (24, (.iconst 4, 1, 0, 0, 0, 0)), (25, (.if_icmp .ne 7, 3, 32, 0, 0, 0)), (28, (.iconst 1, 1, 0, 0, 0, 0)), (29, (.goto 4, 3, 33, 0, 0, 0)), (32, (.iconst 0, 1, 0, 0, 0, 0)), (33, (.iadd, 1, 0, 0, 0, 0)), (34, (.istore_n 2, 1, 0, 0, 0, 0)), (35, (.iinc 3 1, 3, 0, 0, 0, 0)), (38, (.goto (-34), 3, 4, 0, 0, 0)), (41, (.iload_n 2, 1, 0, 0, 0, 0)), (42, (.ireturn, 1, 0, 0, 0, 0))]
def kk_185 (q : Nat) : Option Ent := lkp k_185 q
def k_186 : List (Nat × Ent) := [(0, (.iload_n 1, 1, 0, 0, 0, 0)), (1, (.bipush 33, 2, 0, 0, 0, 0)), (3, (.bipush 126, 2, 0, 0, 0, 0)), (5, (.invokestatic 94, 3, 177, 3, 9, 0)), (8, (.ifCond .ne 9, 3, 17, 0, 0, 0)), (11, (.aload_n 0, 1, 0, 0, 0, 0)), (12, (.iconst 1, 1, 0, 0, 0, 0)), (13, (.invokevirtual 98, 3, 175, 2, 9, 0)), (16, (.ireturn, 1, 0, 0, 0, 0)), (17, (.aload_n 0, 1, 0, 0, 0, 0)), (18, (.getfield 101, 3, 8, 9, 0, 0)), (21, (.bipush 80, 2, 0, 0, 0, 0)), (23, (.if_icmp .ne 9, 3, 32, 0, 0, 0)), (26, (.aload_n 0, 1, 0, 0, 0, 0)), (27, (.iconst 2, 1, 0, 0, 0, 0)), (28, (.invokevirtual 98, 3, 175, 2, 9, 0)), (31, (.ireturn, 1, 0, 0, 0, 0)), (32, (.aload_n 0, 1, 0, 0, 0, 0)), (33, (.iconst 0, 1, 0, 0, 0, 0)), (34, (.putfield 84, 3, 0, 9, 0, 0)), (37, (.aload_n 0, 1, 0, 0, 0, 0)), (38, (.getfield 25, 3, 7, 9, 2, 0)), (41, (.aload_n 0, 1, 0, 0, 0, 0)), (42, (.getfield 101, 3, 8, 9, 0, 0)), (45, (.iload_n 1, 1, 0, 0, 0, 0)), (46, (.iastore, 1, 0, 0, 0, 0)), (47, (.aload_n 0, 1, 0, 0, 0, 0)), (48, (.dup, 1, 0, 0, 0, 0)), (49, (.getfield 101, 3, 8, 9, 0, 0)), (52, (.iconst 1, 1, 0, 0, 0, 0)), (53, (.iadd, 1, 0, 0, 0, 0)), (54, (.putfield 101, 3, 8, 9, 0, 0)), (57, (.aload_n 0, 1, 0, 0, 0, 0)), (58, (.getfield 101, 3, 8, 9, 0, 0)), (61, (.ireturn, 1, 0, 0, 0, 0))]
def kk_186 (q : Nat) : Option Ent := lkp k_186 q
def k_187 : List (Nat × Ent) := [(0, (.aload_n 0, 1, 0, 0, 0, 0)), (1, (.getfield 104, 3, 9, 9, 0, 0)), (4, (.aload_n 0, 1, 0, 0, 0, 0)), (5, (.getfield 101, 3, 8, 9, 0, 0)), (8, (.if_icmp .ge 15, 3, 23, 0, 0, 0)), (11, (.aload_n 0, 1, 0, 0, 0, 0)), (12, (.getfield 25, 3, 7, 9, 2, 0)), (15, (.aload_n 0, 1, 0, 0, 0, 0)), (16, (.getfield 104, 3, 9, 9, 0, 0)), (19, (.iaload, 1, 0, 0, 0, 0)), (20, (.goto 4, 3, 24, 0, 0, 0)), (23, (.iconst (-1), 1, 0, 0, 0, 0)), (24, (.ireturn, 1, 0, 0, 0, 0))]
def kk_187 (q : Nat) : Option Ent := lkp k_187 q
def k_188 : List (Nat × Ent) := [(0, (.aload_n 0, 1, 0, 0, 0, 0)), (1, (.invokevirtual 107, 3, 187, 1, 9, 0)), (4, (.iload_n 1, 1, 0, 0, 0, 0)), (5, (.if_icmp .eq 5, 3, 10, 0, 0, 0)), (8, (.iconst 0, 1, 0, 0, 0, 0)), (9, (.ireturn, 1, 1, 0, 0, 0)), (10, (.aload_n 0, 1, 0, 0, 0, 0)), (11, (.dup, 1, 0, 0, 0, 0)), (12, (.getfield 104, 3, 9, 9, 0, 0)), (15, (.iconst 1, 1, 0, 0, 0, 0)), (16, (.iadd, 1, 0, 0, 0, 0)), (17, (.putfield 104, 3, 9, 9, 0, 0)), (20, (.iconst 1, 1, 0, 0, 0, 0)), (21, (.ireturn, 1, 1, 0, 0, 0))]
def kk_188 (q : Nat) : Option Ent := lkp k_188 q
def k_189 : List (Nat × Ent) := [(0, (.aload_n 0, 1, 0, 0, 0, 0)), (1, (.invokevirtual 107, 3, 187, 1, 9, 0)), (4, (.istore_n 2, 1, 0, 0, 0, 0)), (5, (.iload_n 2, 1, 0, 0, 0, 0)), (6, (.bipush 97, 2, 0, 0, 0, 0)), (8, (.bipush 100, 2, 0, 0, 0, 0)), (10, (.invokestatic 94, 3, 177, 3, 9, 0)), (13, (.ifCond .eq 10, 3, 23, 0, 0, 0)), (16, (.iload_n 2, 1, 0, 0, 0, 0)), (17, (.bipush 97, 2, 0, 0, 0, 0)), (19, (.isub, 1, 0, 0, 0, 0)), (20, (.goto 46, 3, 66, 0, 0, 0)), (23, (.iload_n 2, 1, 0, 0, 0, 0)), (24, (.bipush 112, 2, 0, 0, 0, 0)), (26, (.if_icmp .ne 7, 3, 33, 0, 0, 0)), (29, (.iconst 4, 1, 0, 0, 0, 0)), (30, (.goto 36, 3, 66, 0, 0, 0)), (33, (.iload_n 2, 1, 0, 0, 0, 0)), (34, (.bipush 114, 2, 0, 0, 0, 0)), (36, (.if_icmp .ne 7, 3, 43, 0, 0, 0)), (39, (.iconst 5, 1, 0, 0, 0, 0)), (40, (.goto 26, 3, 66, 0, 0, 0)), (43, (.iload_n 2, 1, 0, 0, 0, 0)), (44, (.bipush 120, 2, 0, 0, 0, 0)), (46, (.if_icmp .ne 8, 3, 54, 0, 0, 0)), (49, (.bipush 6, 2, 0, 0, 0, 0)), (51, (.goto 15, 3, 66, 0, 0, 0)), (54, (.iload_n 2, 1, 0, 0, 0, 0)), (55, (.bipush 121, 2, 0, 0, 0, 0)), (57, (.if_icmp .ne 8, 3, 65, 0, 0, 0)), (60, (.bipush 7, 2, 0, 0, 0, 0)), (62, (.goto 4, 3, 66, 0, 0, 0)), (65, (.iconst (-1), 1, 0, 0, 0, 0)), (66, (.istore_n 3, 1, 0, 0, 0, 0)), (67, (.iload_n 3, 1, 0, 0, 0, 0)), (68, (.ifCond .ge 5, 3, 73, 0, 0, 0)), (71, (.iconst (-1), 1, 0, 0, 0, 0)), (72, (.ireturn, 1, 0, 0, 0, 0)), (73, (.aload_n 0, 1, 0, 0, 0, 0)), (74, (.dup, 1, 0, 0, 0, 0)), (75, (.getfield 104, 3, 9, 9, 0, 0)), (78, (.iconst 1, 1, 0, 0, 0, 0)), (79, (.iadd, 1, 0, 0, 0, 0)), (80, (.putfield 104, 3, 9, 9, 0, 0)), (83, (.iload_n 3, 1, 0, 0, 0, 0)), (84, (.iconst 4, 1, 0, 0, 0, 0)), (85, (.if_icmp .ge 7, 3, 92, 0, 0, 0)), (88, (.iload_n 3, 1, 0, 0, 0, 0)), (89, (.goto 8, 3, 97, 0, 0, 0)), (92, (.iload_n 3, 1, 0, 0, 0, 0)), (93, (.iconst 4, 1, 0, 0, 0, 0)), (94, (.iload_n 1, 1, 0, 0, 0, 0)), (95, (.imul, 1, 0, 0, 0, 0)), (96, (.iadd, 1, 0, 0, 0, 0)), (97, (.ireturn, 1, 0, 0, 0, 0))]
def kk_189 (q : Nat) : Option Ent := lkp k_189 q
def k_190 : List (Nat × Ent) := [(0, (.aload_n 0, 1, 0, 0, 0, 0)), (1, (.invokevirtual 107, 3, 187, 1, 9, 0)), (4, (.bipush 48, 2, 0, 0, 0, 0)), (6, (.bipush 48, 2, 0, 0, 0, 0)), (8, (.iload_n 1, 1, 0, 0, 0, 0)), (9, (.iadd, 1, 0, 0, 0, 0)), (10, (.invokestatic 94, 3, 177, 3, 9, 0)), (13, (.ifCond .ne 5, 3, 18, 0, 0, 0)), (16, (.iconst (-1), 1, 0, 0, 0, 0)), (17, (.ireturn, 1, 0, 0, 0, 0)), (18, (.aload_n 0, 1, 0, 0, 0, 0)), (19, (.dup, 1, 0, 0, 0, 0)), (20, (.getfield 104, 3, 9, 9, 0, 0)), (23, (.iconst 1, 1, 0, 0, 0, 0)), (24, (.iadd, 1, 0, 0, 0, 0)), (25, (.putfield 104, 3, 9, 9, 0, 0)), (28, (.aload_n 0, 1, 0, 0, 0, 0)), (29, (.getfield 25, 3, 7, 9, 2, 0)), (32, (.aload_n 0, 1, 0, 0, 0, 0)), (33, (.getfield 104, 3, 9, 9, 0, 0)), (36, (.iconst 1, 1, 0, 0, 0, 0)), (37, (.isub, 1, 0, 0, 0, 0)), (38, (.iaload, 1, 0, 0, 0, 0)), (39, (.bipush 48, 2, 0, 0, 0, 0)), (41, (.isub, 1, 0, 0, 0, 0)), (42, (.ireturn, 1, 0, 0, 0, 0))]
def kk_190 (q : Nat) : Option Ent := lkp k_190 q
def k_191 : List (Nat × Ent) := [(0, (.aload_n 0, 1, 0, 0, 0, 0)), (1, (.getfield 22, 3, 5, 9, 2, 0)), (4, (.iconst 4, 1, 0, 0, 0, 0)), (5, (.iaload, 1, 0, 0, 0, 0)), (6, (.bipush 12, 2, 0, 0, 0, 0)), (8, (.if_icmp .ge 47, 3, 55, 0, 0, 0)), (11, (.bipush 48, 2, 0, 0, 0, 0)), (13, (.aload_n 0, 1, 0, 0, 0, 0)), (14, (.getfield 22, 3, 5, 9, 2, 0)), (17, (.iconst 4, 1, 0, 0, 0, 0)), (18, (.iaload, 1, 0, 0, 0, 0)), (19, (.iadd, 1, 0, 0, 0, 0)), (20, (.istore 5, 2, 0, 0, 0, 0)), (22, (.aload_n 0, 1, 0, 0, 0, 0)), (23, (.getfield 7, 3, 1, 9, 2, 0)), (26, (.iload 5, 2, 0, 0, 0, 0)), (28, (.iload_n 1, 1, 0, 0, 0, 0)), (29, (.iastore, 1, 0, 0, 0, 0)), (30, (.aload_n 0, 1, 0, 0, 0, 0)), (31, (.getfield 13, 3, 2, 9, 2, 0)), (34, (.iload 5, 2, 0, 0, 0, 0)), (36, (.iload_n 2, 1, 0, 0, 0, 0)), (37, (.iastore, 1, 0, 0, 0, 0)), (38, (.aload_n 0, 1, 0, 0, 0, 0)), (39, (.getfield 16, 3, 3, 9, 2, 0)), (42, (.iload 5, 2, 0, 0, 0, 0)), (44, (.iload_n 3, 1, 0, 0, 0, 0)), (45, (.iastore, 1, 0, 0, 0, 0)), (46, (.aload_n 0, 1, 0, 0, 0, 0)), (47, (.getfield 19, 3, 4, 9, 2, 0)), (50, (.iload 5, 2, 0, 0, 0, 0)), (52, (.iload 4, 2, 0, 0, 0, 0)), (54, (.iastore, 1, 0, 0, 0, 0)), (55, (.aload_n 0, 1, 0, 0, 0, 0)), (56, (.getfield 22, 3, 5, 9, 2, 0)), (59, (.iconst 4, 1, 0, 0, 0, 0)), (60, (.dup2, 1, 0, 0, 0, 0)), (61, (.iaload, 1, 0, 0, 0, 0)), (62, (.iconst 1, 1, 0, 0, 0, 0)), (63, (.iadd, 1, 0, 0, 0, 0)), (64, (.iastore, 1, 0, 0, 0, 0)), (65, (.aload_n 0, 1, 0, 0, 0, 0)), (66, (.dup, 1, 0, 0, 0, 0)), (67, (.getfield 111, 3, 12, 9, 0, 0)), (70, (.iload_n 1, 1, 0, 0, 0, 0)), (71, (.iconst 4, 1, 0, 0, 0, 0)), (72, (.if_icmp .ne 7, 3, 79, 0, 0, 0)), (75, (.iconst 1, 1, 0, 0, 0, 0)), (76, (.goto 4, 3, 80, 0, 0, 0)), (79, (.iconst 0, 1, 0, 0, 0, 0)), (80, (.iadd, 1, 0, 0, 0, 0)), (81, (.putfield 111, 3, 12, 9, 0, 0)), (84, (.aload_n 0, 1, 0, 0, 0, 0)), (85, (.dup, 1, 0, 0, 0, 0)), (86, (.getfield 114, 3, 13, 9, 0, 0)), (89, (.iload_n 1, 1, 0, 0, 0, 0)), (90, (.bipush 6, 2, 0, 0, 0, 0)), (92, (.if_icmp .ne 7, 3, 99, 0, 0, 0)), (95, (.iconst 1, 1, 0, 0, 0, 0)), (96, (.goto 4, 3, 100, 0, 0, 0)), (99, (.iconst 0, 1, 0, 0, 0, 0)), (100, (.iadd, 1, 0, 0, 0, 0)), (101, (.putfield 114, 3, 13, 9, 0, 0)), (104, (.return_, 1, 0, 0, 0, 0))]
def kk_191 (q : Nat) : Option Ent := lkp k_191 q
def k_192 : List (Nat × Ent) := [(0, (.aload_n 0, 1, 0, 0, 0, 0)), (1, (.iload_n 1, 1, 0, 0, 0, 0)), (2, (.invokevirtual 117, 3, 189, 2, 9, 0)), (5, (.istore_n 2, 1, 0, 0, 0, 0)), (6, (.iload_n 2, 1, 0, 0, 0, 0)), (7, (.ifCond .lt 12, 3, 19, 0, 0, 0)), (10, (.aload_n 0, 1, 0, 0, 0, 0)), (11, (.bipush 61, 2, 0, 0, 0, 0)), (13, (.invokevirtual 120, 3, 188, 2, 9, 0)), (16, (.ifCond .ne 5, 3, 21, 0, 0, 0)), (19, (.iconst 0, 1, 0, 0, 0, 0)), (20, (.ireturn, 1, 1, 0, 0, 0)), (21, (.aload_n 0, 1, 0, 0, 0, 0)), (22, (.iload_n 1, 1, 0, 0, 0, 0)), (23, (.invokevirtual 117, 3, 189, 2, 9, 0)), (26, (.istore_n 3, 1, 0, 0, 0, 0)), (27, (.iload_n 3, 1, 0, 0, 0, 0)), (28, (.ifCond .ge 5, 3, 33, 0, 0, 0)), (31, (.iconst 0, 1, 0, 0, 0, 0)), (32, (.ireturn, 1, 1, 0, 0, 0)), (33, (.aload_n 0, 1, 0, 0, 0, 0)), (34, (.iconst 3, 1, 0, 0, 0, 0)), (35, (.iload_n 2, 1, 0, 0, 0, 0)), (36, (.iload_n 3, 1, 0, 0, 0, 0)), (37, (.iconst 0, 1, 0, 0, 0, 0)), (38, (.invokevirtual 124, 3, 191, 5, 9, 0)), (41, (.iconst 1, 1, 0, 0, 0, 0)), (42, (.ireturn, 1, 1, 0, 0, 0))]
def kk_192 (q : Nat) : Option Ent := lkp k_192 q
def k_193 : List (Nat × Ent) := [(0, (.aload_n 0, 1, 0, 0, 0, 0)), (1, (.iconst 3, 1, 0, 0, 0, 0)), (2, (.invokevirtual 128, 3, 190, 2, 9, 0)), (5, (.istore_n 3, 1, 0, 0, 0, 0)), (6, (.iload_n 3, 1, 0, 0, 0, 0)), (7, (.ifCond .lt 12, 3, 19, 0, 0, 0)), (10, (.aload_n 0, 1, 0, 0, 0, 0)), (11, (.bipush 40, 2, 0, 0, 0, 0)), (13, (.invokevirtual 120, 3, 188, 2, 9, 0)), (16, (.ifCond .ne 5, 3, 21, 0, 0, 0)), (19, (.iconst 0, 1, 0, 0, 0, 0)), (20, (.ireturn, 1, 1, 0, 0, 0)), (21, (.aload_n 0, 1, 0, 0, 0, 0)), (22, (.iload_n 1, 1, 0, 0, 0, 0)), (23, (.invokevirtual 117, 3, 189, 2, 9, 0)), (26, (.istore 4, 2, 0, 0, 0, 0)), (28, (.iload 4, 2, 0, 0, 0, 0)), (30, (.ifCond .lt 12, 3, 42, 0, 0, 0)), (33, (.aload_n 0, 1, 0, 0, 0, 0)), (34, (.bipush 41, 2, 0, 0, 0, 0)), (36, (.invokevirtual 120, 3, 188, 2, 9, 0)), (39, (.ifCond .ne 5, 3, 44, 0, 0, 0)), (42, (.iconst 0, 1, 0, 0, 0, 0)), (43, (.ireturn, 1, 1, 0, 0, 0)), (44, (.aload_n 0, 1, 0, 0, 0, 0)), (45, (.bipush 6, 2, 0, 0, 0, 0)), (47, (.iload_n 2, 1, 0, 0, 0, 0)), (48, (.iload 4, 2, 0, 0, 0, 0)), (50, (.iload_n 3, 1, 0, 0, 0, 0)), (51, (.invokevirtual 124, 3, 191, 5, 9, 0)), (54, (.iconst 1, 1, 0, 0, 0, 0)), (55, (.ireturn, 1, 1, 0, 0, 0))]
def kk_193 (q : Nat) : Option Ent := lkp k_193 q
def k_194 : List (Nat × Ent) := [(0, (.aload_n 0, 1, 0, 0, 0, 0)), (1, (.bipush 42, 2, 0, 0, 0, 0)), (3, (.invokevirtual 120, 3, 188, 2, 9, 0)), (6, (.ifCond .eq 9, 3, 15, 0, 0, 0)), (9, (.aload_n 0, 1, 0, 0, 0, 0)), (10, (.iload_n 1, 1, 0, 0, 0, 0)), (11, (.invokevirtual 131, 3, 192, 2, 9, 0)), (14, (.ireturn, 1, 1, 0, 0, 0)), (15, (.aload_n 0, 1, 0, 0, 0, 0)), (16, (.iload_n 1, 1, 0, 0, 0, 0)), (17, (.invokevirtual 117, 3, 189, 2, 9, 0)), (20, (.istore_n 2, 1, 0, 0, 0, 0)), (21, (.iload_n 2, 1, 0, 0, 0, 0)), (22, (.ifCond .lt 12, 3, 34, 0, 0, 0)), (25, (.aload_n 0, 1, 0, 0, 0, 0)), (26, (.bipush 61, 2, 0, 0, 0, 0)), (28, (.invokevirtual 120, 3, 188, 2, 9, 0)), (31, (.ifCond .ne 5, 3, 36, 0, 0, 0)), (34, (.iconst 0, 1, 0, 0, 0, 0)), (35, (.ireturn, 1, 1, 0, 0, 0)), (36, (.aload_n 0, 1, 0, 0, 0, 0)), (37, (.bipush 110, 2, 0, 0, 0, 0)), (39, (.invokevirtual 120, 3, 188, 2, 9, 0)), (42, (.ifCond .eq 33, 3, 75, 0, 0, 0)), (45, (.aload_n 0, 1, 0, 0, 0, 0)), (46, (.bipush 101, 2, 0, 0, 0, 0)), (48, (.invokevirtual 120, 3, 188, 2, 9, 0)), (51, (.ifCond .eq 12, 3, 63, 0, 0, 0)), (54, (.aload_n 0, 1, 0, 0, 0, 0)), (55, (.bipush 119, 2, 0, 0, 0, 0)), (57, (.invokevirtual 120, 3, 188, 2, 9, 0)), (60, (.ifCond .ne 5, 3, 65, 0, 0, 0)), (63, (.iconst 0, 1, 0, 0, 0, 0)), (64, (.ireturn, 1, 1, 0, 0, 0)), (65, (.aload_n 0, 1, 0, 0, 0, 0)), (66, (.iconst 4, 1, 0, 0, 0, 0)), (67, (.iload_n 2, 1, 0, 0, 0, 0)), (68, (.iconst 0, 1, 0, 0, 0, 0)), (69, (.iconst 0, 1, 0, 0, 0, 0)), (70, (.invokevirtual 124, 3, 191, 5, 9, 0)), (73, (.iconst 1, 1, 0, 0, 0, 0)), (74, (.ireturn, 1, 1, 0, 0, 0)), (75, (.aload_n 0, 1, 0, 0, 0, 0)), (76, (.bipush 102, 2, 0, 0, 0, 0)), (78, (.invokevirtual 120, 3, 188, 2, 9, 0)), (81, (.ifCond .eq 10, 3, 91, 0, 0, 0)), (84, (.aload_n 0, 1, 0, 0, 0, 0)), (85, (.iload_n 1, 1, 0, 0, 0, 0)), (86, (.iload_n 2, 1, 0, 0, 0, 0)), (87, (.invokevirtual 134, 3, 193, 3, 9, 0)), (90, (.ireturn, 1, 1, 0, 0, 0)), (91, (.aload_n 0, 1, 0, 0, 0, 0)), (92, (.bipush 38, 2, 0, 0, 0, 0)), (94, (.invokevirtual 120, 3, 188, 2, 9, 0)), (97, (.ifCond .eq 7, 3, 104, 0, 0, 0)), (100, (.iconst 0, 1, 0, 0, 0, 0)), (101, (.goto 17, 3, 118, 0, 0, 0)), (104, (.aload_n 0, 1, 0, 0, 0, 0)), (105, (.bipush 42, 2, 0, 0, 0, 0)), (107, (.invokevirtual 120, 3, 188, 2, 9, 0)), (110, (.ifCond .eq 7, 3, 117, 0, 0, 0)), (113, (.iconst 2, 1, 0, 0, 0, 0)), (114, (.goto 4, 3, 118, 0, 0, 0)), (117, (.iconst 1, 1, 0, 0, 0, 0)), (118, (.istore_n 3, 1, 0, 0, 0, 0)), (119, (.aload_n 0, 1, 0, 0, 0, 0)), (120, (.iload_n 1, 1, 0, 0, 0, 0)), (121, (.invokevirtual 117, 3, 189, 2, 9, 0)), (124, (.istore 4, 2, 0, 0, 0, 0)), (126, (.iload 4, 2, 0, 0, 0, 0)), (128, (.ifCond .ge 5, 3, 133, 0, 0, 0)), (131, (.iconst 0, 1, 0, 0, 0, 0)), (132, (.ireturn, 1, 1, 0, 0, 0)), (133, (.iconst 0, 1, 0, 0, 0, 0)), (134, (.istore 5, 2, 0, 0, 0, 0)), (136, (.iload_n 3, 1, 0, 0, 0, 0)), (137, (.iconst 1, 1, 0, 0, 0, 0)), (138, (.if_icmp .ne 28, 3, 166, 0, 0, 0)), (141, (.aload_n 0, 1, 0, 0, 0, 0)), (142, (.bipush 43, 2, 0, 0, 0, 0)), (144, (.invokevirtual 120, 3, 188, 2, 9, 0)), (147, (.ifCond .eq 19, 3, 166, 0, 0, 0)), (150, (.iconst 5, 1, 0, 0, 0, 0)), (151, (.istore_n 3, 1, 0, 0, 0, 0)), (152, (.aload_n 0, 1, 0, 0, 0, 0)), (153, (.iconst 2, 1, 0, 0, 0, 0)), (154, (.invokevirtual 128, 3, 190, 2, 9, 0)), (157, (.istore 5, 2, 0, 0, 0, 0)), (159, (.iload 5, 2, 0, 0, 0, 0)), (161, (.ifCond .ge 5, 3, 166, 0, 0, 0)), (164, (.iconst 0, 1, 0, 0, 0, 0)), (165, (.ireturn, 1, 1, 0, 0, 0)), (166, (.aload_n 0, 1, 0, 0, 0, 0)), (167, (.iload_n 3, 1, 0, 0, 0, 0)), (168, (.iload_n 2, 1, 0, 0, 0, 0)), (169, (.iload 4, 2, 0, 0, 0, 0)), (171, (.iload 5, 2, 0, 0, 0, 0)), (173, (.invokevirtual 124, 3, 191, 5, 9, 0)), (176, (.iconst 1, 1, 0, 0, 0, 0)), (177, (.ireturn, 1, 1, 0, 0, 0))]
def kk_194 (q : Nat) : Option Ent := lkp k_194 q
def k_195 : List (Nat × Ent) := [(0, (.aload_n 0, 1, 0, 0, 0, 0)), (1, (.iconst 0, 1, 0, 0, 0, 0)), (2, (.putfield 104, 3, 9, 9, 0, 0)), (5, (.aload_n 0, 1, 0, 0, 0, 0)), (6, (.getfield 22, 3, 5, 9, 2, 0)), (9, (.iconst 4, 1, 0, 0, 0, 0)), (10, (.iconst 0, 1, 0, 0, 0, 0)), (11, (.iastore, 1, 0, 0, 0, 0)), (12, (.aload_n 0, 1, 0, 0, 0, 0)), (13, (.iconst 0, 1, 0, 0, 0, 0)), (14, (.putfield 111, 3, 12, 9, 0, 0)), (17, (.aload_n 0, 1, 0, 0, 0, 0)), (18, (.iconst 0, 1, 0, 0, 0, 0)), (19, (.putfield 114, 3, 13, 9, 0, 0)), (22, (.aload_n 0, 1, 0, 0, 0, 0)), (23, (.getfield 101, 3, 8, 9, 0, 0)), (26, (.ifCond .ne 5, 3, 31, 0, 0, 0)), (29, (.iconst 1, 1, 0, 0, 0, 0)), (30, (.ireturn, 1, 1, 0, 0, 0)), (31, (.iconst 1, 1, 0, 0, 0, 0)), (32, (.istore_n 2, 1, 0, 0, 0, 0)), (33, (.iload_n 2, 1, 0, 0, 0, 0)), (34, (.ifCond .eq 23, 3, 57, 0, 0, 0)), (37, (.aload_n 0, 1, 0, 0, 0, 0)), (38, (.iload_n 1, 1, 0, 0, 0, 0)), (39, (.invokevirtual 138, 3, 194, 2, 9, 0)), (42, (.ifCond .ne 5, 3, 47, 0, 0, 0)), (45, (.iconst 0, 1, 0, 0, 0, 0)), (46, (.ireturn, 1, 1, 0, 0, 0)), (47, (.aload_n 0, 1, 0, 0, 0, 0)), (48, (.bipush 59, 2, 0, 0, 0, 0)), (50, (.invokevirtual 120, 3, 188, 2, 9, 0)), (53, (.istore_n 2, 1, 0, 0, 0, 0)), (54, (.goto (-21), 3, 33, 0, 0, 0)), (57, (.aload_n 0, 1, 0, 0, 0, 0)), (58, (.getfield 104, 3, 9, 9, 0, 0)), (61, (.aload_n 0, 1, 0, 0, 0, 0)), (62, (.getfield 101, 3, 8, 9, 0, 0)), (65, (.if_icmp .ne 7, 3, 72, 0, 0, 0)), (68, (.iconst 1, 1, 0, 0, 0, 0)), (69, (.goto 4, 3, 73, 0, 0, 0)), (72, (.iconst 0, 1, 0, 0, 0, 0)), (73, (.ireturn, 1, 1, 0, 0, 0))]
def kk_195 (q : Nat) : Option Ent := lkp k_195 q
def k_196 : List (Nat × Ent) := [(0, (.aload_n 0, 1, 0, 0, 0, 0)), (1, (.getfield 22, 3, 5, 9, 2, 0)), (4, (.iload_n 2, 1, 0, 0, 0, 0)), (5, (.aload_n 0, 1, 0, 0, 0, 0)), (6, (.getfield 22, 3, 5, 9, 2, 0)), (9, (.iload_n 1, 1, 0, 0, 0, 0)), (10, (.iaload, 1, 0, 0, 0, 0)), (11, (.iastore, 1, 0, 0, 0, 0)), (12, (.iconst 0, 1, 0, 0, 0, 0)), (13, (.istore_n 3, 1, 0, 0, 0, 0)), (14, (.iload_n 3, 1, 0, 0, 0, 0)), (15, (.bipush 12, 2, 0, 0, 0, 0)), (17, (.if_icmp .ge 97, 3, 114, 0, 0, 0)), (20, (.aload_n 0, 1, 0, 0, 0, 0)), (21, (.getfield 7, 3, 1, 9, 2, 0)), (24, (.bipush 12, 2, 0, 0, 0, 0)), (26, (.iload_n 2, 1, 0, 0, 0, 0)), (27, (.imul, 1, 0, 0, 0, 0)), (28, (.iload_n 3, 1, 0, 0, 0, 0)), (29, (.iadd, 1, 0, 0, 0, 0)), (30, (.aload_n 0, 1, 0, 0, 0, 0)), (31, (.getfield 7, 3, 1, 9, 2, 0)), (34, (.bipush 12, 2, 0, 0, 0, 0)), (36, (.iload_n 1, 1, 0, 0, 0, 0)), (37, (.imul, 1, 0, 0, 0, 0)), (38, (.iload_n 3, 1, 0, 0, 0, 0)), (39, (.iadd, 1, 0, 0, 0, 0)), (40, (.iaload, 1, 0, 0, 0, 0)), (41, (.iastore, 1, 0, 0, 0, 0)), (42, (.aload_n 0, 1, 0, 0, 0, 0)), (43, (.getfield 13, 3, 2, 9, 2, 0)), (46, (.bipush 12, 2, 0, 0, 0, 0)), (48, (.iload_n 2, 1, 0, 0, 0, 0)), (49, (.imul, 1, 0, 0, 0, 0)), (50, (.iload_n 3, 1, 0, 0, 0, 0)), (51, (.iadd, 1, 0, 0, 0, 0)), (52, (.aload_n 0, 1, 0, 0, 0, 0)), (53, (.getfield 13, 3, 2, 9, 2, 0)), (56, (.bipush 12, 2, 0, 0, 0, 0)), (58, (.iload_n 1, 1, 0, 0, 0, 0)), (59, (.imul, 1, 0, 0, 0, 0)), (60, (.iload_n 3, 1, 0, 0, 0, 0)), (61, (.iadd, 1, 0, 0, 0, 0)), (62, (.iaload, 1, 0, 0, 0, 0)), (63, (.iastore, 1, 0, 0, 0, 0)), (64, (.aload_n 0, 1, 0, 0, 0, 0)), (65, (.getfield 16, 3, 3, 9, 2, 0)), (68, (.bipush 12, 2, 0, 0, 0, 0)), (70, (.iload_n 2, 1, 0, 0, 0, 0)), (71, (.imul, 1, 0, 0, 0, 0)), (72, (.iload_n 3, 1, 0, 0, 0, 0)), (73, (.iadd, 1, 0, 0, 0, 0)), (74, (.aload_n 0, 1, 0, 0, 0, 0)), (75, (.getfield 16, 3, 3, 9, 2, 0)), (78, (.bipush 12, 2, 0, 0, 0, 0)), (80, (.iload_n 1, 1, 0, 0, 0, 0)), (81, (.imul, 1, 0, 0, 0, 0)), (82, (.iload_n 3, 1, 0, 0, 0, 0)), (83, (.iadd, 1, 0, 0, 0, 0)), (84, (.iaload, 1, 0, 0, 0, 0)), (85, (.iastore, 1, 0, 0, 0, 0)), (86, (.aload_n 0, 1, 0, 0, 0, 0)), (87, (.getfield 19, 3, 4, 9, 2, 0)), (90, (.bipush 12, 2, 0, 0, 0, 0)), (92, (.iload_n 2, 1, 0, 0, 0, 0)), (93, (.imul, 1, 0, 0, 0, 0)), (94, (.iload_n 3, 1, 0, 0, 0, 0)), (95, (.iadd, 1, 0, 0, 0, 0)), (96, (.aload_n 0, 1, 0, 0, 0, 0)), (97, (.getfield 19, 3, 4, 9, 2, 0)), (100, (.bipush 12, 2, 0, 0, 0, 0)), (102, (.iload_n 1, 1, 0, 0, 0, 0)), (103, (.imul, 1, 0, 0, 0, 0)), (104, (.iload_n 3, 1, 0, 0, 0, 0)), (105, (.iadd, 1, 0, 0, 0, 0)), (106, (.iaload, 1, 0, 0, 0, 0)), (107, (.iastore, 1, 0, 0, 0, 0)), (108, (.iinc 3 1, 3, 0, 0, 0, 0)), (111, (.goto (-97), 3, 14, 0, 0, 0)), (114, (.return_, 1, 0, 0, 0, 0))]
def kk_196 (q : Nat) : Option Ent := lkp k_196 q
def k_197 : List (Nat × Ent) := [(0, (.iload_n 1, 1, 0, 0, 0, 0)), (1, (.invokestatic 141, 3, 179, 1, 9, 0)), (4, (.ifCond .ne 9, 3, 13, 0, 0, 0)), (7, (.aload_n 0, 1, 0, 0, 0, 0)), (8, (.iconst 1, 1, 0, 0, 0, 0)), (9, (.invokevirtual 98, 3, 175, 2, 9, 0)), (12, (.ireturn, 1, 0, 0, 0, 0)), (13, (.aload_n 0, 1, 0, 0, 0, 0)), (14, (.iload_n 1, 1, 0, 0, 0, 0)), (15, (.invokevirtual 144, 3, 195, 2, 9, 0)), (18, (.istore_n 2, 1, 0, 0, 0, 0)), (19, (.aload_n 0, 1, 0, 0, 0, 0)), (20, (.iconst 0, 1, 0, 0, 0, 0)), (21, (.putfield 101, 3, 8, 9, 0, 0)), (24, (.aload_n 0, 1, 0, 0, 0, 0)), (25, (.iload_n 2, 1, 0, 0, 0, 0)), (26, (.ifCond .eq 7, 3, 33, 0, 0, 0)), (29, (.iconst (-1), 1, 0, 0, 0, 0)), (30, (.goto 7, 3, 37, 0, 0, 0)), (33, (.aload_n 0, 1, 0, 0, 0, 0)), (34, (.getfield 104, 3, 9, 9, 0, 0)), (37, (.putfield 28, 3, 10, 9, 0, 0)), (40, (.iload_n 2, 1, 0, 0, 0, 0)), (41, (.ifCond .ne 9, 3, 50, 0, 0, 0)), (44, (.aload_n 0, 1, 0, 0, 0, 0)), (45, (.iconst 2, 1, 0, 0, 0, 0)), (46, (.invokevirtual 98, 3, 175, 2, 9, 0)), (49, (.ireturn, 1, 0, 0, 0, 0)), (50, (.aload_n 0, 1, 0, 0, 0, 0)), (51, (.getfield 22, 3, 5, 9, 2, 0)), (54, (.iconst 4, 1, 0, 0, 0, 0)), (55, (.iaload, 1, 0, 0, 0, 0)), (56, (.bipush 12, 2, 0, 0, 0, 0)), (58, (.if_icmp .gt 35, 3, 93, 0, 0, 0)), (61, (.aload_n 0, 1, 0, 0, 0, 0)), (62, (.getfield 111, 3, 12, 9, 0, 0)), (65, (.aload_n 0, 1, 0, 0, 0, 0)), (66, (.iconst 4, 1, 0, 0, 0, 0)), (67, (.iload_n 1, 1, 0, 0, 0, 0)), (68, (.invokevirtual 147, 3, 184, 3, 9, 0)), (71, (.iadd, 1, 0, 0, 0, 0)), (72, (.bipush 8, 2, 0, 0, 0, 0)), (74, (.if_icmp .gt 19, 3, 93, 0, 0, 0)), (77, (.aload_n 0, 1, 0, 0, 0, 0)), (78, (.getfield 114, 3, 13, 9, 0, 0)), (81, (.aload_n 0, 1, 0, 0, 0, 0)), (82, (.bipush 6, 2, 0, 0, 0, 0)), (84, (.iload_n 1, 1, 0, 0, 0, 0)), (85, (.invokevirtual 147, 3, 184, 3, 9, 0)), (88, (.iadd, 1, 0, 0, 0, 0)), (89, (.iconst 5, 1, 0, 0, 0, 0)), (90, (.if_icmp .le 9, 3, 99, 0, 0, 0)), (93, (.aload_n 0, 1, 0, 0, 0, 0)), (94, (.iconst 3, 1, 0, 0, 0, 0)), (95, (.invokevirtual 98, 3, 175, 2, 9, 0)), (98, (.ireturn, 1, 0, 0, 0, 0)), (99, (.aload_n 0, 1, 0, 0, 0, 0)), (100, (.iconst 0, 1, 0, 0, 0, 0)), (101, (.putfield 84, 3, 0, 9, 0, 0)), (104, (.aload_n 0, 1, 0, 0, 0, 0)), (105, (.iconst 4, 1, 0, 0, 0, 0)), (106, (.iload_n 1, 1, 0, 0, 0, 0)), (107, (.invokevirtual 151, 3, 196, 3, 9, 0)), (110, (.aload_n 0, 1, 0, 0, 0, 0)), (111, (.iconst 0, 1, 0, 0, 0, 0)), (112, (.putfield 155, 3, 19, 9, 1, 0)), (115, (.aload_n 0, 1, 0, 0, 0, 0)), (116, (.invokevirtual 159, 3, 259, 1, 9, 0)), (119, (.aload_n 0, 1, 0, 0, 0, 0)), (120, (.getfield 22, 3, 5, 9, 2, 0)), (123, (.iload_n 1, 1, 0, 0, 0, 0)), (124, (.iaload, 1, 0, 0, 0, 0)), (125, (.ireturn, 1, 0, 0, 0, 0))]
def kk_197 (q : Nat) : Option Ent := lkp k_197 q
def k_198 : List (Nat × Ent) := [(0, (.aload_n 0, 1, 0, 0, 0, 0)), (1, (.iconst 0, 1, 0, 0, 0, 0)), (2, (.putfield 84, 3, 0, 9, 0, 0)), (5, (.aload_n 0, 1, 0, 0, 0, 0)), (6, (.getfield 28, 3, 10, 9, 0, 0)), (9, (.ireturn, 1, 0, 0, 0, 0))]
def kk_198 (q : Nat) : Option Ent := lkp k_198 q
def k_199 : List (Nat × Ent) := [(0, (.aload_n 0, 1, 0, 0, 0, 0)), (1, (.iconst 0, 1, 0, 0, 0, 0)), (2, (.putfield 84, 3, 0, 9, 0, 0)), (5, (.aload_n 0, 1, 0, 0, 0, 0)), (6, (.invokevirtual 162, 3, 181, 1, 9, 0)), (9, (.ireturn, 1, 0, 0, 0, 0))]
def kk_199 (q : Nat) : Option Ent := lkp k_199 q
def k_200 : List (Nat × Ent) := [(0, (.iload_n 1, 1, 0, 0, 0, 0)), (1, (.ifCond .lt 15, 3, 16, 0, 0, 0)), (4, (.iload_n 1, 1, 0, 0, 0, 0)), (5, (.aload_n 0, 1, 0, 0, 0, 0)), (6, (.invokevirtual 162, 3, 181, 1, 9, 0)), (9, (.if_icmp .ge 7, 3, 16, 0, 0, 0)), (12, (.iconst 1, 1, 0, 0, 0, 0)), (13, (.goto 4, 3, 17, 0, 0, 0)), (16, (.iconst 0, 1, 0, 0, 0, 0)), (17, (.ireturn, 1, 1, 0, 0, 0))]
def kk_200 (q : Nat) : Option Ent := lkp k_200 q
def k_201 : List (Nat × Ent) := [(0, (.aload_n 0, 1, 0, 0, 0, 0)), (1, (.iload_n 1, 1, 0, 0, 0, 0)), (2, (.invokevirtual 165, 3, 200, 2, 9, 0)), (5, (.ifCond .ne 9, 3, 14, 0, 0, 0)), (8, (.aload_n 0, 1, 0, 0, 0, 0)), (9, (.iconst 1, 1, 0, 0, 0, 0)), (10, (.invokevirtual 98, 3, 175, 2, 9, 0)), (13, (.ireturn, 1, 0, 0, 0, 0)), (14, (.aload_n 0, 1, 0, 0, 0, 0)), (15, (.iconst 0, 1, 0, 0, 0, 0)), (16, (.putfield 84, 3, 0, 9, 0, 0)), (19, (.aload_n 0, 1, 0, 0, 0, 0)), (20, (.getfield 7, 3, 1, 9, 2, 0)), (23, (.aload_n 0, 1, 0, 0, 0, 0)), (24, (.iload_n 1, 1, 0, 0, 0, 0)), (25, (.invokevirtual 91, 3, 182, 2, 9, 0)), (28, (.iaload, 1, 0, 0, 0, 0)), (29, (.ireturn, 1, 0, 0, 0, 0))]
def kk_201 (q : Nat) : Option Ent := lkp k_201 q
def k_202 : List (Nat × Ent) := [(0, (.aload_n 0, 1, 0, 0, 0, 0)), (1, (.iload_n 1, 1, 0, 0, 0, 0)), (2, (.invokevirtual 165, 3, 200, 2, 9, 0)), (5, (.ifCond .ne 9, 3, 14, 0, 0, 0)), (8, (.aload_n 0, 1, 0, 0, 0, 0)), (9, (.iconst 1, 1, 0, 0, 0, 0)), (10, (.invokevirtual 98, 3, 175, 2, 9, 0)), (13, (.ireturn, 1, 0, 0, 0, 0)), (14, (.aload_n 0, 1, 0, 0, 0, 0)), (15, (.iconst 0, 1, 0, 0, 0, 0)), (16, (.putfield 84, 3, 0, 9, 0, 0)), (19, (.aload_n 0, 1, 0, 0, 0, 0)), (20, (.iload_n 1, 1, 0, 0, 0, 0)), (21, (.invokevirtual 91, 3, 182, 2, 9, 0)), (24, (.bipush 12, 2, 0, 0, 0, 0)), (26, (.idiv, 1, 0, 0, 0, 0)), (27, (.ireturn, 1, 0, 0, 0, 0))]
def kk_202 (q : Nat) : Option Ent := lkp k_202 q
def k_203 : List (Nat × Ent) := [(0, (.aload_n 0, 1, 0, 0, 0, 0)), (1, (.iconst 4, 1, 0, 0, 0, 0)), (2, (.iconst (-1), 1, 0, 0, 0, 0)), (3, (.invokevirtual 147, 3, 184, 3, 9, 0)), (6, (.ireturn, 1, 0, 0, 0, 0))]
def kk_203 (q : Nat) : Option Ent := lkp k_203 q
def k_204 : List (Nat × Ent) := [(0, (.aload_n 0, 1, 0, 0, 0, 0)), (1, (.iconst 0, 1, 0, 0, 0, 0)), (2, (.putfield 84, 3, 0, 9, 0, 0)), (5, (.aload_n 0, 1, 0, 0, 0, 0)), (6, (.invokevirtual 168, 3, 203, 1, 9, 0)), (9, (.ireturn, 1, 0, 0, 0, 0))]
def kk_204 (q : Nat) : Option Ent := lkp k_204 q
def k_205 : List (Nat × Ent) := [(0, (.iload_n 1, 1, 0, 0, 0, 0)), (1, (.iconst 0, 1, 0, 0, 0, 0)), (2, (.iconst 2, 1, 0, 0, 0, 0)), (3, (.invokestatic 94, 3, 177, 3, 9, 0)), (6, (.ifCond .ne 9, 3, 15, 0, 0, 0)), (9, (.aload_n 0, 1, 0, 0, 0, 0)), (10, (.iconst 1, 1, 0, 0, 0, 0)), (11, (.invokevirtual 98, 3, 175, 2, 9, 0)), (14, (.ireturn, 1, 0, 0, 0, 0)), (15, (.aload_n 0, 1, 0, 0, 0, 0)), (16, (.iconst 0, 1, 0, 0, 0, 0)), (17, (.putfield 84, 3, 0, 9, 0, 0)), (20, (.aload_n 0, 1, 0, 0, 0, 0)), (21, (.getfield 171, 3, 6, 9, 0, 0)), (24, (.istore_n 2, 1, 0, 0, 0, 0)), (25, (.aload_n 0, 1, 0, 0, 0, 0)), (26, (.iload_n 1, 1, 0, 0, 0, 0)), (27, (.putfield 171, 3, 6, 9, 0, 0)), (30, (.aload_n 0, 1, 0, 0, 0, 0)), (31, (.iconst 0, 1, 0, 0, 0, 0)), (32, (.putfield 155, 3, 19, 9, 1, 0)), (35, (.iload_n 2, 1, 0, 0, 0, 0)), (36, (.ireturn, 1, 0, 0, 0, 0))]
def kk_205 (q : Nat) : Option Ent := lkp k_205 q
def k_206 : List (Nat × Ent) := [(0, (.iconst 0, 1, 0, 0, 0, 0)), (1, (.istore_n 3, 1, 0, 0, 0, 0)), (2, (.iload_n 3, 1, 0, 0, 0, 0)), (3, (.aload_n 0, 1, 0, 0, 0, 0)), (4, (.getfield 174, 3, 16, 9, 0, 0)), (7, (.if_icmp .ge 31, 3, 38, 0, 0, 0)), (10, (.aload_n 0, 1, 0, 0, 0, 0)), (11, (.getfield 32, 3, 14, 9, 2, 0)), (14, (.iload_n 3, 1, 0, 0, 0, 0)), (15, (.iaload, 1, 0, 0, 0, 0)), (16, (.iload_n 1, 1, 0, 0, 0, 0)), (17, (.if_icmp .ne 15, 3, 32, 0, 0, 0)), (20, (.aload_n 0, 1, 0, 0, 0, 0)), (21, (.getfield 35, 3, 15, 9, 2, 0)), (24, (.iload_n 3, 1, 0, 0, 0, 0)), (25, (.iaload, 1, 0, 0, 0, 0)), (26, (.iload_n 2, 1, 0, 0, 0, 0)), (27, (.if_icmp .ne 5, 3, 32, 0, 0, 0)), (30, (.iload_n 3, 1, 0, 0, 0, 0)), (31, (.ireturn, 1, 0, 0, 0, 0)), (32, (.iinc 3 1, 3, 0, 0, 0, 0)), (35, (.goto (-33), 3, 2, 0, 0, 0)), (38, (.iconst (-1), 1, 0, 0, 0, 0)), (39, (.ireturn, 1, 0, 0, 0, 0))]
def kk_206 (q : Nat) : Option Ent := lkp k_206 q
def k_207 : List (Nat × Ent) := [(0, (.iload_n 2, 1, 0, 0, 0, 0)), (1, (.ifCond .ne 5, 3, 6, 0, 0, 0)), (4, (.iconst 0, 1, 0, 0, 0, 0)), (5, (.ireturn, 1, 0, 0, 0, 0)), (6, (.iload_n 2, 1, 0, 0, 0, 0)), (7, (.iconst 1, 1, 0, 0, 0, 0)), (8, (.if_icmp .eq 7, 3, 15, 0, 0, 0)), (11, (.iload_n 0, 1, 0, 0, 0, 0)), (12, (.ifCond .ne 9, 3, 21, 0, 0, 0)), (15, (.sipush 10000, 3, 0, 0, 0, 0)), (18, (.iload_n 1, 1, 0, 0, 0, 0)), (19, (.iadd, 1, 0, 0, 0, 0)), (20, (.ireturn, 1, 0, 0, 0, 0)), (21, (.sipush 20000, 3, 0, 0, 0, 0)), (24, (.iload_n 0, 1, 0, 0, 0, 0)), (25, (.bipush 100, 2, 0, 0, 0, 0)), (27, (.irem, 1, 0, 0, 0, 0)), (28, (.bipush 100, 2, 0, 0, 0, 0)), (30, (.imul, 1, 0, 0, 0, 0)), (31, (.iadd, 1, 0, 0, 0, 0)), (32, (.iload_n 1, 1, 0, 0, 0, 0)), (33, (.iadd, 1, 0, 0, 0, 0)), (34, (.ireturn, 1, 0, 0, 0, 0))]
def kk_207 (q : Nat) : Option Ent := lkp k_207 q
def k_208 : List (Nat × Ent) := [(0, (.aload_n 0, 1, 0, 0, 0, 0)), (1, (.getfield 174, 3, 16, 9, 0, 0)), (4, (.istore_n 3, 1, 0, 0, 0, 0)), (5, (.iload_n 3, 1, 0, 0, 0, 0)), (6, (.ifCond .le 73, 3, 79, 0, 0, 0)), (9, (.aload_n 0, 1, 0, 0, 0, 0)), (10, (.getfield 32, 3, 14, 9, 2, 0)), (13, (.iload_n 3, 1, 0, 0, 0, 0)), (14, (.iconst 1, 1, 0, 0, 0, 0)), (15, (.isub, 1, 0, 0, 0, 0)), (16, (.iaload, 1, 0, 0, 0, 0)), (17, (.iload_n 1, 1, 0, 0, 0, 0)), (18, (.if_icmp .gt 27, 3, 45, 0, 0, 0)), (21, (.aload_n 0, 1, 0, 0, 0, 0)), (22, (.getfield 32, 3, 14, 9, 2, 0)), (25, (.iload_n 3, 1, 0, 0, 0, 0)), (26, (.iconst 1, 1, 0, 0, 0, 0)), (27, (.isub, 1, 0, 0, 0, 0)), (28, (.iaload, 1, 0, 0, 0, 0)), (29, (.iload_n 1, 1, 0, 0, 0, 0)), (30, (.if_icmp .ne 49, 3, 79, 0, 0, 0)), (33, (.aload_n 0, 1, 0, 0, 0, 0)), (34, (.getfield 35, 3, 15, 9, 2, 0)), (37, (.iload_n 3, 1, 0, 0, 0, 0)), (38, (.iconst 1, 1, 0, 0, 0, 0)), (39, (.isub, 1, 0, 0, 0, 0)), (40, (.iaload, 1, 0, 0, 0, 0)), (41, (.iload_n 2, 1, 0, 0, 0, 0)), (42, (.if_icmp .le 37, 3, 79, 0, 0, 0)), (45, (.aload_n 0, 1, 0, 0, 0, 0)), (46, (.getfield 32, 3, 14, 9, 2, 0)), (49, (.iload_n 3, 1, 0, 0, 0, 0)), (50, (.aload_n 0, 1, 0, 0, 0, 0)), (51, (.getfield 32, 3, 14, 9, 2, 0)), (54, (.iload_n 3, 1, 0, 0, 0, 0)), (55, (.iconst 1, 1, 0, 0, 0, 0)), (56, (.isub, 1, 0, 0, 0, 0)), (57, (.iaload, 1, 0, 0, 0, 0)), (58, (.iastore, 1, 0, 0, 0, 0)), (59, (.aload_n 0, 1, 0, 0, 0, 0)), (60, (.getfield 35, 3, 15, 9, 2, 0)), (63, (.iload_n 3, 1, 0, 0, 0, 0)), (64, (.aload_n 0, 1, 0, 0, 0, 0)), (65, (.getfield 35, 3, 15, 9, 2, 0)), (68, (.iload_n 3, 1, 0, 0, 0, 0)), (69, (.iconst 1, 1, 0, 0, 0, 0)), (70, (.isub, 1, 0, 0, 0, 0)), (71, (.iaload, 1, 0, 0, 0, 0)), (72, (.iastore, 1, 0, 0, 0, 0)), (73, (.iinc 3 (-1), 3, 0, 0, 0, 0)), (76, (.goto (-71), 3, 5, 0, 0, 0)), (79, (.aload_n 0, 1, 0, 0, 0, 0)), (80, (.getfield 32, 3, 14, 9, 2, 0)), (83, (.iload_n 3, 1, 0, 0, 0, 0)), (84, (.iload_n 1, 1, 0, 0, 0, 0)), (85, (.iastore, 1, 0, 0, 0, 0)), (86, (.aload_n 0, 1, 0, 0, 0, 0)), (87, (.getfield 35, 3, 15, 9, 2, 0)), (90, (.iload_n 3, 1, 0, 0, 0, 0)), (91, (.iload_n 2, 1, 0, 0, 0, 0)), (92, (.iastore, 1, 0, 0, 0, 0)), (93, (.aload_n 0, 1, 0, 0, 0, 0)), (94, (.dup, 1, 0, 0, 0, 0)), (95, (.getfield 174, 3, 16, 9, 0, 0)), (98, (.iconst 1, 1, 0, 0, 0, 0)), (99, (.iadd, 1, 0, 0, 0, 0)), (100, (.putfield 174, 3, 16, 9, 0, 0)), (103, (.return_, 1, 0, 0, 0, 0))]
def kk_208 (q : Nat) : Option Ent := lkp k_208 q
def k_209 : List (Nat × Ent) := [(0, (.aload_n 0, 1, 0, 0, 0, 0)), (1, (.iconst 0, 1, 0, 0, 0, 0)), (2, (.putfield 174, 3, 16, 9, 0, 0)), (5, (.aload_n 0, 1, 0, 0, 0, 0)), (6, (.iconst 0, 1, 0, 0, 0, 0)), (7, (.iconst 0, 1, 0, 0, 0, 0)), (8, (.invokevirtual 177, 3, 208, 3, 9, 0)), (11, (.iconst 0, 1, 0, 0, 0, 0)), (12, (.istore_n 2, 1, 0, 0, 0, 0)), (13, (.iload_n 2, 1, 0, 0, 0, 0)), (14, (.aload_n 0, 1, 0, 0, 0, 0)), (15, (.getfield 174, 3, 16, 9, 0, 0)), (18, (.if_icmp .ge 134, 3, 152, 0, 0, 0)), (21, (.iconst 0, 1, 0, 0, 0, 0)), (22, (.istore_n 3, 1, 0, 0, 0, 0)), (23, (.aload_n 0, 1, 0, 0, 0, 0)), (24, (.getfield 32, 3, 14, 9, 2, 0)), (27, (.iload_n 2, 1, 0, 0, 0, 0)), (28, (.iaload, 1, 0, 0, 0, 0)), (29, (.istore 4, 2, 0, 0, 0, 0)), (31, (.aload_n 0, 1, 0, 0, 0, 0)), (32, (.getfield 35, 3, 15, 9, 2, 0)), (35, (.iload_n 2, 1, 0, 0, 0, 0)), (36, (.iaload, 1, 0, 0, 0, 0)), (37, (.istore 5, 2, 0, 0, 0, 0)), (39, (.iconst 0, 1, 0, 0, 0, 0)), (40, (.istore 6, 2, 0, 0, 0, 0)), (42, (.iload 6, 2, 0, 0, 0, 0)), (44, (.aload_n 0, 1, 0, 0, 0, 0)), (45, (.getfield 22, 3, 5, 9, 2, 0)), (48, (.iload 4, 2, 0, 0, 0, 0)), (50, (.iaload, 1, 0, 0, 0, 0)), (51, (.if_icmp .ge 86, 3, 137, 0, 0, 0)), (54, (.iload_n 3, 1, 0, 0, 0, 0)), (55, (.ifCond .ne 82, 3, 137, 0, 0, 0)), (58, (.bipush 12, 2, 0, 0, 0, 0)), (60, (.iload 4, 2, 0, 0, 0, 0)), (62, (.imul, 1, 0, 0, 0, 0)), (63, (.iload 6, 2, 0, 0, 0, 0)), (65, (.iadd, 1, 0, 0, 0, 0)), (66, (.istore 7, 2, 0, 0, 0, 0)), (68, (.aload_n 0, 1, 0, 0, 0, 0)), (69, (.getfield 7, 3, 1, 9, 2, 0)), (72, (.iload 7, 2, 0, 0, 0, 0)), (74, (.iaload, 1, 0, 0, 0, 0)), (75, (.bipush 6, 2, 0, 0, 0, 0)), (77, (.if_icmp .eq 6, 3, 83, 0, 0, 0)), (80, (.goto 51, 3, 131, 0, 0, 0)), (83, (.iload 5, 2, 0, 0, 0, 0)), (85, (.aload_n 0, 1, 0, 0, 0, 0)), (86, (.iload 7, 2, 0, 0, 0, 0)), (88, (.invokevirtual 87, 3, 183, 2, 9, 0)), (91, (.iload_n 1, 1, 0, 0, 0, 0)), (92, (.invokestatic 180, 3, 207, 3, 9, 0)), (95, (.istore 8, 2, 0, 0, 0, 0)), (97, (.aload_n 0, 1, 0, 0, 0, 0)), (98, (.aload_n 0, 1, 0, 0, 0, 0)), (99, (.getfield 19, 3, 4, 9, 2, 0)), (102, (.iload 7, 2, 0, 0, 0, 0)), (104, (.iaload, 1, 0, 0, 0, 0)), (105, (.iload 8, 2, 0, 0, 0, 0)), (107, (.invokevirtual 184, 3, 206, 3, 9, 0)), (110, (.ifCond .lt 6, 3, 116, 0, 0, 0)), (113, (.goto 18, 3, 131, 0, 0, 0)), (116, (.aload_n 0, 1, 0, 0, 0, 0)), (117, (.aload_n 0, 1, 0, 0, 0, 0)), (118, (.getfield 19, 3, 4, 9, 2, 0)), (121, (.iload 7, 2, 0, 0, 0, 0)), (123, (.iaload, 1, 0, 0, 0, 0)), (124, (.iload 8, 2, 0, 0, 0, 0)), (126, (.invokevirtual 177, 3, 208, 3, 9, 0)), (129, (.iconst 1, 1, 0, 0, 0, 0)), (130, (.istore_n 3, 1, 0, 0, 0, 0)), (131, (.iinc 6 1, 3, 0, 0, 0, 0)), (134, (.goto (-92), 3, 42, 0, 0, 0)), (137, (.iload_n 3, 1, 0, 0, 0, 0)), (138, (.ifCond .eq 7, 3, 145, 0, 0, 0)), (141, (.iconst 0, 1, 0, 0, 0, 0)), (142, (.goto 6, 3, 148, 0, 0, 0)), (145, (.iload_n 2, 1, 0, 0, 0, 0)), (146, (.iconst 1, 1, 0, 0, 0, 0)), (147, (.iadd, 1, 0, 0, 0, 0)), (148, (.istore_n 2, 1, 0, 0, 0, 0)), (149, (.goto (-136), 3, 13, 0, 0, 0)), (152, (.return_, 1, 0, 0, 0, 0))]
def kk_209 (q : Nat) : Option Ent := lkp k_209 q
def k_210 : List (Nat × Ent) := [(0, (.aload_n 0, 1, 0, 0, 0, 0)), (1, (.iconst 3, 1, 0, 0, 0, 0)), (2, (.iload_n 1, 1, 0, 0, 0, 0)), (3, (.imul, 1, 0, 0, 0, 0)), (4, (.iload_n 2, 1, 0, 0, 0, 0)), (5, (.bipush 64, 2, 0, 0, 0, 0)), (7, (.idiv, 1, 0, 0, 0, 0)), (8, (.iadd, 1, 0, 0, 0, 0)), (9, (.laload, 1, 0, 0, 0, 0)), (10, (.iload_n 2, 1, 0, 0, 0, 0)), (11, (.bipush 64, 2, 0, 0, 0, 0)), (13, (.irem, 1, 0, 0, 0, 0)), (14, (.lshr, 1, 0, 0, 0, 0)), (15, (.lconst 1, 1, 0, 0, 0, 0)), (16, (.land, 1, 0, 0, 0, 0)), (17, (.lconst 1, 1, 0, 0, 0, 0)), (18, (.lcmp, 1, 0, 0, 0, 0)), (19, (.ifCond .ne 7, 3, 26, 0, 0, 0)), (22, (.iconst 1, 1, 0, 0, 0, 0)), (23, (.goto 4, 3, 27, 0, 0, 0)), (26, (.iconst 0, 1, 0, 0, 0, 0)), (27, (.ireturn, 1, 1, 0, 0, 0))]
def kk_210 (q : Nat) : Option Ent := lkp k_210 q
def k_211 : List (Nat × Ent) := [(0, (.iload_n 0, 1, 0, 0, 0, 0)), (1, (.iconst 4, 1, 0, 0, 0, 0)), (2, (.if_icmp .ge 7, 3, 9, 0, 0, 0)), (5, (.iload_n 0, 1, 0, 0, 0, 0)), (6, (.goto 12, 3, 18, 0, 0, 0)), (9, (.iconst 4, 1, 0, 0, 0, 0)), (10, (.iconst 4, 1, 0, 0, 0, 0)), (11, (.iload_n 1, 1, 0, 0, 0, 0)), (12, (.imul, 1, 0, 0, 0, 0)), (13, (.iadd, 1, 0, 0, 0, 0)), (14, (.iload_n 0, 1, 0, 0, 0, 0)), (15, (.iconst 4, 1, 0, 0, 0, 0)), (16, (.irem, 1, 0, 0, 0, 0)), (17, (.iadd, 1, 0, 0, 0, 0)), (18, (.ireturn, 1, 0, 0, 0, 0))]
def kk_211 (q : Nat) : Option Ent := lkp k_211 q
def k_212 : List (Nat × Ent) := [(0, (.iload_n 1, 1, 0, 0, 0, 0)), (1, (.iconst 4, 1, 0, 0, 0, 0)), (2, (.if_icmp .ge 7, 3, 9, 0, 0, 0)), (5, (.iload_n 1, 1, 0, 0, 0, 0)), (6, (.goto 39, 3, 45, 0, 0, 0)), (9, (.iload_n 1, 1, 0, 0, 0, 0)), (10, (.sipush 128, 3, 0, 0, 0, 0)), (13, (.if_icmp .ge 24, 3, 37, 0, 0, 0)), (16, (.iconst 4, 1, 0, 0, 0, 0)), (17, (.iconst 4, 1, 0, 0, 0, 0)), (18, (.aload_n 0, 1, 0, 0, 0, 0)), (19, (.getfield 32, 3, 14, 9, 2, 0)), (22, (.iload_n 1, 1, 0, 0, 0, 0)), (23, (.iconst 4, 1, 0, 0, 0, 0)), (24, (.isub, 1, 0, 0, 0, 0)), (25, (.iconst 4, 1, 0, 0, 0, 0)), (26, (.idiv, 1, 0, 0, 0, 0)), (27, (.iaload, 1, 0, 0, 0, 0)), (28, (.imul, 1, 0, 0, 0, 0)), (29, (.iadd, 1, 0, 0, 0, 0)), (30, (.iload_n 1, 1, 0, 0, 0, 0)), (31, (.iconst 4, 1, 0, 0, 0, 0)), (32, (.irem, 1, 0, 0, 0, 0)), (33, (.iadd, 1, 0, 0, 0, 0)), (34, (.goto 11, 3, 45, 0, 0, 0)), (37, (.bipush 20, 2, 0, 0, 0, 0)), (39, (.iload_n 1, 1, 0, 0, 0, 0)), (40, (.iadd, 1, 0, 0, 0, 0)), (41, (.sipush 128, 3, 0, 0, 0, 0)), (44, (.isub, 1, 0, 0, 0, 0)), (45, (.ireturn, 1, 0, 0, 0, 0))]
def kk_212 (q : Nat) : Option Ent := lkp k_212 q
def k_213 : List (Nat × Ent) := [(0, (.aload_n 0, 1, 0, 0, 0, 0)), (1, (.getfield 38, 3, 17, 9, 2, 0)), (4, (.iload_n 1, 1, 0, 0, 0, 0)), (5, (.iload_n 2, 1, 0, 0, 0, 0)), (6, (.invokestatic 187, 3, 210, 3, 9, 0)), (9, (.ifCond .eq 4, 3, 13, 0, 0, 0)), (12, (.return_, 1, 0, 0, 0, 0)), (13, (.aload_n 0, 1, 0, 0, 0, 0)), (14, (.getfield 38, 3, 17, 9, 2, 0)), (17, (.iconst 3, 1, 0, 0, 0, 0)), (18, (.iload_n 1, 1, 0, 0, 0, 0)), (19, (.imul, 1, 0, 0, 0, 0)), (20, (.iload_n 2, 1, 0, 0, 0, 0)), (21, (.bipush 64, 2, 0, 0, 0, 0)), (23, (.idiv, 1, 0, 0, 0, 0)), (24, (.iadd, 1, 0, 0, 0, 0)), (25, (.dup2, 1, 0, 0, 0, 0)), (26, (.laload, 1, 0, 0, 0, 0)), (27, (.lconst 1, 1, 0, 0, 0, 0)), (28, (.iload_n 2, 1, 0, 0, 0, 0)), (29, (.bipush 64, 2, 0, 0, 0, 0)), (31, (.irem, 1, 0, 0, 0, 0)), (32, (.lshl, 1, 0, 0, 0, 0)), (33, (.lor, 1, 0, 0, 0, 0)), (34, (.lastore, 1, 0, 0, 0, 0)), (35, (.aload_n 0, 1, 0, 0, 0, 0)), (36, (.iconst 1, 1, 0, 0, 0, 0)), (37, (.putfield 191, 3, 20, 9, 1, 0)), (40, (.return_, 1, 0, 0, 0, 0))]
def kk_213 (q : Nat) : Option Ent := lkp k_213 q
def k_214 : List (Nat × Ent) := [(0, (.iconst 0, 1, 0, 0, 0, 0)), (1, (.istore 4, 2, 0, 0, 0, 0)), (3, (.iload 4, 2, 0, 0, 0, 0)), (5, (.iconst 3, 1, 0, 0, 0, 0)), (6, (.if_icmp .ge 66, 3, 72, 0, 0, 0)), (9, (.aload_n 1, 1, 0, 0, 0, 0)), (10, (.iconst 3, 1, 0, 0, 0, 0)), (11, (.iload_n 3, 1, 0, 0, 0, 0)), (12, (.imul, 1, 0, 0, 0, 0)), (13, (.iload 4, 2, 0, 0, 0, 0)), (15, (.iadd, 1, 0, 0, 0, 0)), (16, (.laload, 1, 0, 0, 0, 0)), (17, (.aload_n 0, 1, 0, 0, 0, 0)), (18, (.getfield 38, 3, 17, 9, 2, 0)), (21, (.iconst 3, 1, 0, 0, 0, 0)), (22, (.iload_n 2, 1, 0, 0, 0, 0)), (23, (.imul, 1, 0, 0, 0, 0)), (24, (.iload 4, 2, 0, 0, 0, 0)), (26, (.iadd, 1, 0, 0, 0, 0)), (27, (.laload, 1, 0, 0, 0, 0)), (28, (.ldc2_w 194, 3, 0, 0, 0, -1)), (31, (.lxor, 1, 0, 0, 0, 0)), (32, (.land, 1, 0, 0, 0, 0)), (33, (.lstore 5, 2, 0, 0, 0, 0)), (35, (.lload 5, 2, 0, 0, 0, 0)), (37, (.lconst 0, 1, 0, 0, 0, 0)), (38, (.lcmp, 1, 0, 0, 0, 0)), (39, (.ifCond .ne 6, 3, 45, 0, 0, 0)), (42, (.goto 24, 3, 66, 0, 0, 0)), (45, (.aload_n 0, 1, 0, 0, 0, 0)), (46, (.getfield 38, 3, 17, 9, 2, 0)), (49, (.iconst 3, 1, 0, 0, 0, 0)), (50, (.iload_n 2, 1, 0, 0, 0, 0)), (51, (.imul, 1, 0, 0, 0, 0)), (52, (.iload 4, 2, 0, 0, 0, 0)), (54, (.iadd, 1, 0, 0, 0, 0)), (55, (.dup2, 1, 0, 0, 0, 0)), (56, (.laload, 1, 0, 0, 0, 0)), (57, (.lload 5, 2, 0, 0, 0, 0)), (59, (.lor, 1, 0, 0, 0, 0)), (60, (.lastore, 1, 0, 0, 0, 0)), (61, (.aload_n 0, 1, 0, 0, 0, 0)), (62, (.iconst 1, 1, 0, 0, 0, 0)), (63, (.putfield 191, 3, 20, 9, 1, 0)), (66, (.iinc 4 1, 3, 0, 0, 0, 0)), (69, (.goto (-66), 3, 3, 0, 0, 0)), (72, (.return_, 1, 0, 0, 0, 0))]
def kk_214 (q : Nat) : Option Ent := lkp k_214 q
def k_215 : List (Nat × Ent) := [(0, (.aload_n 0, 1, 0, 0, 0, 0)), (1, (.getfield 13, 3, 2, 9, 2, 0)), (4, (.iload_n 2, 1, 0, 0, 0, 0)), (5, (.iaload, 1, 0, 0, 0, 0)), (6, (.iload_n 3, 1, 0, 0, 0, 0)), (7, (.invokestatic 196, 3, 211, 2, 9, 0)), (10, (.istore 5, 2, 0, 0, 0, 0)), (12, (.aload_n 0, 1, 0, 0, 0, 0)), (13, (.getfield 16, 3, 3, 9, 2, 0)), (16, (.iload_n 2, 1, 0, 0, 0, 0)), (17, (.iaload, 1, 0, 0, 0, 0)), (18, (.iload_n 3, 1, 0, 0, 0, 0)), (19, (.invokestatic 196, 3, 211, 2, 9, 0)), (22, (.istore 6, 2, 0, 0, 0, 0)), (24, (.aload_n 0, 1, 0, 0, 0, 0)), (25, (.getfield 7, 3, 1, 9, 2, 0)), (28, (.iload_n 2, 1, 0, 0, 0, 0)), (29, (.iaload, 1, 0, 0, 0, 0)), (30, (.tableswitch 257 0 5 #[38, 49, 61, 101, 141, 161], 38, 0, 0, 0, 0)), (68, (.aload_n 0, 1, 0, 0, 0, 0)), (69, (.iload 5, 2, 0, 0, 0, 0)), (71, (.iload 6, 2, 0, 0, 0, 0)), (73, (.invokevirtual 199, 3, 213, 3, 9, 0)), (76, (.goto 274, 3, 350, 0, 0, 0)), (79, (.aload_n 0, 1, 0, 0, 0, 0)), (80, (.aload_n 1, 1, 0, 0, 0, 0)), (81, (.iload 5, 2, 0, 0, 0, 0)), (83, (.iload 6, 2, 0, 0, 0, 0)), (85, (.invokevirtual 202, 3, 214, 4, 9, 0)), (88, (.goto 262, 3, 350, 0, 0, 0)), (91, (.iconst 0, 1, 0, 0, 0, 0)), (92, (.istore 7, 2, 0, 0, 0, 0)), (94, (.iload 7, 2, 0, 0, 0, 0)), (96, (.sipush 152, 3, 0, 0, 0, 0)), (99, (.if_icmp .ge 29, 3, 128, 0, 0, 0)), (102, (.aload_n 1, 1, 0, 0, 0, 0)), (103, (.iload 6, 2, 0, 0, 0, 0)), (105, (.iload 7, 2, 0, 0, 0, 0)), (107, (.invokestatic 187, 3, 210, 3, 9, 0)), (110, (.ifCond .eq 12, 3, 122, 0, 0, 0)), (113, (.aload_n 0, 1, 0, 0, 0, 0)), (114, (.aload_n 1, 1, 0, 0, 0, 0)), (115, (.iload 5, 2, 0, 0, 0, 0)), (117, (.iload 7, 2, 0, 0, 0, 0)), (119, (.invokevirtual 202, 3, 214, 4, 9, 0)), (122, (.iinc 7 1, 3, 0, 0, 0, 0)), (125, (.goto (-31), 3, 94, 0, 0, 0)), (128, (.goto 222, 3, 350, 0, 0, 0)), (131, (.iconst 0, 1, 0, 0, 0, 0)), (132, (.istore 7, 2, 0, 0, 0, 0)), (134, (.iload 7, 2, 0, 0, 0, 0)), (136, (.sipush 152, 3, 0, 0, 0, 0)), (139, (.if_icmp .ge 29, 3, 168, 0, 0, 0)), (142, (.aload_n 1, 1, 0, 0, 0, 0)), (143, (.iload 5, 2, 0, 0, 0, 0)), (145, (.iload 7, 2, 0, 0, 0, 0)), (147, (.invokestatic 187, 3, 210, 3, 9, 0)), (150, (.ifCond .eq 12, 3, 162, 0, 0, 0)), (153, (.aload_n 0, 1, 0, 0, 0, 0)), (154, (.aload_n 1, 1, 0, 0, 0, 0)), (155, (.iload 7, 2, 0, 0, 0, 0)), (157, (.iload 6, 2, 0, 0, 0, 0)), (159, (.invokevirtual 202, 3, 214, 4, 9, 0)), (162, (.iinc 7 1, 3, 0, 0, 0, 0)), (165, (.goto (-31), 3, 134, 0, 0, 0)), (168, (.goto 182, 3, 350, 0, 0, 0)), (171, (.aload_n 0, 1, 0, 0, 0, 0)), (172, (.iload 5, 2, 0, 0, 0, 0)), (174, (.sipush 128, 3, 0, 0, 0, 0)), (177, (.iconst 3, 1, 0, 0, 0, 0)), (178, (.aload_n 0, 1, 0, 0, 0, 0)), (179, (.iload_n 2, 1, 0, 0, 0, 0)), (180, (.invokevirtual 206, 3, 185, 2, 9, 0)), (183, (.imul, 1, 0, 0, 0, 0)), (184, (.iadd, 1, 0, 0, 0, 0)), (185, (.invokevirtual 199, 3, 213, 3, 9, 0)), (188, (.goto 162, 3, 350, 0, 0, 0)), (191, (.iconst 0, 1, 0, 0, 0, 0)), (192, (.istore 7, 2, 0, 0, 0, 0)), (194, (.iload 7, 2, 0, 0, 0, 0)), (196, (.sipush 152, 3, 0, 0, 0, 0)), (199, (.if_icmp .ge 85, 3, 284, 0, 0, 0)), (202, (.aload_n 1, 1, 0, 0, 0, 0)), (203, (.iload 6, 2, 0, 0, 0, 0)), (205, (.iload 7, 2, 0, 0, 0, 0)), (207, (.invokestatic 187, 3, 210, 3, 9, 0)), (210, (.ifCond .ne 6, 3, 216, 0, 0, 0)), (213, (.goto 65, 3, 278, 0, 0, 0)), (216, (.aload_n 0, 1, 0, 0, 0, 0)), (217, (.getfield 19, 3, 4, 9, 2, 0)), (220, (.iload_n 2, 1, 0, 0, 0, 0)), (221, (.iaload, 1, 0, 0, 0, 0)), (222, (.ifCond .ne 14, 3, 236, 0, 0, 0)), (225, (.aload_n 0, 1, 0, 0, 0, 0)), (226, (.iload 5, 2, 0, 0, 0, 0)), (228, (.iload 7, 2, 0, 0, 0, 0)), (230, (.invokevirtual 199, 3, 213, 3, 9, 0)), (233, (.goto 45, 3, 278, 0, 0, 0)), (236, (.iload 7, 2, 0, 0, 0, 0)), (238, (.sipush 128, 3, 0, 0, 0, 0)), (241, (.if_icmp .lt 37, 3, 278, 0, 0, 0)), (244, (.iload 7, 2, 0, 0, 0, 0)), (246, (.sipush 128, 3, 0, 0, 0, 0)), (249, (.isub, 1, 0, 0, 0, 0)), (250, (.iconst 3, 1, 0, 0, 0, 0)), (251, (.irem, 1, 0, 0, 0, 0)), (252, (.aload_n 0, 1, 0, 0, 0, 0)), (253, (.getfield 19, 3, 4, 9, 2, 0)), (256, (.iload_n 2, 1, 0, 0, 0, 0)), (257, (.iaload, 1, 0, 0, 0, 0)), (258, (.iadd, 1, 0, 0, 0, 0)), (259, (.iconst 2, 1, 0, 0, 0, 0)), (260, (.if_icmp .gt 18, 3, 278, 0, 0, 0)), (263, (.aload_n 0, 1, 0, 0, 0, 0)), (264, (.iload 5, 2, 0, 0, 0, 0)), (266, (.iload 7, 2, 0, 0, 0, 0)), (268, (.aload_n 0, 1, 0, 0, 0, 0)), (269, (.getfield 19, 3, 4, 9, 2, 0)), (272, (.iload_n 2, 1, 0, 0, 0, 0)), (273, (.iaload, 1, 0, 0, 0, 0)), (274, (.iadd, 1, 0, 0, 0, 0)), (275, (.invokevirtual 199, 3, 213, 3, 9, 0)), (278, (.iinc 7 1, 3, 0, 0, 0, 0)), (281, (.goto (-87), 3, 194, 0, 0, 0)), (284, (.goto 66, 3, 350, 0, 0, 0)), (287, (.aload_n 0, 1, 0, 0, 0, 0)), (288, (.getfield 19, 3, 4, 9, 2, 0)), (291, (.iload_n 2, 1, 0, 0, 0, 0)), (292, (.iaload, 1, 0, 0, 0, 0)), (293, (.istore 7, 2, 0, 0, 0, 0)), (295, (.aload_n 0, 1, 0, 0, 0, 0)), (296, (.iload 7, 2, 0, 0, 0, 0)), (298, (.aload_n 0, 1, 0, 0, 0, 0)), (299, (.getfield 35, 3, 15, 9, 2, 0)), (302, (.iload_n 3, 1, 0, 0, 0, 0)), (303, (.iaload, 1, 0, 0, 0, 0)), (304, (.aload_n 0, 1, 0, 0, 0, 0)), (305, (.iload_n 2, 1, 0, 0, 0, 0)), (306, (.invokevirtual 87, 3, 183, 2, 9, 0)), (309, (.iload 4, 2, 0, 0, 0, 0)), (311, (.invokestatic 180, 3, 207, 3, 9, 0)), (314, (.invokevirtual 184, 3, 206, 3, 9, 0)), (317, (.istore 8, 2, 0, 0, 0, 0)), (319, (.aload_n 0, 1, 0, 0, 0, 0)), (320, (.aload_n 1, 1, 0, 0, 0, 0)), (321, (.iconst 4, 1, 0, 0, 0, 0)), (322, (.iconst 4, 1, 0, 0, 0, 0)), (323, (.iload 8, 2, 0, 0, 0, 0)), (325, (.imul, 1, 0, 0, 0, 0)), (326, (.iadd, 1, 0, 0, 0, 0)), (327, (.iload 6, 2, 0, 0, 0, 0)), (329, (.invokevirtual 202, 3, 214, 4, 9, 0)), (332, (.aload_n 0, 1, 0, 0, 0, 0)), (333, (.aload_n 1, 1, 0, 0, 0, 0)), (334, (.iload 5, 2, 0, 0, 0, 0)), (336, (.iconst 4, 1, 0, 0, 0, 0)), (337, (.iconst 4, 1, 0, 0, 0, 0)), (338, (.iload 8, 2, 0, 0, 0, 0)), (340, (.imul, 1, 0, 0, 0, 0)), (341, (.iadd, 1, 0, 0, 0, 0)), (342, (.iconst 1, 1, 0, 0, 0, 0)), (343, (.iadd, 1, 0, 0, 0, 0)), (344, (.invokevirtual 202, 3, 214, 4, 9, 0)), (347, (.goto 3, 3, 350, 0, 0, 0)), (350, (.return_, 1, 0, 0, 0, 0))]
def kk_215 (q : Nat) : Option Ent := lkp k_215 q
def k_216 : List (Nat × Ent) := [(0, (.iconst 0, 1, 0, 0, 0, 0)), (1, (.istore_n 1, 1, 0, 0, 0, 0)), (2, (.iload_n 1, 1, 0, 0, 0, 0)), (3, (.aload_n 0, 1, 0, 0, 0, 0)), (4, (.getfield 38, 3, 17, 9, 2, 0)), (7, (.arraylength, 1, 0, 0, 0, 0)), (8, (.if_icmp .ge 16, 3, 24, 0, 0, 0)), (11, (.aload_n 0, 1, 0, 0, 0, 0)), (12, (.getfield 38, 3, 17, 9, 2, 0)), (15, (.iload_n 1, 1, 0, 0, 0, 0)), (16, (.lconst 0, 1, 0, 0, 0, 0)), (17, (.lastore, 1, 0, 0, 0, 0)), (18, (.iinc 1 1, 3, 0, 0, 0, 0)), (21, (.goto (-19), 3, 2, 0, 0, 0)), (24, (.return_, 1, 0, 0, 0, 0))]
def kk_216 (q : Nat) : Option Ent := lkp k_216 q
def k_217 : List (Nat × Ent) := [(0, (.iconst 0, 1, 0, 0, 0, 0)), (1, (.istore_n 3, 1, 0, 0, 0, 0)), (2, (.iload_n 3, 1, 0, 0, 0, 0)), (3, (.sipush 152, 3, 0, 0, 0, 0)), (6, (.if_icmp .ge 88, 3, 94, 0, 0, 0)), (9, (.iconst 0, 1, 0, 0, 0, 0)), (10, (.istore 4, 2, 0, 0, 0, 0)), (12, (.iload 4, 2, 0, 0, 0, 0)), (14, (.sipush 152, 3, 0, 0, 0, 0)), (17, (.if_icmp .ge 71, 3, 88, 0, 0, 0)), (20, (.aload_n 0, 1, 0, 0, 0, 0)), (21, (.getfield 38, 3, 17, 9, 2, 0)), (24, (.iload_n 3, 1, 0, 0, 0, 0)), (25, (.iload 4, 2, 0, 0, 0, 0)), (27, (.invokestatic 187, 3, 210, 3, 9, 0)), (30, (.ifCond .ne 6, 3, 36, 0, 0, 0)), (33, (.goto 49, 3, 82, 0, 0, 0)), (36, (.bipush 44, 2, 0, 0, 0, 0)), (38, (.aload_n 0, 1, 0, 0, 0, 0)), (39, (.iload_n 3, 1, 0, 0, 0, 0)), (40, (.invokevirtual 209, 3, 212, 2, 9, 0)), (43, (.imul, 1, 0, 0, 0, 0)), (44, (.aload_n 0, 1, 0, 0, 0, 0)), (45, (.iload 4, 2, 0, 0, 0, 0)), (47, (.invokevirtual 209, 3, 212, 2, 9, 0)), (50, (.iadd, 1, 0, 0, 0, 0)), (51, (.istore 5, 2, 0, 0, 0, 0)), (53, (.aload_n 0, 1, 0, 0, 0, 0)), (54, (.getfield 45, 3, 21, 9, 2, 0)), (57, (.iload 5, 2, 0, 0, 0, 0)), (59, (.iaload, 1, 0, 0, 0, 0)), (60, (.ifCond .le 6, 3, 66, 0, 0, 0)), (63, (.goto 19, 3, 82, 0, 0, 0)), (66, (.aload_n 0, 1, 0, 0, 0, 0)), (67, (.getfield 45, 3, 21, 9, 2, 0)), (70, (.iload 5, 2, 0, 0, 0, 0)), (72, (.iload_n 2, 1, 0, 0, 0, 0)), (73, (.iastore, 1, 0, 0, 0, 0)), (74, (.aload_n 0, 1, 0, 0, 0, 0)), (75, (.getfield 48, 3, 22, 9, 2, 0)), (78, (.iload 5, 2, 0, 0, 0, 0)), (80, (.iload_n 1, 1, 0, 0, 0, 0)), (81, (.iastore, 1, 0, 0, 0, 0)), (82, (.iinc 4 1, 3, 0, 0, 0, 0)), (85, (.goto (-73), 3, 12, 0, 0, 0)), (88, (.iinc 3 1, 3, 0, 0, 0, 0)), (91, (.goto (-89), 3, 2, 0, 0, 0)), (94, (.return_, 1, 0, 0, 0, 0))]
def kk_217 (q : Nat) : Option Ent := lkp k_217 q
def k_218 : List (Nat × Ent) := [(0, (.aload_n 0, 1, 0, 0, 0, 0)), (1, (.iconst 0, 1, 0, 0, 0, 0)), (2, (.invokevirtual 212, 3, 209, 2, 9, 0)), (5, (.aload_n 0, 1, 0, 0, 0, 0)), (6, (.invokevirtual 216, 3, 216, 1, 9, 0)), (9, (.iconst 0, 1, 0, 0, 0, 0)), (10, (.istore_n 1, 1, 0, 0, 0, 0)), (11, (.iload_n 1, 1, 0, 0, 0, 0)), (12, (.aload_n 0, 1, 0, 0, 0, 0)), (13, (.getfield 45, 3, 21, 9, 2, 0)), (16, (.arraylength, 1, 0, 0, 0, 0)), (17, (.if_icmp .ge 16, 3, 33, 0, 0, 0)), (20, (.aload_n 0, 1, 0, 0, 0, 0)), (21, (.getfield 45, 3, 21, 9, 2, 0)), (24, (.iload_n 1, 1, 0, 0, 0, 0)), (25, (.iconst 0, 1, 0, 0, 0, 0)), (26, (.iastore, 1, 0, 0, 0, 0)), (27, (.iinc 1 1, 3, 0, 0, 0, 0)), (30, (.goto (-19), 3, 11, 0, 0, 0)), (33, (.aload_n 0, 1, 0, 0, 0, 0)), (34, (.iconst 0, 1, 0, 0, 0, 0)), (35, (.putfield 219, 3, 23, 9, 0, 0)), (38, (.iconst 1, 1, 0, 0, 0, 0)), (39, (.istore_n 1, 1, 0, 0, 0, 0)), (40, (.iload_n 1, 1, 0, 0, 0, 0)), (41, (.ifCond .eq 136, 3, 177, 0, 0, 0)), (44, (.iconst 0, 1, 0, 0, 0, 0)), (45, (.istore_n 2, 1, 0, 0, 0, 0)), (46, (.iload_n 2, 1, 0, 0, 0, 0)), (47, (.aload_n 0, 1, 0, 0, 0, 0)), (48, (.getfield 38, 3, 17, 9, 2, 0)), (51, (.arraylength, 1, 0, 0, 0, 0)), (52, (.if_icmp .ge 21, 3, 73, 0, 0, 0)), (55, (.aload_n 0, 1, 0, 0, 0, 0)), (56, (.getfield 42, 3, 18, 9, 2, 0)), (59, (.iload_n 2, 1, 0, 0, 0, 0)), (60, (.aload_n 0, 1, 0, 0, 0, 0)), (61, (.getfield 38, 3, 17, 9, 2, 0)), (64, (.iload_n 2, 1, 0, 0, 0, 0)), (65, (.laload, 1, 0, 0, 0, 0)), (66, (.lastore, 1, 0, 0, 0, 0)), (67, (.iinc 2 1, 3, 0, 0, 0, 0)), (70, (.goto (-24), 3, 46, 0, 0, 0)), (73, (.iconst 0, 1, 0, 0, 0, 0)), (74, (.istore_n 1, 1, 0, 0, 0, 0)), (75, (.iconst 0, 1, 0, 0, 0, 0)), (76, (.istore_n 2, 1, 0, 0, 0, 0)), (77, (.iload_n 2, 1, 0, 0, 0, 0)), (78, (.aload_n 0, 1, 0, 0, 0, 0)), (79, (.invokevirtual 162, 3, 181, 1, 9, 0)), (82, (.if_icmp .ge 74, 3, 156, 0, 0, 0)), (85, (.aload_n 0, 1, 0, 0, 0, 0)), (86, (.iload_n 2, 1, 0, 0, 0, 0)), (87, (.invokevirtual 91, 3, 182, 2, 9, 0)), (90, (.istore_n 3, 1, 0, 0, 0, 0)), (91, (.aload_n 0, 1, 0, 0, 0, 0)), (92, (.iload_n 3, 1, 0, 0, 0, 0)), (93, (.bipush 12, 2, 0, 0, 0, 0)), (95, (.idiv, 1, 0, 0, 0, 0)), (96, (.iconst 0, 1, 0, 0, 0, 0)), (97, (.invokevirtual 184, 3, 206, 3, 9, 0)), (100, (.istore 4, 2, 0, 0, 0, 0)), (102, (.iload 4, 2, 0, 0, 0, 0)), (104, (.ifCond .ge 6, 3, 110, 0, 0, 0)), (107, (.goto 43, 3, 150, 0, 0, 0)), (110, (.aload_n 0, 1, 0, 0, 0, 0)), (111, (.iconst 0, 1, 0, 0, 0, 0)), (112, (.putfield 191, 3, 20, 9, 1, 0)), (115, (.aload_n 0, 1, 0, 0, 0, 0)), (116, (.aload_n 0, 1, 0, 0, 0, 0)), (117, (.getfield 42, 3, 18, 9, 2, 0)), (120, (.iload_n 3, 1, 0, 0, 0, 0)), (121, (.iload 4, 2, 0, 0, 0, 0)), (123, (.iconst 0, 1, 0, 0, 0, 0)), (124, (.invokevirtual 222, 3, 215, 5, 9, 0)), (127, (.aload_n 0, 1, 0, 0, 0, 0)), (128, (.getfield 191, 3, 20, 9, 1, 0)), (131, (.ifCond .ne 6, 3, 137, 0, 0, 0)), (134, (.goto 16, 3, 150, 0, 0, 0)), (137, (.iconst 1, 1, 0, 0, 0, 0)), (138, (.istore_n 1, 1, 0, 0, 0, 0)), (139, (.aload_n 0, 1, 0, 0, 0, 0)), (140, (.iload_n 2, 1, 0, 0, 0, 0)), (141, (.aload_n 0, 1, 0, 0, 0, 0)), (142, (.getfield 219, 3, 23, 9, 0, 0)), (145, (.iconst 1, 1, 0, 0, 0, 0)), (146, (.iadd, 1, 0, 0, 0, 0)), (147, (.invokevirtual 226, 3, 217, 3, 9, 0)), (150, (.iinc 2 1, 3, 0, 0, 0, 0)), (153, (.goto (-76), 3, 77, 0, 0, 0)), (156, (.aload_n 0, 1, 0, 0, 0, 0)), (157, (.dup, 1, 0, 0, 0, 0)), (158, (.getfield 219, 3, 23, 9, 0, 0)), (161, (.iload_n 1, 1, 0, 0, 0, 0)), (162, (.ifCond .eq 7, 3, 169, 0, 0, 0)), (165, (.iconst 1, 1, 0, 0, 0, 0)), (166, (.goto 4, 3, 170, 0, 0, 0)), (169, (.iconst 0, 1, 0, 0, 0, 0)), (170, (.iadd, 1, 0, 0, 0, 0)), (171, (.putfield 219, 3, 23, 9, 0, 0)), (174, (.goto (-134), 3, 40, 0, 0, 0)), (177, (.return_, 1, 0, 0, 0, 0))]
def kk_218 (q : Nat) : Option Ent := lkp k_218 q
def k_219 : List (Nat × Ent) := [(0, (.aload_n 0, 1, 0, 0, 0, 0)), (1, (.getfield 155, 3, 19, 9, 1, 0)), (4, (.ifCond .eq 4, 3, 8, 0, 0, 0)), (7, (.return_, 1, 0, 0, 0, 0)), (8, (.aload_n 0, 1, 0, 0, 0, 0)), (9, (.invokevirtual 229, 3, 218, 1, 9, 0)), (12, (.aload_n 0, 1, 0, 0, 0, 0)), (13, (.aload_n 0, 1, 0, 0, 0, 0)), (14, (.getfield 171, 3, 6, 9, 0, 0)), (17, (.invokevirtual 212, 3, 209, 2, 9, 0)), (20, (.aload_n 0, 1, 0, 0, 0, 0)), (21, (.invokevirtual 216, 3, 216, 1, 9, 0)), (24, (.aload_n 0, 1, 0, 0, 0, 0)), (25, (.iconst 1, 1, 0, 0, 0, 0)), (26, (.putfield 191, 3, 20, 9, 1, 0)), (29, (.aload_n 0, 1, 0, 0, 0, 0)), (30, (.getfield 191, 3, 20, 9, 1, 0)), (33, (.ifCond .eq 71, 3, 104, 0, 0, 0)), (36, (.aload_n 0, 1, 0, 0, 0, 0)), (37, (.iconst 0, 1, 0, 0, 0, 0)), (38, (.putfield 191, 3, 20, 9, 1, 0)), (41, (.iconst 0, 1, 0, 0, 0, 0)), (42, (.istore_n 1, 1, 0, 0, 0, 0)), (43, (.iload_n 1, 1, 0, 0, 0, 0)), (44, (.aload_n 0, 1, 0, 0, 0, 0)), (45, (.getfield 174, 3, 16, 9, 0, 0)), (48, (.if_icmp .ge 53, 3, 101, 0, 0, 0)), (51, (.aload_n 0, 1, 0, 0, 0, 0)), (52, (.getfield 32, 3, 14, 9, 2, 0)), (55, (.iload_n 1, 1, 0, 0, 0, 0)), (56, (.iaload, 1, 0, 0, 0, 0)), (57, (.istore_n 2, 1, 0, 0, 0, 0)), (58, (.iconst 0, 1, 0, 0, 0, 0)), (59, (.istore_n 3, 1, 0, 0, 0, 0)), (60, (.iload_n 3, 1, 0, 0, 0, 0)), (61, (.aload_n 0, 1, 0, 0, 0, 0)), (62, (.getfield 22, 3, 5, 9, 2, 0)), (65, (.iload_n 2, 1, 0, 0, 0, 0)), (66, (.iaload, 1, 0, 0, 0, 0)), (67, (.if_icmp .ge 28, 3, 95, 0, 0, 0)), (70, (.aload_n 0, 1, 0, 0, 0, 0)), (71, (.aload_n 0, 1, 0, 0, 0, 0)), (72, (.getfield 38, 3, 17, 9, 2, 0)), (75, (.bipush 12, 2, 0, 0, 0, 0)), (77, (.iload_n 2, 1, 0, 0, 0, 0)), (78, (.imul, 1, 0, 0, 0, 0)), (79, (.iload_n 3, 1, 0, 0, 0, 0)), (80, (.iadd, 1, 0, 0, 0, 0)), (81, (.iload_n 1, 1, 0, 0, 0, 0)), (82, (.aload_n 0, 1, 0, 0, 0, 0)), (83, (.getfield 171, 3, 6, 9, 0, 0)), (86, (.invokevirtual 222, 3, 215, 5, 9, 0)), (89, (.iinc 3 1, 3, 0, 0, 0, 0)), (92, (.goto (-32), 3, 60, 0, 0, 0)), (95, (.iinc 1 1, 3, 0, 0, 0, 0)), (98, (.goto (-55), 3, 43, 0, 0, 0)), (101, (.goto (-72), 3, 29, 0, 0, 0)), (104, (.aload_n 0, 1, 0, 0, 0, 0)), (105, (.invokevirtual 232, 3, 247, 1, 9, 0)), (108, (.aload_n 0, 1, 0, 0, 0, 0)), (109, (.iconst 1, 1, 0, 0, 0, 0)), (110, (.putfield 155, 3, 19, 9, 1, 0)), (113, (.return_, 1, 0, 0, 0, 0))]
def kk_219 (q : Nat) : Option Ent := lkp k_219 q
def k_220 : List (Nat × Ent) := [(0, (.iconst 0, 1, 0, 0, 0, 0)), (1, (.istore_n 2, 1, 0, 0, 0, 0)), (2, (.iload_n 2, 1, 0, 0, 0, 0)), (3, (.aload_n 0, 1, 0, 0, 0, 0)), (4, (.getfield 174, 3, 16, 9, 0, 0)), (7, (.if_icmp .ge 19, 3, 26, 0, 0, 0)), (10, (.aload_n 0, 1, 0, 0, 0, 0)), (11, (.getfield 32, 3, 14, 9, 2, 0)), (14, (.iload_n 2, 1, 0, 0, 0, 0)), (15, (.iaload, 1, 0, 0, 0, 0)), (16, (.iload_n 1, 1, 0, 0, 0, 0)), (17, (.if_icmp .ge 9, 3, 26, 0, 0, 0)), (20, (.iinc 2 1, 3, 0, 0, 0, 0)), (23, (.goto (-21), 3, 2, 0, 0, 0)), (26, (.iload_n 2, 1, 0, 0, 0, 0)), (27, (.ireturn, 1, 0, 0, 0, 0))]
def kk_220 (q : Nat) : Option Ent := lkp k_220 q
def k_221 : List (Nat × Ent) := [(0, (.iconst 0, 1, 0, 0, 0, 0)), (1, (.istore_n 2, 1, 0, 0, 0, 0)), (2, (.iconst 0, 1, 0, 0, 0, 0)), (3, (.istore_n 3, 1, 0, 0, 0, 0)), (4, (.iload_n 3, 1, 0, 0, 0, 0)), (5, (.aload_n 0, 1, 0, 0, 0, 0)), (6, (.getfield 174, 3, 16, 9, 0, 0)), (9, (.if_icmp .ge 27, 3, 36, 0, 0, 0)), (12, (.iload_n 2, 1, 0, 0, 0, 0)), (13, (.aload_n 0, 1, 0, 0, 0, 0)), (14, (.getfield 32, 3, 14, 9, 2, 0)), (17, (.iload_n 3, 1, 0, 0, 0, 0)), (18, (.iaload, 1, 0, 0, 0, 0)), (19, (.iload_n 1, 1, 0, 0, 0, 0)), (20, (.if_icmp .ne 7, 3, 27, 0, 0, 0)), (23, (.iconst 1, 1, 0, 0, 0, 0)), (24, (.goto 4, 3, 28, 0, 0, 0)), (27, (.iconst 0, 1, 0, 0, 0, 0)), (28, (.iadd, 1, 0, 0, 0, 0)), (29, (.istore_n 2, 1, 0, 0, 0, 0)), (30, (.iinc 3 1, 3, 0, 0, 0, 0)), (33, (.goto (-29), 3, 4, 0, 0, 0)), (36, (.iload_n 2, 1, 0, 0, 0, 0)), (37, (.ireturn, 1, 0, 0, 0, 0))]
def kk_221 (q : Nat) : Option Ent := lkp k_221 q
def k_222 : List (Nat × Ent) := [(0, (.iload_n 1, 1, 0, 0, 0, 0)), (1, (.invokestatic 141, 3, 179, 1, 9, 0)), (4, (.ifCond .ne 9, 3, 13, 0, 0, 0)), (7, (.aload_n 0, 1, 0, 0, 0, 0)), (8, (.iconst 1, 1, 0, 0, 0, 0)), (9, (.invokevirtual 98, 3, 175, 2, 9, 0)), (12, (.ireturn, 1, 0, 0, 0, 0)), (13, (.aload_n 0, 1, 0, 0, 0, 0)), (14, (.iconst 0, 1, 0, 0, 0, 0)), (15, (.putfield 84, 3, 0, 9, 0, 0)), (18, (.aload_n 0, 1, 0, 0, 0, 0)), (19, (.invokevirtual 235, 3, 219, 1, 9, 0)), (22, (.aload_n 0, 1, 0, 0, 0, 0)), (23, (.iload_n 1, 1, 0, 0, 0, 0)), (24, (.invokevirtual 238, 3, 221, 2, 9, 0)), (27, (.ireturn, 1, 0, 0, 0, 0))]
def kk_222 (q : Nat) : Option Ent := lkp k_222 q
def k_223 : List (Nat × Ent) := [(0, (.iload_n 1, 1, 0, 0, 0, 0)), (1, (.invokestatic 141, 3, 179, 1, 9, 0)), (4, (.ifCond .ne 5, 3, 9, 0, 0, 0)), (7, (.iconst (-1), 1, 0, 0, 0, 0)), (8, (.ireturn, 1, 0, 0, 0, 0)), (9, (.aload_n 0, 1, 0, 0, 0, 0)), (10, (.invokevirtual 235, 3, 219, 1, 9, 0)), (13, (.iload_n 2, 1, 0, 0, 0, 0)), (14, (.iconst 0, 1, 0, 0, 0, 0)), (15, (.aload_n 0, 1, 0, 0, 0, 0)), (16, (.iload_n 1, 1, 0, 0, 0, 0)), (17, (.invokevirtual 238, 3, 221, 2, 9, 0)), (20, (.iconst 1, 1, 0, 0, 0, 0)), (21, (.isub, 1, 0, 0, 0, 0)), (22, (.invokestatic 94, 3, 177, 3, 9, 0)), (25, (.ifCond .eq 18, 3, 43, 0, 0, 0)), (28, (.aload_n 0, 1, 0, 0, 0, 0)), (29, (.getfield 35, 3, 15, 9, 2, 0)), (32, (.aload_n 0, 1, 0, 0, 0, 0)), (33, (.iload_n 1, 1, 0, 0, 0, 0)), (34, (.invokevirtual 241, 3, 220, 2, 9, 0)), (37, (.iload_n 2, 1, 0, 0, 0, 0)), (38, (.iadd, 1, 0, 0, 0, 0)), (39, (.iaload, 1, 0, 0, 0, 0)), (40, (.goto 4, 3, 44, 0, 0, 0)), (43, (.iconst (-1), 1, 0, 0, 0, 0)), (44, (.ireturn, 1, 0, 0, 0, 0))]
def kk_223 (q : Nat) : Option Ent := lkp k_223 q
def k_224 : List (Nat × Ent) := [(0, (.aload_n 0, 1, 0, 0, 0, 0)), (1, (.iload_n 1, 1, 0, 0, 0, 0)), (2, (.iload_n 2, 1, 0, 0, 0, 0)), (3, (.invokevirtual 244, 3, 223, 3, 9, 0)), (6, (.istore_n 3, 1, 0, 0, 0, 0)), (7, (.iload_n 3, 1, 0, 0, 0, 0)), (8, (.ifCond .ge 9, 3, 17, 0, 0, 0)), (11, (.aload_n 0, 1, 0, 0, 0, 0)), (12, (.iconst 1, 1, 0, 0, 0, 0)), (13, (.invokevirtual 98, 3, 175, 2, 9, 0)), (16, (.ireturn, 1, 0, 0, 0, 0)), (17, (.aload_n 0, 1, 0, 0, 0, 0)), (18, (.iconst 0, 1, 0, 0, 0, 0)), (19, (.putfield 84, 3, 0, 9, 0, 0)), (22, (.iload_n 3, 1, 0, 0, 0, 0)), (23, (.sipush 10000, 3, 0, 0, 0, 0)), (26, (.idiv, 1, 0, 0, 0, 0)), (27, (.ireturn, 1, 0, 0, 0, 0))]
def kk_224 (q : Nat) : Option Ent := lkp k_224 q
def k_225 : List (Nat × Ent) := [(0, (.aload_n 0, 1, 0, 0, 0, 0)), (1, (.iload_n 1, 1, 0, 0, 0, 0)), (2, (.iload_n 2, 1, 0, 0, 0, 0)), (3, (.invokevirtual 244, 3, 223, 3, 9, 0)), (6, (.istore 4, 2, 0, 0, 0, 0)), (8, (.iload 4, 2, 0, 0, 0, 0)), (10, (.ifCond .lt 19, 3, 29, 0, 0, 0)), (13, (.iload_n 3, 1, 0, 0, 0, 0)), (14, (.iconst 0, 1, 0, 0, 0, 0)), (15, (.iload 4, 2, 0, 0, 0, 0)), (17, (.sipush 10000, 3, 0, 0, 0, 0)), (20, (.idiv, 1, 0, 0, 0, 0)), (21, (.iconst 1, 1, 0, 0, 0, 0)), (22, (.isub, 1, 0, 0, 0, 0)), (23, (.invokestatic 94, 3, 177, 3, 9, 0)), (26, (.ifCond .ne 9, 3, 35, 0, 0, 0)), (29, (.aload_n 0, 1, 0, 0, 0, 0)), (30, (.iconst 1, 1, 0, 0, 0, 0)), (31, (.invokevirtual 98, 3, 175, 2, 9, 0)), (34, (.ireturn, 1, 0, 0, 0, 0)), (35, (.aload_n 0, 1, 0, 0, 0, 0)), (36, (.iconst 0, 1, 0, 0, 0, 0)), (37, (.putfield 84, 3, 0, 9, 0, 0)), (40, (.iload 4, 2, 0, 0, 0, 0)), (42, (.sipush 10000, 3, 0, 0, 0, 0)), (45, (.idiv, 1, 0, 0, 0, 0)), (46, (.iconst 2, 1, 0, 0, 0, 0)), (47, (.if_icmp .ne 18, 3, 65, 0, 0, 0)), (50, (.iload_n 3, 1, 0, 0, 0, 0)), (51, (.ifCond .ne 14, 3, 65, 0, 0, 0)), (54, (.iload 4, 2, 0, 0, 0, 0)), (56, (.bipush 100, 2, 0, 0, 0, 0)), (58, (.idiv, 1, 0, 0, 0, 0)), (59, (.bipush 100, 2, 0, 0, 0, 0)), (61, (.irem, 1, 0, 0, 0, 0)), (62, (.goto 8, 3, 70, 0, 0, 0)), (65, (.iload 4, 2, 0, 0, 0, 0)), (67, (.bipush 100, 2, 0, 0, 0, 0)), (69, (.irem, 1, 0, 0, 0, 0)), (70, (.ireturn, 1, 0, 0, 0, 0))]
def kk_225 (q : Nat) : Option Ent := lkp k_225 q
def k_226 : List (Nat × Ent) := [(0, (.lconst 0, 1, 0, 0, 0, 0)), (1, (.lstore_n 2, 1, 0, 0, 0, 0)), (2, (.iconst 0, 1, 0, 0, 0, 0)), (3, (.istore 4, 2, 0, 0, 0, 0)), (5, (.iload 4, 2, 0, 0, 0, 0)), (7, (.sipush 152, 3, 0, 0, 0, 0)), (10, (.if_icmp .ge 37, 3, 47, 0, 0, 0)), (13, (.lload_n 2, 1, 0, 0, 0, 0)), (14, (.aload_n 0, 1, 0, 0, 0, 0)), (15, (.getfield 38, 3, 17, 9, 2, 0)), (18, (.iload_n 1, 1, 0, 0, 0, 0)), (19, (.iload 4, 2, 0, 0, 0, 0)), (21, (.invokestatic 187, 3, 210, 3, 9, 0)), (24, (.ifCond .eq 14, 3, 38, 0, 0, 0)), (27, (.lconst 1, 1, 0, 0, 0, 0)), (28, (.aload_n 0, 1, 0, 0, 0, 0)), (29, (.iload 4, 2, 0, 0, 0, 0)), (31, (.invokevirtual 209, 3, 212, 2, 9, 0)), (34, (.lshl, 1, 0, 0, 0, 0)), (35, (.goto 4, 3, 39, 0, 0, 0)), (38, (.lconst 0, 1, 0, 0, 0, 0)), (39, (.lor, 1, 0, 0, 0, 0)), (40, (.lstore_n 2, 1, 0, 0, 0, 0)), (41, (.iinc 4 1, 3, 0, 0, 0, 0)), (44, (.goto (-39), 3, 5, 0, 0, 0)), (47, (.lload_n 2, 1, 0, 0, 0, 0)), (48, (.lreturn, 1, 0, 0, 0, 0))]
def kk_226 (q : Nat) : Option Ent := lkp k_226 q
def k_227 : List (Nat × Ent) := [(0, (.aload_n 0, 1, 0, 0, 0, 0)), (1, (.invokevirtual 235, 3, 219, 1, 9, 0)), (4, (.iload_n 1, 1, 0, 0, 0, 0)), (5, (.iconst 4, 1, 0, 0, 0, 0)), (6, (.if_icmp .ge 9, 3, 15, 0, 0, 0)), (9, (.aload_n 0, 1, 0, 0, 0, 0)), (10, (.iload_n 1, 1, 0, 0, 0, 0)), (11, (.invokevirtual 247, 3, 226, 2, 9, 0)), (14, (.lreturn, 1, 0, 0, 0, 0)), (15, (.iload_n 1, 1, 0, 0, 0, 0)), (16, (.bipush 20, 2, 0, 0, 0, 0)), (18, (.if_icmp .lt 16, 3, 34, 0, 0, 0)), (21, (.aload_n 0, 1, 0, 0, 0, 0)), (22, (.sipush 128, 3, 0, 0, 0, 0)), (25, (.iload_n 1, 1, 0, 0, 0, 0)), (26, (.iadd, 1, 0, 0, 0, 0)), (27, (.bipush 20, 2, 0, 0, 0, 0)), (29, (.isub, 1, 0, 0, 0, 0)), (30, (.invokevirtual 247, 3, 226, 2, 9, 0)), (33, (.lreturn, 1, 0, 0, 0, 0)), (34, (.lconst 0, 1, 0, 0, 0, 0)), (35, (.lstore_n 2, 1, 0, 0, 0, 0)), (36, (.iconst 0, 1, 0, 0, 0, 0)), (37, (.istore 4, 2, 0, 0, 0, 0)), (39, (.iload 4, 2, 0, 0, 0, 0)), (41, (.aload_n 0, 1, 0, 0, 0, 0)), (42, (.getfield 174, 3, 16, 9, 0, 0)), (45, (.if_icmp .ge 45, 3, 90, 0, 0, 0)), (48, (.lload_n 2, 1, 0, 0, 0, 0)), (49, (.aload_n 0, 1, 0, 0, 0, 0)), (50, (.getfield 32, 3, 14, 9, 2, 0)), (53, (.iload 4, 2, 0, 0, 0, 0)), (55, (.iaload, 1, 0, 0, 0, 0)), (56, (.iload_n 1, 1, 0, 0, 0, 0)), (57, (.iconst 4, 1, 0, 0, 0, 0)), (58, (.isub, 1, 0, 0, 0, 0)), (59, (.iconst 4, 1, 0, 0, 0, 0)), (60, (.idiv, 1, 0, 0, 0, 0)), (61, (.if_icmp .ne 20, 3, 81, 0, 0, 0)), (64, (.aload_n 0, 1, 0, 0, 0, 0)), (65, (.iconst 4, 1, 0, 0, 0, 0)), (66, (.iconst 4, 1, 0, 0, 0, 0)), (67, (.iload 4, 2, 0, 0, 0, 0)), (69, (.imul, 1, 0, 0, 0, 0)), (70, (.iadd, 1, 0, 0, 0, 0)), (71, (.iload_n 1, 1, 0, 0, 0, 0)), (72, (.iconst 4, 1, 0, 0, 0, 0)), (73, (.irem, 1, 0, 0, 0, 0)), (74, (.iadd, 1, 0, 0, 0, 0)), (75, (.invokevirtual 247, 3, 226, 2, 9, 0)), (78, (.goto 4, 3, 82, 0, 0, 0)), (81, (.lconst 0, 1, 0, 0, 0, 0)), (82, (.lor, 1, 0, 0, 0, 0)), (83, (.lstore_n 2, 1, 0, 0, 0, 0)), (84, (.iinc 4 1, 3, 0, 0, 0, 0)), (87, (.goto (-48), 3, 39, 0, 0, 0)), (90, (.lload_n 2, 1, 0, 0, 0, 0)), (91, (.lreturn, 1, 0, 0, 0, 0))]
def kk_227 (q : Nat) : Option Ent := lkp k_227 q
def k_228 : List (Nat × Ent) := [(0, (.iload_n 1, 1, 0, 0, 0, 0)), (1, (.invokestatic 251, 3, 180, 1, 9, 0)), (4, (.ifCond .ne 10, 3, 14, 0, 0, 0)), (7, (.aload_n 0, 1, 0, 0, 0, 0)), (8, (.iconst 1, 1, 0, 0, 0, 0)), (9, (.invokevirtual 98, 3, 175, 2, 9, 0)), (12, (.i2l, 1, 0, 0, 0, 0)), (13, (.lreturn, 1, 0, 0, 0, 0)), (14, (.aload_n 0, 1, 0, 0, 0, 0)), (15, (.iconst 0, 1, 0, 0, 0, 0)), (16, (.putfield 84, 3, 0, 9, 0, 0)), (19, (.aload_n 0, 1, 0, 0, 0, 0)), (20, (.iload_n 1, 1, 0, 0, 0, 0)), (21, (.invokevirtual 254, 3, 227, 2, 9, 0)), (24, (.lreturn, 1, 0, 0, 0, 0))]
def kk_228 (q : Nat) : Option Ent := lkp k_228 q
def k_229 : List (Nat × Ent) := [(0, (.iload_n 1, 1, 0, 0, 0, 0)), (1, (.invokestatic 251, 3, 180, 1, 9, 0)), (4, (.ifCond .ne 10, 3, 14, 0, 0, 0)), (7, (.aload_n 0, 1, 0, 0, 0, 0)), (8, (.iconst 1, 1, 0, 0, 0, 0)), (9, (.invokevirtual 98, 3, 175, 2, 9, 0)), (12, (.i2l, 1, 0, 0, 0, 0)), (13, (.lreturn, 1, 0, 0, 0, 0)), (14, (.aload_n 0, 1, 0, 0, 0, 0)), (15, (.invokevirtual 235, 3, 219, 1, 9, 0)), (18, (.iload_n 1, 1, 0, 0, 0, 0)), (19, (.iconst 4, 1, 0, 0, 0, 0)), (20, (.isub, 1, 0, 0, 0, 0)), (21, (.iconst 4, 1, 0, 0, 0, 0)), (22, (.idiv, 1, 0, 0, 0, 0)), (23, (.istore_n 3, 1, 0, 0, 0, 0)), (24, (.iload_n 1, 1, 0, 0, 0, 0)), (25, (.iconst 4, 1, 0, 0, 0, 0)), (26, (.if_icmp .ge 10, 3, 36, 0, 0, 0)), (29, (.iload_n 2, 1, 0, 0, 0, 0)), (30, (.ifCond .eq 28, 3, 58, 0, 0, 0)), (33, (.goto 18, 3, 51, 0, 0, 0)), (36, (.iload_n 2, 1, 0, 0, 0, 0)), (37, (.iconst 0, 1, 0, 0, 0, 0)), (38, (.aload_n 0, 1, 0, 0, 0, 0)), (39, (.iload_n 3, 1, 0, 0, 0, 0)), (40, (.invokevirtual 238, 3, 221, 2, 9, 0)), (43, (.iconst 1, 1, 0, 0, 0, 0)), (44, (.isub, 1, 0, 0, 0, 0)), (45, (.invokestatic 94, 3, 177, 3, 9, 0)), (48, (.ifCond .ne 10, 3, 58, 0, 0, 0)), (51, (.aload_n 0, 1, 0, 0, 0, 0)), (52, (.iconst 1, 1, 0, 0, 0, 0)), (53, (.invokevirtual 98, 3, 175, 2, 9, 0)), (56, (.i2l, 1, 0, 0, 0, 0)), (57, (.lreturn, 1, 0, 0, 0, 0)), (58, (.aload_n 0, 1, 0, 0, 0, 0)), (59, (.iconst 0, 1, 0, 0, 0, 0)), (60, (.putfield 84, 3, 0, 9, 0, 0)), (63, (.aload_n 0, 1, 0, 0, 0, 0)), (64, (.iload_n 1, 1, 0, 0, 0, 0)), (65, (.iconst 4, 1, 0, 0, 0, 0)), (66, (.if_icmp .ge 7, 3, 73, 0, 0, 0)), (69, (.iload_n 1, 1, 0, 0, 0, 0)), (70, (.goto 14, 3, 84, 0, 0, 0)), (73, (.iload_n 1, 1, 0, 0, 0, 0)), (74, (.aload_n 0, 1, 0, 0, 0, 0)), (75, (.iload_n 3, 1, 0, 0, 0, 0)), (76, (.invokevirtual 241, 3, 220, 2, 9, 0)), (79, (.iload_n 2, 1, 0, 0, 0, 0)), (80, (.iadd, 1, 0, 0, 0, 0)), (81, (.invokestatic 196, 3, 211, 2, 9, 0)), (84, (.invokevirtual 247, 3, 226, 2, 9, 0)), (87, (.lreturn, 1, 0, 0, 0, 0))]
def kk_229 (q : Nat) : Option Ent := lkp k_229 q
def k_230 : List (Nat × Ent) := [(0, (.iload_n 1, 1, 0, 0, 0, 0)), (1, (.iconst 0, 1, 0, 0, 0, 0)), (2, (.aload_n 0, 1, 0, 0, 0, 0)), (3, (.invokevirtual 168, 3, 203, 1, 9, 0)), (6, (.iconst 1, 1, 0, 0, 0, 0)), (7, (.isub, 1, 0, 0, 0, 0)), (8, (.invokestatic 94, 3, 177, 3, 9, 0)), (11, (.ifCond .eq 16, 3, 27, 0, 0, 0)), (14, (.iload_n 2, 1, 0, 0, 0, 0)), (15, (.iconst 0, 1, 0, 0, 0, 0)), (16, (.iconst 2, 1, 0, 0, 0, 0)), (17, (.invokestatic 94, 3, 177, 3, 9, 0)), (20, (.ifCond .eq 7, 3, 27, 0, 0, 0)), (23, (.iconst 1, 1, 0, 0, 0, 0)), (24, (.goto 4, 3, 28, 0, 0, 0)), (27, (.iconst 0, 1, 0, 0, 0, 0)), (28, (.ireturn, 1, 1, 0, 0, 0))]
def kk_230 (q : Nat) : Option Ent := lkp k_230 q
def k_231 : List (Nat × Ent) := [(0, (.aload_n 0, 1, 0, 0, 0, 0)), (1, (.iload_n 1, 1, 0, 0, 0, 0)), (2, (.iload_n 2, 1, 0, 0, 0, 0)), (3, (.invokevirtual 257, 3, 230, 3, 9, 0)), (6, (.ifCond .ne 10, 3, 16, 0, 0, 0)), (9, (.aload_n 0, 1, 0, 0, 0, 0)), (10, (.iconst 1, 1, 0, 0, 0, 0)), (11, (.invokevirtual 98, 3, 175, 2, 9, 0)), (14, (.i2l, 1, 0, 0, 0, 0)), (15, (.lreturn, 1, 0, 0, 0, 0)), (16, (.aload_n 0, 1, 0, 0, 0, 0)), (17, (.iconst 0, 1, 0, 0, 0, 0)), (18, (.putfield 84, 3, 0, 9, 0, 0)), (21, (.aload_n 0, 1, 0, 0, 0, 0)), (22, (.bipush 20, 2, 0, 0, 0, 0)), (24, (.iconst 3, 1, 0, 0, 0, 0)), (25, (.iload_n 1, 1, 0, 0, 0, 0)), (26, (.imul, 1, 0, 0, 0, 0)), (27, (.iadd, 1, 0, 0, 0, 0)), (28, (.iload_n 2, 1, 0, 0, 0, 0)), (29, (.iadd, 1, 0, 0, 0, 0)), (30, (.invokevirtual 254, 3, 227, 2, 9, 0)), (33, (.lreturn, 1, 0, 0, 0, 0))]
def kk_231 (q : Nat) : Option Ent := lkp k_231 q
def k_232 : List (Nat × Ent) := [(0, (.aload_n 0, 1, 0, 0, 0, 0)), (1, (.iconst 0, 1, 0, 0, 0, 0)), (2, (.putfield 84, 3, 0, 9, 0, 0)), (5, (.aload_n 0, 1, 0, 0, 0, 0)), (6, (.invokevirtual 235, 3, 219, 1, 9, 0)), (9, (.iconst 0, 1, 0, 0, 0, 0)), (10, (.istore_n 1, 1, 0, 0, 0, 0)), (11, (.iconst 0, 1, 0, 0, 0, 0)), (12, (.istore_n 2, 1, 0, 0, 0, 0)), (13, (.iload_n 2, 1, 0, 0, 0, 0)), (14, (.aload_n 0, 1, 0, 0, 0, 0)), (15, (.getfield 38, 3, 17, 9, 2, 0)), (18, (.arraylength, 1, 0, 0, 0, 0)), (19, (.if_icmp .ge 21, 3, 40, 0, 0, 0)), (22, (.iload_n 1, 1, 0, 0, 0, 0)), (23, (.aload_n 0, 1, 0, 0, 0, 0)), (24, (.getfield 38, 3, 17, 9, 2, 0)), (27, (.iload_n 2, 1, 0, 0, 0, 0)), (28, (.laload, 1, 0, 0, 0, 0)), (29, (.invokestatic 260, 3, 178, 1, 9, 0)), (32, (.iadd, 1, 0, 0, 0, 0)), (33, (.istore_n 1, 1, 0, 0, 0, 0)), (34, (.iinc 2 1, 3, 0, 0, 0, 0)), (37, (.goto (-24), 3, 13, 0, 0, 0)), (40, (.iload_n 1, 1, 0, 0, 0, 0)), (41, (.ireturn, 1, 0, 0, 0, 0))]
def kk_232 (q : Nat) : Option Ent := lkp k_232 q
def k_233 : List (Nat × Ent) := [(0, (.iload_n 1, 1, 0, 0, 0, 0)), (1, (.invokestatic 251, 3, 180, 1, 9, 0)), (4, (.ifCond .eq 10, 3, 14, 0, 0, 0)), (7, (.iload_n 2, 1, 0, 0, 0, 0)), (8, (.invokestatic 251, 3, 180, 1, 9, 0)), (11, (.ifCond .ne 9, 3, 20, 0, 0, 0)), (14, (.aload_n 0, 1, 0, 0, 0, 0)), (15, (.iconst 1, 1, 0, 0, 0, 0)), (16, (.invokevirtual 264, 3, 176, 2, 9, 0)), (19, (.ireturn, 1, 1, 0, 0, 0)), (20, (.aload_n 0, 1, 0, 0, 0, 0)), (21, (.iconst 0, 1, 0, 0, 0, 0)), (22, (.putfield 84, 3, 0, 9, 0, 0)), (25, (.aload_n 0, 1, 0, 0, 0, 0)), (26, (.iload_n 1, 1, 0, 0, 0, 0)), (27, (.invokevirtual 254, 3, 227, 2, 9, 0)), (30, (.aload_n 0, 1, 0, 0, 0, 0)), (31, (.iload_n 2, 1, 0, 0, 0, 0)), (32, (.invokevirtual 254, 3, 227, 2, 9, 0)), (35, (.land, 1, 0, 0, 0, 0)), (36, (.lconst 0, 1, 0, 0, 0, 0)), (37, (.lcmp, 1, 0, 0, 0, 0)), (38, (.ifCond .eq 7, 3, 45, 0, 0, 0)), (41, (.iconst 1, 1, 0, 0, 0, 0)), (42, (.goto 4, 3, 46, 0, 0, 0)), (45, (.iconst 0, 1, 0, 0, 0, 0)), (46, (.ireturn, 1, 1, 0, 0, 0))]
def kk_233 (q : Nat) : Option Ent := lkp k_233 q
def k_234 : List (Nat × Ent) := [(0, (.aload_n 0, 1, 0, 0, 0, 0)), (1, (.iload_n 1, 1, 0, 0, 0, 0)), (2, (.invokevirtual 254, 3, 227, 2, 9, 0)), (5, (.lstore_n 2, 1, 0, 0, 0, 0)), (6, (.lconst 0, 1, 0, 0, 0, 0)), (7, (.lstore 4, 2, 0, 0, 0, 0)), (9, (.lload 4, 2, 0, 0, 0, 0)), (11, (.lload_n 2, 1, 0, 0, 0, 0)), (12, (.lcmp, 1, 0, 0, 0, 0)), (13, (.ifCond .eq 50, 3, 63, 0, 0, 0)), (16, (.lload_n 2, 1, 0, 0, 0, 0)), (17, (.lstore 4, 2, 0, 0, 0, 0)), (19, (.iconst 0, 1, 0, 0, 0, 0)), (20, (.istore 6, 2, 0, 0, 0, 0)), (22, (.iload 6, 2, 0, 0, 0, 0)), (24, (.bipush 44, 2, 0, 0, 0, 0)), (26, (.if_icmp .ge 34, 3, 60, 0, 0, 0)), (29, (.lload_n 2, 1, 0, 0, 0, 0)), (30, (.lload 4, 2, 0, 0, 0, 0)), (32, (.iload 6, 2, 0, 0, 0, 0)), (34, (.lshr, 1, 0, 0, 0, 0)), (35, (.lconst 1, 1, 0, 0, 0, 0)), (36, (.land, 1, 0, 0, 0, 0)), (37, (.lconst 1, 1, 0, 0, 0, 0)), (38, (.lcmp, 1, 0, 0, 0, 0)), (39, (.ifCond .ne 12, 3, 51, 0, 0, 0)), (42, (.aload_n 0, 1, 0, 0, 0, 0)), (43, (.iload 6, 2, 0, 0, 0, 0)), (45, (.invokevirtual 254, 3, 227, 2, 9, 0)), (48, (.goto 4, 3, 52, 0, 0, 0)), (51, (.lconst 0, 1, 0, 0, 0, 0)), (52, (.lor, 1, 0, 0, 0, 0)), (53, (.lstore_n 2, 1, 0, 0, 0, 0)), (54, (.iinc 6 1, 3, 0, 0, 0, 0)), (57, (.goto (-35), 3, 22, 0, 0, 0)), (60, (.goto (-51), 3, 9, 0, 0, 0)), (63, (.lload_n 2, 1, 0, 0, 0, 0)), (64, (.lreturn, 1, 0, 0, 0, 0))]
def kk_234 (q : Nat) : Option Ent := lkp k_234 q
def k_235 : List (Nat × Ent) := [(0, (.iload_n 1, 1, 0, 0, 0, 0)), (1, (.invokestatic 251, 3, 180, 1, 9, 0)), (4, (.ifCond .ne 10, 3, 14, 0, 0, 0)), (7, (.aload_n 0, 1, 0, 0, 0, 0)), (8, (.iconst 1, 1, 0, 0, 0, 0)), (9, (.invokevirtual 98, 3, 175, 2, 9, 0)), (12, (.i2l, 1, 0, 0, 0, 0)), (13, (.lreturn, 1, 0, 0, 0, 0)), (14, (.aload_n 0, 1, 0, 0, 0, 0)), (15, (.iconst 0, 1, 0, 0, 0, 0)), (16, (.putfield 84, 3, 0, 9, 0, 0)), (19, (.aload_n 0, 1, 0, 0, 0, 0)), (20, (.iload_n 1, 1, 0, 0, 0, 0)), (21, (.invokevirtual 267, 3, 234, 2, 9, 0)), (24, (.lreturn, 1, 0, 0, 0, 0))]
def kk_235 (q : Nat) : Option Ent := lkp k_235 q
def k_236 : List (Nat × Ent) := [(0, (.aload_n 0, 1, 0, 0, 0, 0)), (1, (.iconst 0, 1, 0, 0, 0, 0)), (2, (.putfield 84, 3, 0, 9, 0, 0)), (5, (.aload_n 0, 1, 0, 0, 0, 0)), (6, (.iconst 0, 1, 0, 0, 0, 0)), (7, (.invokevirtual 267, 3, 234, 2, 9, 0)), (10, (.aload_n 0, 1, 0, 0, 0, 0)), (11, (.iconst 1, 1, 0, 0, 0, 0)), (12, (.invokevirtual 267, 3, 234, 2, 9, 0)), (15, (.lor, 1, 0, 0, 0, 0)), (16, (.aload_n 0, 1, 0, 0, 0, 0)), (17, (.iconst 2, 1, 0, 0, 0, 0)), (18, (.invokevirtual 267, 3, 234, 2, 9, 0)), (21, (.lor, 1, 0, 0, 0, 0)), (22, (.aload_n 0, 1, 0, 0, 0, 0)), (23, (.iconst 3, 1, 0, 0, 0, 0)), (24, (.invokevirtual 267, 3, 234, 2, 9, 0)), (27, (.lor, 1, 0, 0, 0, 0)), (28, (.lstore_n 1, 1, 0, 0, 0, 0)), (29, (.iconst 0, 1, 0, 0, 0, 0)), (30, (.istore_n 3, 1, 0, 0, 0, 0)), (31, (.iconst 0, 1, 0, 0, 0, 0)), (32, (.istore 4, 2, 0, 0, 0, 0)), (34, (.iload 4, 2, 0, 0, 0, 0)), (36, (.bipush 8, 2, 0, 0, 0, 0)), (38, (.if_icmp .ge 38, 3, 76, 0, 0, 0)), (41, (.iload_n 3, 1, 0, 0, 0, 0)), (42, (.lload_n 1, 1, 0, 0, 0, 0)), (43, (.bipush 20, 2, 0, 0, 0, 0)), (45, (.iconst 3, 1, 0, 0, 0, 0)), (46, (.iload 4, 2, 0, 0, 0, 0)), (48, (.imul, 1, 0, 0, 0, 0)), (49, (.iadd, 1, 0, 0, 0, 0)), (50, (.lshr, 1, 0, 0, 0, 0)), (51, (.ldc2_w 270, 3, 0, 0, 0, 7)), (54, (.land, 1, 0, 0, 0, 0)), (55, (.lconst 0, 1, 0, 0, 0, 0)), (56, (.lcmp, 1, 0, 0, 0, 0)), (57, (.ifCond .eq 10, 3, 67, 0, 0, 0)), (60, (.iconst 1, 1, 0, 0, 0, 0)), (61, (.iload 4, 2, 0, 0, 0, 0)), (63, (.ishl, 1, 0, 0, 0, 0)), (64, (.goto 4, 3, 68, 0, 0, 0)), (67, (.iconst 0, 1, 0, 0, 0, 0)), (68, (.ior, 1, 0, 0, 0, 0)), (69, (.istore_n 3, 1, 0, 0, 0, 0)), (70, (.iinc 4 1, 3, 0, 0, 0, 0)), (73, (.goto (-39), 3, 34, 0, 0, 0)), (76, (.iload_n 3, 1, 0, 0, 0, 0)), (77, (.ireturn, 1, 0, 0, 0, 0))]
def kk_236 (q : Nat) : Option Ent := lkp k_236 q
def k_237 : List (Nat × Ent) := [(0, (.iload_n 1, 1, 0, 0, 0, 0)), (1, (.ifCond .lt 20, 3, 21, 0, 0, 0)), (4, (.iload_n 1, 1, 0, 0, 0, 0)), (5, (.bipush 20, 2, 0, 0, 0, 0)), (7, (.iconst 3, 1, 0, 0, 0, 0)), (8, (.aload_n 0, 1, 0, 0, 0, 0)), (9, (.invokevirtual 168, 3, 203, 1, 9, 0)), (12, (.imul, 1, 0, 0, 0, 0)), (13, (.iadd, 1, 0, 0, 0, 0)), (14, (.if_icmp .ge 7, 3, 21, 0, 0, 0)), (17, (.iconst 1, 1, 0, 0, 0, 0)), (18, (.goto 4, 3, 22, 0, 0, 0)), (21, (.iconst 0, 1, 0, 0, 0, 0)), (22, (.ireturn, 1, 1, 0, 0, 0))]
def kk_237 (q : Nat) : Option Ent := lkp k_237 q
def k_238 : List (Nat × Ent) := [(0, (.aload_n 0, 1, 0, 0, 0, 0)), (1, (.iload_n 1, 1, 0, 0, 0, 0)), (2, (.invokestatic 251, 3, 180, 1, 9, 0)), (5, (.ifCond .eq 11, 3, 16, 0, 0, 0)), (8, (.aload_n 0, 1, 0, 0, 0, 0)), (9, (.iload_n 2, 1, 0, 0, 0, 0)), (10, (.invokevirtual 272, 3, 237, 2, 9, 0)), (13, (.ifCond .ne 7, 3, 20, 0, 0, 0)), (16, (.iconst 1, 1, 0, 0, 0, 0)), (17, (.goto 4, 3, 21, 0, 0, 0)), (20, (.iconst 0, 1, 0, 0, 0, 0)), (21, (.putfield 84, 3, 0, 9, 0, 0)), (24, (.aload_n 0, 1, 0, 0, 0, 0)), (25, (.getfield 84, 3, 0, 9, 0, 0)), (28, (.ifCond .le 5, 3, 33, 0, 0, 0)), (31, (.iconst 0, 1, 0, 0, 0, 0)), (32, (.ireturn, 1, 0, 0, 0, 0)), (33, (.aload_n 0, 1, 0, 0, 0, 0)), (34, (.invokevirtual 235, 3, 219, 1, 9, 0)), (37, (.aload_n 0, 1, 0, 0, 0, 0)), (38, (.aload_n 0, 1, 0, 0, 0, 0)), (39, (.getfield 45, 3, 21, 9, 2, 0)), (42, (.bipush 44, 2, 0, 0, 0, 0)), (44, (.iload_n 1, 1, 0, 0, 0, 0)), (45, (.imul, 1, 0, 0, 0, 0)), (46, (.iload_n 2, 1, 0, 0, 0, 0)), (47, (.iadd, 1, 0, 0, 0, 0)), (48, (.iaload, 1, 0, 0, 0, 0)), (49, (.ifCond .ne 7, 3, 56, 0, 0, 0)), (52, (.iconst 2, 1, 0, 0, 0, 0)), (53, (.goto 4, 3, 57, 0, 0, 0)), (56, (.iconst 0, 1, 0, 0, 0, 0)), (57, (.putfield 84, 3, 0, 9, 0, 0)), (60, (.bipush 44, 2, 0, 0, 0, 0)), (62, (.iload_n 1, 1, 0, 0, 0, 0)), (63, (.imul, 1, 0, 0, 0, 0)), (64, (.iload_n 2, 1, 0, 0, 0, 0)), (65, (.iadd, 1, 0, 0, 0, 0)), (66, (.ireturn, 1, 0, 0, 0, 0))]
def kk_238 (q : Nat) : Option Ent := lkp k_238 q
def k_239 : List (Nat × Ent) := [(0, (.aload_n 0, 1, 0, 0, 0, 0)), (1, (.iload_n 1, 1, 0, 0, 0, 0)), (2, (.iload_n 2, 1, 0, 0, 0, 0)), (3, (.invokevirtual 275, 3, 238, 3, 9, 0)), (6, (.istore_n 3, 1, 0, 0, 0, 0)), (7, (.aload_n 0, 1, 0, 0, 0, 0)), (8, (.getfield 84, 3, 0, 9, 0, 0)), (11, (.ifCond .le 7, 3, 18, 0, 0, 0)), (14, (.iconst 0, 1, 0, 0, 0, 0)), (15, (.goto 9, 3, 24, 0, 0, 0)), (18, (.aload_n 0, 1, 0, 0, 0, 0)), (19, (.getfield 45, 3, 21, 9, 2, 0)), (22, (.iload_n 3, 1, 0, 0, 0, 0)), (23, (.iaload, 1, 0, 0, 0, 0)), (24, (.ireturn, 1, 0, 0, 0, 0))]
def kk_239 (q : Nat) : Option Ent := lkp k_239 q
def k_240 : List (Nat × Ent) := [(0, (.aload_n 0, 1, 0, 0, 0, 0)), (1, (.iload_n 1, 1, 0, 0, 0, 0)), (2, (.iload_n 2, 1, 0, 0, 0, 0)), (3, (.invokevirtual 275, 3, 238, 3, 9, 0)), (6, (.istore_n 3, 1, 0, 0, 0, 0)), (7, (.aload_n 0, 1, 0, 0, 0, 0)), (8, (.getfield 84, 3, 0, 9, 0, 0)), (11, (.ifCond .le 7, 3, 18, 0, 0, 0)), (14, (.iconst 0, 1, 0, 0, 0, 0)), (15, (.goto 9, 3, 24, 0, 0, 0)), (18, (.aload_n 0, 1, 0, 0, 0, 0)), (19, (.getfield 48, 3, 22, 9, 2, 0)), (22, (.iload_n 3, 1, 0, 0, 0, 0)), (23, (.iaload, 1, 0, 0, 0, 0)), (24, (.ireturn, 1, 0, 0, 0, 0))]
def kk_240 (q : Nat) : Option Ent := lkp k_240 q
def k_241 : List (Nat × Ent) := [(0, (.aload_n 0, 1, 0, 0, 0, 0)), (1, (.iconst 0, 1, 0, 0, 0, 0)), (2, (.putfield 84, 3, 0, 9, 0, 0)), (5, (.aload_n 0, 1, 0, 0, 0, 0)), (6, (.invokevirtual 235, 3, 219, 1, 9, 0)), (9, (.aload_n 0, 1, 0, 0, 0, 0)), (10, (.getfield 219, 3, 23, 9, 0, 0)), (13, (.ireturn, 1, 0, 0, 0, 0))]
def kk_241 (q : Nat) : Option Ent := lkp k_241 q
def k_242 : List (Nat × Ent) := [(0, (.iload_n 1, 1, 0, 0, 0, 0)), (1, (.istore_n 2, 1, 0, 0, 0, 0)), (2, (.aload_n 0, 1, 0, 0, 0, 0)), (3, (.getfield 51, 3, 24, 9, 2, 0)), (6, (.iload_n 2, 1, 0, 0, 0, 0)), (7, (.iaload, 1, 0, 0, 0, 0)), (8, (.iload_n 2, 1, 0, 0, 0, 0)), (9, (.if_icmp .eq 13, 3, 22, 0, 0, 0)), (12, (.aload_n 0, 1, 0, 0, 0, 0)), (13, (.getfield 51, 3, 24, 9, 2, 0)), (16, (.iload_n 2, 1, 0, 0, 0, 0)), (17, (.iaload, 1, 0, 0, 0, 0)), (18, (.istore_n 2, 1, 0, 0, 0, 0)), (19, (.goto (-17), 3, 2, 0, 0, 0)), (22, (.iload_n 2, 1, 0, 0, 0, 0)), (23, (.ireturn, 1, 0, 0, 0, 0))]
def kk_242 (q : Nat) : Option Ent := lkp k_242 q
def k_243 : List (Nat × Ent) := [(0, (.aload_n 0, 1, 0, 0, 0, 0)), (1, (.getfield 51, 3, 24, 9, 2, 0)), (4, (.aload_n 0, 1, 0, 0, 0, 0)), (5, (.getfield 278, 3, 28, 9, 0, 0)), (8, (.aload_n 0, 1, 0, 0, 0, 0)), (9, (.getfield 278, 3, 28, 9, 0, 0)), (12, (.iastore, 1, 0, 0, 0, 0)), (13, (.aload_n 0, 1, 0, 0, 0, 0)), (14, (.getfield 54, 3, 25, 9, 2, 0)), (17, (.aload_n 0, 1, 0, 0, 0, 0)), (18, (.getfield 278, 3, 28, 9, 0, 0)), (21, (.iconst (-1), 1, 0, 0, 0, 0)), (22, (.iastore, 1, 0, 0, 0, 0)), (23, (.aload_n 0, 1, 0, 0, 0, 0)), (24, (.dup, 1, 0, 0, 0, 0)), (25, (.getfield 278, 3, 28, 9, 0, 0)), (28, (.iconst 1, 1, 0, 0, 0, 0)), (29, (.iadd, 1, 0, 0, 0, 0)), (30, (.putfield 278, 3, 28, 9, 0, 0)), (33, (.aload_n 0, 1, 0, 0, 0, 0)), (34, (.getfield 278, 3, 28, 9, 0, 0)), (37, (.iconst 1, 1, 0, 0, 0, 0)), (38, (.isub, 1, 0, 0, 0, 0)), (39, (.ireturn, 1, 0, 0, 0, 0))]
def kk_243 (q : Nat) : Option Ent := lkp k_243 q
def k_244 : List (Nat × Ent) := [(0, (.aload_n 0, 1, 0, 0, 0, 0)), (1, (.iload_n 1, 1, 0, 0, 0, 0)), (2, (.invokevirtual 281, 3, 242, 2, 9, 0)), (5, (.istore_n 2, 1, 0, 0, 0, 0)), (6, (.aload_n 0, 1, 0, 0, 0, 0)), (7, (.getfield 54, 3, 25, 9, 2, 0)), (10, (.iload_n 2, 1, 0, 0, 0, 0)), (11, (.iaload, 1, 0, 0, 0, 0)), (12, (.ifCond .ge 13, 3, 25, 0, 0, 0)), (15, (.aload_n 0, 1, 0, 0, 0, 0)), (16, (.getfield 54, 3, 25, 9, 2, 0)), (19, (.iload_n 2, 1, 0, 0, 0, 0)), (20, (.aload_n 0, 1, 0, 0, 0, 0)), (21, (.invokevirtual 284, 3, 243, 1, 9, 0)), (24, (.iastore, 1, 0, 0, 0, 0)), (25, (.aload_n 0, 1, 0, 0, 0, 0)), (26, (.getfield 54, 3, 25, 9, 2, 0)), (29, (.iload_n 2, 1, 0, 0, 0, 0)), (30, (.iaload, 1, 0, 0, 0, 0)), (31, (.ireturn, 1, 0, 0, 0, 0))]
def kk_244 (q : Nat) : Option Ent := lkp k_244 q
def k_245 : List (Nat × Ent) := [(0, (.aload_n 0, 1, 0, 0, 0, 0)), (1, (.iconst 1, 1, 0, 0, 0, 0)), (2, (.putfield 287, 3, 29, 9, 0, 0)), (5, (.aload_n 0, 1, 0, 0, 0, 0)), (6, (.getfield 57, 3, 26, 9, 2, 0)), (9, (.iconst 0, 1, 0, 0, 0, 0)), (10, (.iload_n 1, 1, 0, 0, 0, 0)), (11, (.iastore, 1, 0, 0, 0, 0)), (12, (.aload_n 0, 1, 0, 0, 0, 0)), (13, (.getfield 60, 3, 27, 9, 2, 0)), (16, (.iconst 0, 1, 0, 0, 0, 0)), (17, (.iload_n 2, 1, 0, 0, 0, 0)), (18, (.iastore, 1, 0, 0, 0, 0)), (19, (.aload_n 0, 1, 0, 0, 0, 0)), (20, (.getfield 287, 3, 29, 9, 0, 0)), (23, (.ifCond .le 138, 3, 161, 0, 0, 0)), (26, (.aload_n 0, 1, 0, 0, 0, 0)), (27, (.dup, 1, 0, 0, 0, 0)), (28, (.getfield 287, 3, 29, 9, 0, 0)), (31, (.iconst 1, 1, 0, 0, 0, 0)), (32, (.isub, 1, 0, 0, 0, 0)), (33, (.putfield 287, 3, 29, 9, 0, 0)), (36, (.aload_n 0, 1, 0, 0, 0, 0)), (37, (.aload_n 0, 1, 0, 0, 0, 0)), (38, (.getfield 57, 3, 26, 9, 2, 0)), (41, (.aload_n 0, 1, 0, 0, 0, 0)), (42, (.getfield 287, 3, 29, 9, 0, 0)), (45, (.iaload, 1, 0, 0, 0, 0)), (46, (.invokevirtual 281, 3, 242, 2, 9, 0)), (49, (.istore_n 3, 1, 0, 0, 0, 0)), (50, (.aload_n 0, 1, 0, 0, 0, 0)), (51, (.aload_n 0, 1, 0, 0, 0, 0)), (52, (.getfield 60, 3, 27, 9, 2, 0)), (55, (.aload_n 0, 1, 0, 0, 0, 0)), (56, (.getfield 287, 3, 29, 9, 0, 0)), (59, (.iaload, 1, 0, 0, 0, 0)), (60, (.invokevirtual 281, 3, 242, 2, 9, 0)), (63, (.istore 4, 2, 0, 0, 0, 0)), (65, (.iload_n 3, 1, 0, 0, 0, 0)), (66, (.iload 4, 2, 0, 0, 0, 0)), (68, (.if_icmp .ne 6, 3, 74, 0, 0, 0)), (71, (.goto (-52), 3, 19, 0, 0, 0)), (74, (.aload_n 0, 1, 0, 0, 0, 0)), (75, (.getfield 51, 3, 24, 9, 2, 0)), (78, (.iload 4, 2, 0, 0, 0, 0)), (80, (.iload_n 3, 1, 0, 0, 0, 0)), (81, (.iastore, 1, 0, 0, 0, 0)), (82, (.aload_n 0, 1, 0, 0, 0, 0)), (83, (.getfield 54, 3, 25, 9, 2, 0)), (86, (.iload_n 3, 1, 0, 0, 0, 0)), (87, (.iaload, 1, 0, 0, 0, 0)), (88, (.ifCond .ge 19, 3, 107, 0, 0, 0)), (91, (.aload_n 0, 1, 0, 0, 0, 0)), (92, (.getfield 54, 3, 25, 9, 2, 0)), (95, (.iload_n 3, 1, 0, 0, 0, 0)), (96, (.aload_n 0, 1, 0, 0, 0, 0)), (97, (.getfield 54, 3, 25, 9, 2, 0)), (100, (.iload 4, 2, 0, 0, 0, 0)), (102, (.iaload, 1, 0, 0, 0, 0)), (103, (.iastore, 1, 0, 0, 0, 0)), (104, (.goto 54, 3, 158, 0, 0, 0)), (107, (.aload_n 0, 1, 0, 0, 0, 0)), (108, (.getfield 54, 3, 25, 9, 2, 0)), (111, (.iload 4, 2, 0, 0, 0, 0)), (113, (.iaload, 1, 0, 0, 0, 0)), (114, (.ifCond .lt 44, 3, 158, 0, 0, 0)), (117, (.aload_n 0, 1, 0, 0, 0, 0)), (118, (.getfield 57, 3, 26, 9, 2, 0)), (121, (.aload_n 0, 1, 0, 0, 0, 0)), (122, (.getfield 287, 3, 29, 9, 0, 0)), (125, (.aload_n 0, 1, 0, 0, 0, 0)), (126, (.getfield 54, 3, 25, 9, 2, 0)), (129, (.iload_n 3, 1, 0, 0, 0, 0)), (130, (.iaload, 1, 0, 0, 0, 0)), (131, (.iastore, 1, 0, 0, 0, 0)), (132, (.aload_n 0, 1, 0, 0, 0, 0)), (133, (.getfield 60, 3, 27, 9, 2, 0)), (136, (.aload_n 0, 1, 0, 0, 0, 0)), (137, (.getfield 287, 3, 29, 9, 0, 0)), (140, (.aload_n 0, 1, 0, 0, 0, 0)), (141, (.getfield 54, 3, 25, 9, 2, 0)), (144, (.iload 4, 2, 0, 0, 0, 0)), (146, (.iaload, 1, 0, 0, 0, 0)), (147, (.iastore, 1, 0, 0, 0, 0)), (148, (.aload_n 0, 1, 0, 0, 0, 0)), (149, (.dup, 1, 0, 0, 0, 0)), (150, (.getfield 287, 3, 29, 9, 0, 0)), (153, (.iconst 1, 1, 0, 0, 0, 0)), (154, (.iadd, 1, 0, 0, 0, 0)), (155, (.putfield 287, 3, 29, 9, 0, 0)), (158, (.goto (-139), 3, 19, 0, 0, 0)), (161, (.return_, 1, 0, 0, 0, 0))]
def kk_245 (q : Nat) : Option Ent := lkp k_245 q
def k_246 : List (Nat × Ent) := [(0, (.aload_n 0, 1, 0, 0, 0, 0)), (1, (.getfield 13, 3, 2, 9, 2, 0)), (4, (.iload_n 1, 1, 0, 0, 0, 0)), (5, (.iaload, 1, 0, 0, 0, 0)), (6, (.istore_n 2, 1, 0, 0, 0, 0)), (7, (.aload_n 0, 1, 0, 0, 0, 0)), (8, (.getfield 16, 3, 3, 9, 2, 0)), (11, (.iload_n 1, 1, 0, 0, 0, 0)), (12, (.iaload, 1, 0, 0, 0, 0)), (13, (.istore_n 3, 1, 0, 0, 0, 0)), (14, (.aload_n 0, 1, 0, 0, 0, 0)), (15, (.getfield 19, 3, 4, 9, 2, 0)), (18, (.iload_n 1, 1, 0, 0, 0, 0)), (19, (.iaload, 1, 0, 0, 0, 0)), (20, (.istore 4, 2, 0, 0, 0, 0)), (22, (.aload_n 0, 1, 0, 0, 0, 0)), (23, (.getfield 7, 3, 1, 9, 2, 0)), (26, (.iload_n 1, 1, 0, 0, 0, 0)), (27, (.iaload, 1, 0, 0, 0, 0)), (28, (.tableswitch 162 0 6 #[44, 162, 57, 78, 99, 162, 119], 44, 0, 0, 0, 0)), (72, (.aload_n 0, 1, 0, 0, 0, 0)), (73, (.aload_n 0, 1, 0, 0, 0, 0)), (74, (.iload_n 2, 1, 0, 0, 0, 0)), (75, (.invokevirtual 290, 3, 244, 2, 9, 0)), (78, (.iload_n 3, 1, 0, 0, 0, 0)), (79, (.invokevirtual 293, 3, 245, 3, 9, 0)), (82, (.goto 122, 3, 204, 0, 0, 0)), (85, (.aload_n 0, 1, 0, 0, 0, 0)), (86, (.aload_n 0, 1, 0, 0, 0, 0)), (87, (.iload_n 2, 1, 0, 0, 0, 0)), (88, (.invokevirtual 290, 3, 244, 2, 9, 0)), (91, (.aload_n 0, 1, 0, 0, 0, 0)), (92, (.aload_n 0, 1, 0, 0, 0, 0)), (93, (.iload_n 3, 1, 0, 0, 0, 0)), (94, (.invokevirtual 290, 3, 244, 2, 9, 0)), (97, (.invokevirtual 290, 3, 244, 2, 9, 0)), (100, (.invokevirtual 293, 3, 245, 3, 9, 0)), (103, (.goto 101, 3, 204, 0, 0, 0)), (106, (.aload_n 0, 1, 0, 0, 0, 0)), (107, (.aload_n 0, 1, 0, 0, 0, 0)), (108, (.aload_n 0, 1, 0, 0, 0, 0)), (109, (.iload_n 2, 1, 0, 0, 0, 0)), (110, (.invokevirtual 290, 3, 244, 2, 9, 0)), (113, (.invokevirtual 290, 3, 244, 2, 9, 0)), (116, (.aload_n 0, 1, 0, 0, 0, 0)), (117, (.iload_n 3, 1, 0, 0, 0, 0)), (118, (.invokevirtual 290, 3, 244, 2, 9, 0)), (121, (.invokevirtual 293, 3, 245, 3, 9, 0)), (124, (.goto 80, 3, 204, 0, 0, 0)), (127, (.aload_n 0, 1, 0, 0, 0, 0)), (128, (.aload_n 0, 1, 0, 0, 0, 0)), (129, (.iload_n 2, 1, 0, 0, 0, 0)), (130, (.invokevirtual 290, 3, 244, 2, 9, 0)), (133, (.bipush 20, 2, 0, 0, 0, 0)), (135, (.aload_n 0, 1, 0, 0, 0, 0)), (136, (.iload_n 1, 1, 0, 0, 0, 0)), (137, (.invokevirtual 206, 3, 185, 2, 9, 0)), (140, (.iadd, 1, 0, 0, 0, 0)), (141, (.invokevirtual 293, 3, 245, 3, 9, 0)), (144, (.goto 60, 3, 204, 0, 0, 0)), (147, (.aload_n 0, 1, 0, 0, 0, 0)), (148, (.aload_n 0, 1, 0, 0, 0, 0)), (149, (.iconst 4, 1, 0, 0, 0, 0)), (150, (.iconst 4, 1, 0, 0, 0, 0)), (151, (.iload 4, 2, 0, 0, 0, 0)), (153, (.imul, 1, 0, 0, 0, 0)), (154, (.iadd, 1, 0, 0, 0, 0)), (155, (.invokevirtual 290, 3, 244, 2, 9, 0)), (158, (.aload_n 0, 1, 0, 0, 0, 0)), (159, (.iload_n 3, 1, 0, 0, 0, 0)), (160, (.invokevirtual 290, 3, 244, 2, 9, 0)), (163, (.invokevirtual 293, 3, 245, 3, 9, 0)), (166, (.aload_n 0, 1, 0, 0, 0, 0)), (167, (.aload_n 0, 1, 0, 0, 0, 0)), (168, (.iload_n 2, 1, 0, 0, 0, 0)), (169, (.invokevirtual 290, 3, 244, 2, 9, 0)), (172, (.aload_n 0, 1, 0, 0, 0, 0)), (173, (.iconst 4, 1, 0, 0, 0, 0)), (174, (.iconst 4, 1, 0, 0, 0, 0)), (175, (.iload 4, 2, 0, 0, 0, 0)), (177, (.imul, 1, 0, 0, 0, 0)), (178, (.iadd, 1, 0, 0, 0, 0)), (179, (.iconst 1, 1, 0, 0, 0, 0)), (180, (.iadd, 1, 0, 0, 0, 0)), (181, (.invokevirtual 290, 3, 244, 2, 9, 0)), (184, (.invokevirtual 293, 3, 245, 3, 9, 0)), (187, (.goto 17, 3, 204, 0, 0, 0)), (190, (.aload_n 0, 1, 0, 0, 0, 0)), (191, (.aload_n 0, 1, 0, 0, 0, 0)), (192, (.iload_n 2, 1, 0, 0, 0, 0)), (193, (.invokevirtual 290, 3, 244, 2, 9, 0)), (196, (.aload_n 0, 1, 0, 0, 0, 0)), (197, (.iload_n 3, 1, 0, 0, 0, 0)), (198, (.invokevirtual 290, 3, 244, 2, 9, 0)), (201, (.invokevirtual 293, 3, 245, 3, 9, 0)), (204, (.return_, 1, 0, 0, 0, 0))]
def kk_246 (q : Nat) : Option Ent := lkp k_246 q
def k_247 : List (Nat × Ent) := [(0, (.aload_n 0, 1, 0, 0, 0, 0)), (1, (.iconst 0, 1, 0, 0, 0, 0)), (2, (.putfield 278, 3, 28, 9, 0, 0)), (5, (.iconst 0, 1, 0, 0, 0, 0)), (6, (.istore_n 1, 1, 0, 0, 0, 0)), (7, (.iload_n 1, 1, 0, 0, 0, 0)), (8, (.bipush 28, 2, 0, 0, 0, 0)), (10, (.if_icmp .ge 14, 3, 24, 0, 0, 0)), (13, (.aload_n 0, 1, 0, 0, 0, 0)), (14, (.invokevirtual 284, 3, 243, 1, 9, 0)), (17, (.pop, 1, 0, 0, 0, 0)), (18, (.iinc 1 1, 3, 0, 0, 0, 0)), (21, (.goto (-14), 3, 7, 0, 0, 0)), (24, (.iconst 0, 1, 0, 0, 0, 0)), (25, (.istore_n 1, 1, 0, 0, 0, 0)), (26, (.iload_n 1, 1, 0, 0, 0, 0)), (27, (.bipush 20, 2, 0, 0, 0, 0)), (29, (.if_icmp .ge 15, 3, 44, 0, 0, 0)), (32, (.aload_n 0, 1, 0, 0, 0, 0)), (33, (.iload_n 1, 1, 0, 0, 0, 0)), (34, (.invokevirtual 290, 3, 244, 2, 9, 0)), (37, (.pop, 1, 0, 0, 0, 0)), (38, (.iinc 1 1, 3, 0, 0, 0, 0)), (41, (.goto (-15), 3, 26, 0, 0, 0)), (44, (.iconst 0, 1, 0, 0, 0, 0)), (45, (.istore_n 1, 1, 0, 0, 0, 0)), (46, (.iload_n 1, 1, 0, 0, 0, 0)), (47, (.aload_n 0, 1, 0, 0, 0, 0)), (48, (.invokevirtual 162, 3, 181, 1, 9, 0)), (51, (.if_icmp .ge 18, 3, 69, 0, 0, 0)), (54, (.aload_n 0, 1, 0, 0, 0, 0)), (55, (.aload_n 0, 1, 0, 0, 0, 0)), (56, (.iload_n 1, 1, 0, 0, 0, 0)), (57, (.invokevirtual 91, 3, 182, 2, 9, 0)), (60, (.invokevirtual 296, 3, 246, 2, 9, 0)), (63, (.iinc 1 1, 3, 0, 0, 0, 0)), (66, (.goto (-20), 3, 46, 0, 0, 0)), (69, (.return_, 1, 0, 0, 0, 0))]
def kk_247 (q : Nat) : Option Ent := lkp k_247 q
def k_248 : List (Nat × Ent) := [(0, (.aload_n 0, 1, 0, 0, 0, 0)), (1, (.invokevirtual 235, 3, 219, 1, 9, 0)), (4, (.aload_n 0, 1, 0, 0, 0, 0)), (5, (.aload_n 0, 1, 0, 0, 0, 0)), (6, (.iload_n 1, 1, 0, 0, 0, 0)), (7, (.invokevirtual 290, 3, 244, 2, 9, 0)), (10, (.invokevirtual 281, 3, 242, 2, 9, 0)), (13, (.istore_n 2, 1, 0, 0, 0, 0)), (14, (.lconst 0, 1, 0, 0, 0, 0)), (15, (.lstore_n 3, 1, 0, 0, 0, 0)), (16, (.iconst 0, 1, 0, 0, 0, 0)), (17, (.istore 5, 2, 0, 0, 0, 0)), (19, (.iload 5, 2, 0, 0, 0, 0)), (21, (.bipush 20, 2, 0, 0, 0, 0)), (23, (.if_icmp .ge 30, 3, 53, 0, 0, 0)), (26, (.lload_n 3, 1, 0, 0, 0, 0)), (27, (.aload_n 0, 1, 0, 0, 0, 0)), (28, (.iload 5, 2, 0, 0, 0, 0)), (30, (.invokevirtual 281, 3, 242, 2, 9, 0)), (33, (.iload_n 2, 1, 0, 0, 0, 0)), (34, (.if_icmp .ne 10, 3, 44, 0, 0, 0)), (37, (.lconst 1, 1, 0, 0, 0, 0)), (38, (.iload 5, 2, 0, 0, 0, 0)), (40, (.lshl, 1, 0, 0, 0, 0)), (41, (.goto 4, 3, 45, 0, 0, 0)), (44, (.lconst 0, 1, 0, 0, 0, 0)), (45, (.lor, 1, 0, 0, 0, 0)), (46, (.lstore_n 3, 1, 0, 0, 0, 0)), (47, (.iinc 5 1, 3, 0, 0, 0, 0)), (50, (.goto (-31), 3, 19, 0, 0, 0)), (53, (.iconst 0, 1, 0, 0, 0, 0)), (54, (.istore 5, 2, 0, 0, 0, 0)), (56, (.iload 5, 2, 0, 0, 0, 0)), (58, (.aload_n 0, 1, 0, 0, 0, 0)), (59, (.invokevirtual 168, 3, 203, 1, 9, 0)), (62, (.if_icmp .ge 40, 3, 102, 0, 0, 0)), (65, (.lload_n 3, 1, 0, 0, 0, 0)), (66, (.aload_n 0, 1, 0, 0, 0, 0)), (67, (.bipush 20, 2, 0, 0, 0, 0)), (69, (.iload 5, 2, 0, 0, 0, 0)), (71, (.iadd, 1, 0, 0, 0, 0)), (72, (.invokevirtual 281, 3, 242, 2, 9, 0)), (75, (.iload_n 2, 1, 0, 0, 0, 0)), (76, (.if_icmp .ne 17, 3, 93, 0, 0, 0)), (79, (.ldc2_w 270, 3, 0, 0, 0, 7)), (82, (.bipush 20, 2, 0, 0, 0, 0)), (84, (.iconst 3, 1, 0, 0, 0, 0)), (85, (.iload 5, 2, 0, 0, 0, 0)), (87, (.imul, 1, 0, 0, 0, 0)), (88, (.iadd, 1, 0, 0, 0, 0)), (89, (.lshl, 1, 0, 0, 0, 0)), (90, (.goto 4, 3, 94, 0, 0, 0)), (93, (.lconst 0, 1, 0, 0, 0, 0)), (94, (.lor, 1, 0, 0, 0, 0)), (95, (.lstore_n 3, 1, 0, 0, 0, 0)), (96, (.iinc 5 1, 3, 0, 0, 0, 0)), (99, (.goto (-43), 3, 56, 0, 0, 0)), (102, (.lload_n 3, 1, 0, 0, 0, 0)), (103, (.lreturn, 1, 0, 0, 0, 0))]
def kk_248 (q : Nat) : Option Ent := lkp k_248 q
def k_249 : List (Nat × Ent) := [(0, (.iload_n 1, 1, 0, 0, 0, 0)), (1, (.invokestatic 251, 3, 180, 1, 9, 0)), (4, (.ifCond .ne 10, 3, 14, 0, 0, 0)), (7, (.aload_n 0, 1, 0, 0, 0, 0)), (8, (.iconst 1, 1, 0, 0, 0, 0)), (9, (.invokevirtual 98, 3, 175, 2, 9, 0)), (12, (.i2l, 1, 0, 0, 0, 0)), (13, (.lreturn, 1, 0, 0, 0, 0)), (14, (.aload_n 0, 1, 0, 0, 0, 0)), (15, (.iconst 0, 1, 0, 0, 0, 0)), (16, (.putfield 84, 3, 0, 9, 0, 0)), (19, (.aload_n 0, 1, 0, 0, 0, 0)), (20, (.iload_n 1, 1, 0, 0, 0, 0)), (21, (.invokevirtual 299, 3, 248, 2, 9, 0)), (24, (.lreturn, 1, 0, 0, 0, 0))]
def kk_249 (q : Nat) : Option Ent := lkp k_249 q
def k_250 : List (Nat × Ent) := [(0, (.iload_n 1, 1, 0, 0, 0, 0)), (1, (.invokestatic 251, 3, 180, 1, 9, 0)), (4, (.ifCond .eq 10, 3, 14, 0, 0, 0)), (7, (.iload_n 2, 1, 0, 0, 0, 0)), (8, (.invokestatic 251, 3, 180, 1, 9, 0)), (11, (.ifCond .ne 9, 3, 20, 0, 0, 0)), (14, (.aload_n 0, 1, 0, 0, 0, 0)), (15, (.iconst 1, 1, 0, 0, 0, 0)), (16, (.invokevirtual 264, 3, 176, 2, 9, 0)), (19, (.ireturn, 1, 1, 0, 0, 0)), (20, (.aload_n 0, 1, 0, 0, 0, 0)), (21, (.iconst 0, 1, 0, 0, 0, 0)), (22, (.putfield 84, 3, 0, 9, 0, 0)), (25, (.aload_n 0, 1, 0, 0, 0, 0)), (26, (.invokevirtual 235, 3, 219, 1, 9, 0)), (29, (.aload_n 0, 1, 0, 0, 0, 0)), (30, (.iload_n 1, 1, 0, 0, 0, 0)), (31, (.invokevirtual 281, 3, 242, 2, 9, 0)), (34, (.aload_n 0, 1, 0, 0, 0, 0)), (35, (.iload_n 2, 1, 0, 0, 0, 0)), (36, (.invokevirtual 281, 3, 242, 2, 9, 0)), (39, (.if_icmp .ne 7, 3, 46, 0, 0, 0)), (42, (.iconst 1, 1, 0, 0, 0, 0)), (43, (.goto 4, 3, 47, 0, 0, 0)), (46, (.iconst 0, 1, 0, 0, 0, 0)), (47, (.ireturn, 1, 1, 0, 0, 0))]
def kk_250 (q : Nat) : Option Ent := lkp k_250 q
def k_251 : List (Nat × Ent) := [(0, (.aload_n 0, 1, 0, 0, 0, 0)), (1, (.iconst 0, 1, 0, 0, 0, 0)), (2, (.putfield 84, 3, 0, 9, 0, 0)), (5, (.aload_n 0, 1, 0, 0, 0, 0)), (6, (.invokevirtual 235, 3, 219, 1, 9, 0)), (9, (.iconst 0, 1, 0, 0, 0, 0)), (10, (.istore_n 1, 1, 0, 0, 0, 0)), (11, (.iconst 0, 1, 0, 0, 0, 0)), (12, (.istore_n 2, 1, 0, 0, 0, 0)), (13, (.iload_n 2, 1, 0, 0, 0, 0)), (14, (.bipush 20, 2, 0, 0, 0, 0)), (16, (.aload_n 0, 1, 0, 0, 0, 0)), (17, (.invokevirtual 168, 3, 203, 1, 9, 0)), (20, (.iadd, 1, 0, 0, 0, 0)), (21, (.if_icmp .ge 62, 3, 83, 0, 0, 0)), (24, (.iconst 1, 1, 0, 0, 0, 0)), (25, (.istore_n 3, 1, 0, 0, 0, 0)), (26, (.iconst 0, 1, 0, 0, 0, 0)), (27, (.istore 4, 2, 0, 0, 0, 0)), (29, (.iload 4, 2, 0, 0, 0, 0)), (31, (.iload_n 2, 1, 0, 0, 0, 0)), (32, (.if_icmp .ge 33, 3, 65, 0, 0, 0)), (35, (.iload_n 3, 1, 0, 0, 0, 0)), (36, (.ifCond .eq 21, 3, 57, 0, 0, 0)), (39, (.aload_n 0, 1, 0, 0, 0, 0)), (40, (.iload 4, 2, 0, 0, 0, 0)), (42, (.invokevirtual 281, 3, 242, 2, 9, 0)), (45, (.aload_n 0, 1, 0, 0, 0, 0)), (46, (.iload_n 2, 1, 0, 0, 0, 0)), (47, (.invokevirtual 281, 3, 242, 2, 9, 0)), (50, (.if_icmp .eq 7, 3, 57, 0, 0, 0)), (53, (.iconst 1, 1, 0, 0, 0, 0)), (54, (.goto 4, 3, 58, 0, 0, 0)), (57, (.iconst 0, 1, 0, 0, 0, 0)), (58, (.istore_n 3, 1, 0, 0, 0, 0)), (59, (.iinc 4 1, 3, 0, 0, 0, 0)), (62, (.goto (-33), 3, 29, 0, 0, 0)), (65, (.iload_n 1, 1, 0, 0, 0, 0)), (66, (.iload_n 3, 1, 0, 0, 0, 0)), (67, (.ifCond .eq 7, 3, 74, 0, 0, 0)), (70, (.iconst 1, 1, 0, 0, 0, 0)), (71, (.goto 4, 3, 75, 0, 0, 0)), (74, (.iconst 0, 1, 0, 0, 0, 0)), (75, (.iadd, 1, 0, 0, 0, 0)), (76, (.istore_n 1, 1, 0, 0, 0, 0)), (77, (.iinc 2 1, 3, 0, 0, 0, 0)), (80, (.goto (-67), 3, 13, 0, 0, 0)), (83, (.iload_n 1, 1, 0, 0, 0, 0)), (84, (.ireturn, 1, 0, 0, 0, 0))]
def kk_251 (q : Nat) : Option Ent := lkp k_251 q
def k_252 : List (Nat × Ent) := [(0, (.iconst 0, 1, 0, 0, 0, 0)), (1, (.istore_n 2, 1, 0, 0, 0, 0)), (2, (.iconst (-1), 1, 0, 0, 0, 0)), (3, (.istore_n 3, 1, 0, 0, 0, 0)), (4, (.iload_n 3, 1, 0, 0, 0, 0)), (5, (.iload_n 2, 1, 0, 0, 0, 0)), (6, (.if_icmp .eq 96, 3, 102, 0, 0, 0)), (9, (.iload_n 2, 1, 0, 0, 0, 0)), (10, (.istore_n 3, 1, 0, 0, 0, 0)), (11, (.iconst 0, 1, 0, 0, 0, 0)), (12, (.istore 4, 2, 0, 0, 0, 0)), (14, (.iload 4, 2, 0, 0, 0, 0)), (16, (.iconst 4, 1, 0, 0, 0, 0)), (17, (.if_icmp .ge 82, 3, 99, 0, 0, 0)), (20, (.iconst 0, 1, 0, 0, 0, 0)), (21, (.istore 5, 2, 0, 0, 0, 0)), (23, (.iload 5, 2, 0, 0, 0, 0)), (25, (.aload_n 0, 1, 0, 0, 0, 0)), (26, (.getfield 22, 3, 5, 9, 2, 0)), (29, (.iload 4, 2, 0, 0, 0, 0)), (31, (.iaload, 1, 0, 0, 0, 0)), (32, (.if_icmp .ge 61, 3, 93, 0, 0, 0)), (35, (.iload 4, 2, 0, 0, 0, 0)), (37, (.iload_n 1, 1, 0, 0, 0, 0)), (38, (.if_icmp .eq 13, 3, 51, 0, 0, 0)), (41, (.iload_n 2, 1, 0, 0, 0, 0)), (42, (.iload 4, 2, 0, 0, 0, 0)), (44, (.ishr, 1, 0, 0, 0, 0)), (45, (.iconst 1, 1, 0, 0, 0, 0)), (46, (.iand, 1, 0, 0, 0, 0)), (47, (.iconst 1, 1, 0, 0, 0, 0)), (48, (.if_icmp .ne 39, 3, 87, 0, 0, 0)), (51, (.aload_n 0, 1, 0, 0, 0, 0)), (52, (.getfield 7, 3, 1, 9, 2, 0)), (55, (.bipush 12, 2, 0, 0, 0, 0)), (57, (.iload 4, 2, 0, 0, 0, 0)), (59, (.imul, 1, 0, 0, 0, 0)), (60, (.iload 5, 2, 0, 0, 0, 0)), (62, (.iadd, 1, 0, 0, 0, 0)), (63, (.iaload, 1, 0, 0, 0, 0)), (64, (.bipush 6, 2, 0, 0, 0, 0)), (66, (.if_icmp .ne 21, 3, 87, 0, 0, 0)), (69, (.iload_n 2, 1, 0, 0, 0, 0)), (70, (.iconst 1, 1, 0, 0, 0, 0)), (71, (.aload_n 0, 1, 0, 0, 0, 0)), (72, (.getfield 19, 3, 4, 9, 2, 0)), (75, (.bipush 12, 2, 0, 0, 0, 0)), (77, (.iload 4, 2, 0, 0, 0, 0)), (79, (.imul, 1, 0, 0, 0, 0)), (80, (.iload 5, 2, 0, 0, 0, 0)), (82, (.iadd, 1, 0, 0, 0, 0)), (83, (.iaload, 1, 0, 0, 0, 0)), (84, (.ishl, 1, 0, 0, 0, 0)), (85, (.ior, 1, 0, 0, 0, 0)), (86, (.istore_n 2, 1, 0, 0, 0, 0)), (87, (.iinc 5 1, 3, 0, 0, 0, 0)), (90, (.goto (-67), 3, 23, 0, 0, 0)), (93, (.iinc 4 1, 3, 0, 0, 0, 0)), (96, (.goto (-82), 3, 14, 0, 0, 0)), (99, (.goto (-95), 3, 4, 0, 0, 0)), (102, (.iload_n 2, 1, 0, 0, 0, 0)), (103, (.ireturn, 1, 0, 0, 0, 0))]
def kk_252 (q : Nat) : Option Ent := lkp k_252 q
def k_253 : List (Nat × Ent) := [(0, (.iload_n 1, 1, 0, 0, 0, 0)), (1, (.invokestatic 141, 3, 179, 1, 9, 0)), (4, (.ifCond .ne 10, 3, 14, 0, 0, 0)), (7, (.aload_n 0, 1, 0, 0, 0, 0)), (8, (.iconst 1, 1, 0, 0, 0, 0)), (9, (.invokevirtual 98, 3, 175, 2, 9, 0)), (12, (.i2l, 1, 0, 0, 0, 0)), (13, (.lreturn, 1, 0, 0, 0, 0)), (14, (.aload_n 0, 1, 0, 0, 0, 0)), (15, (.iconst 0, 1, 0, 0, 0, 0)), (16, (.putfield 84, 3, 0, 9, 0, 0)), (19, (.aload_n 0, 1, 0, 0, 0, 0)), (20, (.iload_n 1, 1, 0, 0, 0, 0)), (21, (.invokevirtual 302, 3, 252, 2, 9, 0)), (24, (.iconst 1, 1, 0, 0, 0, 0)), (25, (.iload_n 1, 1, 0, 0, 0, 0)), (26, (.ishl, 1, 0, 0, 0, 0)), (27, (.ior, 1, 0, 0, 0, 0)), (28, (.istore_n 2, 1, 0, 0, 0, 0)), (29, (.lconst 0, 1, 0, 0, 0, 0)), (30, (.lstore_n 3, 1, 0, 0, 0, 0)), (31, (.iconst 0, 1, 0, 0, 0, 0)), (32, (.istore 5, 2, 0, 0, 0, 0)), (34, (.iload 5, 2, 0, 0, 0, 0)), (36, (.aload_n 0, 1, 0, 0, 0, 0)), (37, (.invokevirtual 162, 3, 181, 1, 9, 0)), (40, (.if_icmp .ge 55, 3, 95, 0, 0, 0)), (43, (.aload_n 0, 1, 0, 0, 0, 0)), (44, (.iload 5, 2, 0, 0, 0, 0)), (46, (.invokevirtual 91, 3, 182, 2, 9, 0)), (49, (.istore 6, 2, 0, 0, 0, 0)), (51, (.aload_n 0, 1, 0, 0, 0, 0)), (52, (.getfield 7, 3, 1, 9, 2, 0)), (55, (.iload 6, 2, 0, 0, 0, 0)), (57, (.iaload, 1, 0, 0, 0, 0)), (58, (.iconst 3, 1, 0, 0, 0, 0)), (59, (.if_icmp .ne 30, 3, 89, 0, 0, 0)), (62, (.iload_n 2, 1, 0, 0, 0, 0)), (63, (.iload 6, 2, 0, 0, 0, 0)), (65, (.bipush 12, 2, 0, 0, 0, 0)), (67, (.idiv, 1, 0, 0, 0, 0)), (68, (.ishr, 1, 0, 0, 0, 0)), (69, (.iconst 1, 1, 0, 0, 0, 0)), (70, (.iand, 1, 0, 0, 0, 0)), (71, (.iconst 1, 1, 0, 0, 0, 0)), (72, (.if_icmp .ne 17, 3, 89, 0, 0, 0)), (75, (.lload_n 3, 1, 0, 0, 0, 0)), (76, (.aload_n 0, 1, 0, 0, 0, 0)), (77, (.aload_n 0, 1, 0, 0, 0, 0)), (78, (.getfield 13, 3, 2, 9, 2, 0)), (81, (.iload 6, 2, 0, 0, 0, 0)), (83, (.iaload, 1, 0, 0, 0, 0)), (84, (.invokevirtual 254, 3, 227, 2, 9, 0)), (87, (.lor, 1, 0, 0, 0, 0)), (88, (.lstore_n 3, 1, 0, 0, 0, 0)), (89, (.iinc 5 1, 3, 0, 0, 0, 0)), (92, (.goto (-58), 3, 34, 0, 0, 0)), (95, (.lload_n 3, 1, 0, 0, 0, 0)), (96, (.lreturn, 1, 0, 0, 0, 0))]
def kk_253 (q : Nat) : Option Ent := lkp k_253 q
def k_254 : List (Nat × Ent) := [(0, (.iload_n 1, 1, 0, 0, 0, 0)), (1, (.invokestatic 141, 3, 179, 1, 9, 0)), (4, (.ifCond .ne 9, 3, 13, 0, 0, 0)), (7, (.aload_n 0, 1, 0, 0, 0, 0)), (8, (.iconst 1, 1, 0, 0, 0, 0)), (9, (.invokevirtual 264, 3, 176, 2, 9, 0)), (12, (.ireturn, 1, 1, 0, 0, 0)), (13, (.aload_n 0, 1, 0, 0, 0, 0)), (14, (.iconst 0, 1, 0, 0, 0, 0)), (15, (.putfield 84, 3, 0, 9, 0, 0)), (18, (.aload_n 0, 1, 0, 0, 0, 0)), (19, (.invokevirtual 235, 3, 219, 1, 9, 0)), (22, (.aload_n 0, 1, 0, 0, 0, 0)), (23, (.iload_n 1, 1, 0, 0, 0, 0)), (24, (.invokevirtual 238, 3, 221, 2, 9, 0)), (27, (.ifCond .le 7, 3, 34, 0, 0, 0)), (30, (.iconst 1, 1, 0, 0, 0, 0)), (31, (.goto 4, 3, 35, 0, 0, 0)), (34, (.iconst 0, 1, 0, 0, 0, 0)), (35, (.ireturn, 1, 1, 0, 0, 0))]
def kk_254 (q : Nat) : Option Ent := lkp k_254 q
def k_255 : List (Nat × Ent) := [(0, (.iload_n 1, 1, 0, 0, 0, 0)), (1, (.invokestatic 141, 3, 179, 1, 9, 0)), (4, (.ifCond .ne 9, 3, 13, 0, 0, 0)), (7, (.aload_n 0, 1, 0, 0, 0, 0)), (8, (.iconst 1, 1, 0, 0, 0, 0)), (9, (.invokevirtual 264, 3, 176, 2, 9, 0)), (12, (.ireturn, 1, 1, 0, 0, 0)), (13, (.aload_n 0, 1, 0, 0, 0, 0)), (14, (.iconst 0, 1, 0, 0, 0, 0)), (15, (.putfield 84, 3, 0, 9, 0, 0)), (18, (.aload_n 0, 1, 0, 0, 0, 0)), (19, (.iload_n 1, 1, 0, 0, 0, 0)), (20, (.invokevirtual 302, 3, 252, 2, 9, 0)), (23, (.iload_n 1, 1, 0, 0, 0, 0)), (24, (.ishr, 1, 0, 0, 0, 0)), (25, (.iconst 1, 1, 0, 0, 0, 0)), (26, (.iand, 1, 0, 0, 0, 0)), (27, (.iconst 1, 1, 0, 0, 0, 0)), (28, (.if_icmp .ne 7, 3, 35, 0, 0, 0)), (31, (.iconst 1, 1, 0, 0, 0, 0)), (32, (.goto 4, 3, 36, 0, 0, 0)), (35, (.iconst 0, 1, 0, 0, 0, 0)), (36, (.ireturn, 1, 1, 0, 0, 0))]
def kk_255 (q : Nat) : Option Ent := lkp k_255 q
def k_256 : List (Nat × Ent) := [(0, (.iconst 1, 1, 0, 0, 0, 0)), (1, (.iload_n 1, 1, 0, 0, 0, 0)), (2, (.ishl, 1, 0, 0, 0, 0)), (3, (.istore_n 3, 1, 0, 0, 0, 0)), (4, (.iconst 0, 1, 0, 0, 0, 0)), (5, (.istore 4, 2, 0, 0, 0, 0)), (7, (.iload 4, 2, 0, 0, 0, 0)), (9, (.iload_n 3, 1, 0, 0, 0, 0)), (10, (.if_icmp .eq 131, 3, 141, 0, 0, 0)), (13, (.iload_n 3, 1, 0, 0, 0, 0)), (14, (.istore 4, 2, 0, 0, 0, 0)), (16, (.iconst 0, 1, 0, 0, 0, 0)), (17, (.istore 5, 2, 0, 0, 0, 0)), (19, (.iload 5, 2, 0, 0, 0, 0)), (21, (.aload_n 0, 1, 0, 0, 0, 0)), (22, (.invokevirtual 162, 3, 181, 1, 9, 0)), (25, (.if_icmp .ge 113, 3, 138, 0, 0, 0)), (28, (.aload_n 0, 1, 0, 0, 0, 0)), (29, (.iload 5, 2, 0, 0, 0, 0)), (31, (.invokevirtual 91, 3, 182, 2, 9, 0)), (34, (.istore 6, 2, 0, 0, 0, 0)), (36, (.aload_n 0, 1, 0, 0, 0, 0)), (37, (.getfield 19, 3, 4, 9, 2, 0)), (40, (.iload 6, 2, 0, 0, 0, 0)), (42, (.iaload, 1, 0, 0, 0, 0)), (43, (.istore 7, 2, 0, 0, 0, 0)), (45, (.aload_n 0, 1, 0, 0, 0, 0)), (46, (.getfield 7, 3, 1, 9, 2, 0)), (49, (.iload 6, 2, 0, 0, 0, 0)), (51, (.iaload, 1, 0, 0, 0, 0)), (52, (.iconst 1, 1, 0, 0, 0, 0)), (53, (.if_icmp .ne 25, 3, 78, 0, 0, 0)), (56, (.iload_n 3, 1, 0, 0, 0, 0)), (57, (.iload_n 3, 1, 0, 0, 0, 0)), (58, (.aload_n 0, 1, 0, 0, 0, 0)), (59, (.getfield 16, 3, 3, 9, 2, 0)), (62, (.iload 6, 2, 0, 0, 0, 0)), (64, (.iaload, 1, 0, 0, 0, 0)), (65, (.aload_n 0, 1, 0, 0, 0, 0)), (66, (.getfield 13, 3, 2, 9, 2, 0)), (69, (.iload 6, 2, 0, 0, 0, 0)), (71, (.iaload, 1, 0, 0, 0, 0)), (72, (.iload_n 2, 1, 0, 0, 0, 0)), (73, (.invokestatic 305, 3, 257, 4, 9, 0)), (76, (.ior, 1, 0, 0, 0, 0)), (77, (.istore_n 3, 1, 0, 0, 0, 0)), (78, (.aload_n 0, 1, 0, 0, 0, 0)), (79, (.getfield 7, 3, 1, 9, 2, 0)), (82, (.iload 6, 2, 0, 0, 0, 0)), (84, (.iaload, 1, 0, 0, 0, 0)), (85, (.bipush 6, 2, 0, 0, 0, 0)), (87, (.if_icmp .ne 45, 3, 132, 0, 0, 0)), (90, (.iload_n 3, 1, 0, 0, 0, 0)), (91, (.iload_n 3, 1, 0, 0, 0, 0)), (92, (.aload_n 0, 1, 0, 0, 0, 0)), (93, (.getfield 16, 3, 3, 9, 2, 0)), (96, (.iload 6, 2, 0, 0, 0, 0)), (98, (.iaload, 1, 0, 0, 0, 0)), (99, (.iconst 4, 1, 0, 0, 0, 0)), (100, (.iconst 4, 1, 0, 0, 0, 0)), (101, (.iload 7, 2, 0, 0, 0, 0)), (103, (.imul, 1, 0, 0, 0, 0)), (104, (.iadd, 1, 0, 0, 0, 0)), (105, (.iload_n 2, 1, 0, 0, 0, 0)), (106, (.invokestatic 305, 3, 257, 4, 9, 0)), (109, (.iload_n 3, 1, 0, 0, 0, 0)), (110, (.iconst 4, 1, 0, 0, 0, 0)), (111, (.iconst 4, 1, 0, 0, 0, 0)), (112, (.iload 7, 2, 0, 0, 0, 0)), (114, (.imul, 1, 0, 0, 0, 0)), (115, (.iadd, 1, 0, 0, 0, 0)), (116, (.iconst 1, 1, 0, 0, 0, 0)), (117, (.iadd, 1, 0, 0, 0, 0)), (118, (.aload_n 0, 1, 0, 0, 0, 0)), (119, (.getfield 13, 3, 2, 9, 2, 0)), (122, (.iload 6, 2, 0, 0, 0, 0)), (124, (.iaload, 1, 0, 0, 0, 0)), (125, (.iload_n 2, 1, 0, 0, 0, 0)), (126, (.invokestatic 305, 3, 257, 4, 9, 0)), (129, (.ior, 1, 0, 0, 0, 0)), (130, (.ior, 1, 0, 0, 0, 0)), (131, (.istore_n 3, 1, 0, 0, 0, 0)), (132, (.iinc 5 1, 3, 0, 0, 0, 0)), (135, (.goto (-116), 3, 19, 0, 0, 0)), (138, (.goto (-131), 3, 7, 0, 0, 0)), (141, (.iload_n 3, 1, 0, 0, 0, 0)), (142, (.ireturn, 1, 0, 0, 0, 0))]
def kk_256 (q : Nat) : Option Ent := lkp k_256 q
def k_257 : List (Nat × Ent) := [(0, (.iload_n 0, 1, 0, 0, 0, 0)), (1, (.iload_n 3, 1, 0, 0, 0, 0)), (2, (.ifCond .eq 7, 3, 9, 0, 0, 0)), (5, (.iload_n 2, 1, 0, 0, 0, 0)), (6, (.goto 4, 3, 10, 0, 0, 0)), (9, (.iload_n 1, 1, 0, 0, 0, 0)), (10, (.ishr, 1, 0, 0, 0, 0)), (11, (.iconst 1, 1, 0, 0, 0, 0)), (12, (.iand, 1, 0, 0, 0, 0)), (13, (.iconst 1, 1, 0, 0, 0, 0)), (14, (.if_icmp .ne 17, 3, 31, 0, 0, 0)), (17, (.iconst 1, 1, 0, 0, 0, 0)), (18, (.iload_n 3, 1, 0, 0, 0, 0)), (19, (.ifCond .eq 7, 3, 26, 0, 0, 0)), (22, (.iload_n 1, 1, 0, 0, 0, 0)), (23, (.goto 4, 3, 27, 0, 0, 0)), (26, (.iload_n 2, 1, 0, 0, 0, 0)), (27, (.ishl, 1, 0, 0, 0, 0)), (28, (.goto 4, 3, 32, 0, 0, 0)), (31, (.iconst 0, 1, 0, 0, 0, 0)), (32, (.ireturn, 1, 0, 0, 0, 0))]
def kk_257 (q : Nat) : Option Ent := lkp k_257 q
def k_258 : List (Nat × Ent) := [(0, (.iload_n 1, 1, 0, 0, 0, 0)), (1, (.invokestatic 251, 3, 180, 1, 9, 0)), (4, (.ifCond .ne 9, 3, 13, 0, 0, 0)), (7, (.aload_n 0, 1, 0, 0, 0, 0)), (8, (.iconst 1, 1, 0, 0, 0, 0)), (9, (.invokevirtual 98, 3, 175, 2, 9, 0)), (12, (.ireturn, 1, 0, 0, 0, 0)), (13, (.aload_n 0, 1, 0, 0, 0, 0)), (14, (.iconst 0, 1, 0, 0, 0, 0)), (15, (.putfield 84, 3, 0, 9, 0, 0)), (18, (.aload_n 0, 1, 0, 0, 0, 0)), (19, (.iload_n 1, 1, 0, 0, 0, 0)), (20, (.iconst 0, 1, 0, 0, 0, 0)), (21, (.invokevirtual 309, 3, 256, 3, 9, 0)), (24, (.aload_n 0, 1, 0, 0, 0, 0)), (25, (.iload_n 1, 1, 0, 0, 0, 0)), (26, (.iconst 1, 1, 0, 0, 0, 0)), (27, (.invokevirtual 309, 3, 256, 3, 9, 0)), (30, (.iand, 1, 0, 0, 0, 0)), (31, (.ireturn, 1, 0, 0, 0, 0))]
def kk_258 (q : Nat) : Option Ent := lkp k_258 q
def k_259 : List (Nat × Ent) := [(0, (.iconst 0, 1, 0, 0, 0, 0)), (1, (.istore_n 1, 1, 0, 0, 0, 0)), (2, (.iload_n 1, 1, 0, 0, 0, 0)), (3, (.bipush 44, 2, 0, 0, 0, 0)), (5, (.if_icmp .ge 16, 3, 21, 0, 0, 0)), (8, (.aload_n 0, 1, 0, 0, 0, 0)), (9, (.getfield 78, 3, 35, 9, 2, 0)), (12, (.iload_n 1, 1, 0, 0, 0, 0)), (13, (.lconst 0, 1, 0, 0, 0, 0)), (14, (.lastore, 1, 0, 0, 0, 0)), (15, (.iinc 1 1, 3, 0, 0, 0, 0)), (18, (.goto (-16), 3, 2, 0, 0, 0)), (21, (.aload_n 0, 1, 0, 0, 0, 0)), (22, (.iconst 0, 1, 0, 0, 0, 0)), (23, (.putfield 313, 3, 39, 9, 0, 0)), (26, (.aload_n 0, 1, 0, 0, 0, 0)), (27, (.iconst 0, 1, 0, 0, 0, 0)), (28, (.putfield 316, 3, 38, 9, 0, 0)), (31, (.return_, 1, 0, 0, 0, 0))]
def kk_259 (q : Nat) : Option Ent := lkp k_259 q
def k_260 : List (Nat × Ent) := [(0, (.aload_n 0, 1, 0, 0, 0, 0)), (1, (.getfield 63, 3, 30, 9, 2, 0)), (4, (.iload_n 1, 1, 0, 0, 0, 0)), (5, (.iload_n 2, 1, 0, 0, 0, 0)), (6, (.iastore, 1, 0, 0, 0, 0)), (7, (.iload_n 2, 1, 0, 0, 0, 0)), (8, (.ifCond .le 27, 3, 35, 0, 0, 0)), (11, (.aload_n 0, 1, 0, 0, 0, 0)), (12, (.getfield 78, 3, 35, 9, 2, 0)), (15, (.aload_n 0, 1, 0, 0, 0, 0)), (16, (.getfield 66, 3, 31, 9, 2, 0)), (19, (.iload_n 1, 1, 0, 0, 0, 0)), (20, (.iaload, 1, 0, 0, 0, 0)), (21, (.dup2, 1, 0, 0, 0, 0)), (22, (.laload, 1, 0, 0, 0, 0)), (23, (.lconst 1, 1, 0, 0, 0, 0)), (24, (.aload_n 0, 1, 0, 0, 0, 0)), (25, (.getfield 66, 3, 31, 9, 2, 0)), (28, (.iload_n 2, 1, 0, 0, 0, 0)), (29, (.iconst 1, 1, 0, 0, 0, 0)), (30, (.isub, 1, 0, 0, 0, 0)), (31, (.iaload, 1, 0, 0, 0, 0)), (32, (.lshl, 1, 0, 0, 0, 0)), (33, (.lor, 1, 0, 0, 0, 0)), (34, (.lastore, 1, 0, 0, 0, 0)), (35, (.return_, 1, 0, 0, 0, 0))]
def kk_260 (q : Nat) : Option Ent := lkp k_260 q
def k_261 : List (Nat × Ent) := [(0, (.iload_n 1, 1, 0, 0, 0, 0)), (1, (.iconst 4, 1, 0, 0, 0, 0)), (2, (.if_icmp .ge 7, 3, 9, 0, 0, 0)), (5, (.iload_n 1, 1, 0, 0, 0, 0)), (6, (.goto 18, 3, 24, 0, 0, 0)), (9, (.aload_n 0, 1, 0, 0, 0, 0)), (10, (.getfield 75, 3, 34, 9, 2, 0)), (13, (.aload_n 0, 1, 0, 0, 0, 0)), (14, (.getfield 319, 3, 36, 9, 0, 0)), (17, (.iconst 1, 1, 0, 0, 0, 0)), (18, (.isub, 1, 0, 0, 0, 0)), (19, (.iaload, 1, 0, 0, 0, 0)), (20, (.iload_n 1, 1, 0, 0, 0, 0)), (21, (.iconst 4, 1, 0, 0, 0, 0)), (22, (.irem, 1, 0, 0, 0, 0)), (23, (.iadd, 1, 0, 0, 0, 0)), (24, (.ireturn, 1, 0, 0, 0, 0))]
def kk_261 (q : Nat) : Option Ent := lkp k_261 q
def k_262 : List (Nat × Ent) := [(0, (.aload_n 0, 1, 0, 0, 0, 0)), (1, (.getfield 69, 3, 32, 9, 2, 0)), (4, (.aload_n 0, 1, 0, 0, 0, 0)), (5, (.getfield 319, 3, 36, 9, 0, 0)), (8, (.iload_n 1, 1, 0, 0, 0, 0)), (9, (.iastore, 1, 0, 0, 0, 0)), (10, (.aload_n 0, 1, 0, 0, 0, 0)), (11, (.getfield 72, 3, 33, 9, 2, 0)), (14, (.aload_n 0, 1, 0, 0, 0, 0)), (15, (.getfield 319, 3, 36, 9, 0, 0)), (18, (.iconst 0, 1, 0, 0, 0, 0)), (19, (.iastore, 1, 0, 0, 0, 0)), (20, (.aload_n 0, 1, 0, 0, 0, 0)), (21, (.getfield 75, 3, 34, 9, 2, 0)), (24, (.aload_n 0, 1, 0, 0, 0, 0)), (25, (.getfield 319, 3, 36, 9, 0, 0)), (28, (.iconst 4, 1, 0, 0, 0, 0)), (29, (.iconst 4, 1, 0, 0, 0, 0)), (30, (.aload_n 0, 1, 0, 0, 0, 0)), (31, (.getfield 322, 3, 37, 9, 0, 0)), (34, (.imul, 1, 0, 0, 0, 0)), (35, (.iadd, 1, 0, 0, 0, 0)), (36, (.iastore, 1, 0, 0, 0, 0)), (37, (.iconst 0, 1, 0, 0, 0, 0)), (38, (.istore_n 2, 1, 0, 0, 0, 0)), (39, (.iload_n 2, 1, 0, 0, 0, 0)), (40, (.iconst 4, 1, 0, 0, 0, 0)), (41, (.if_icmp .ge 49, 3, 90, 0, 0, 0)), (44, (.aload_n 0, 1, 0, 0, 0, 0)), (45, (.getfield 63, 3, 30, 9, 2, 0)), (48, (.aload_n 0, 1, 0, 0, 0, 0)), (49, (.getfield 75, 3, 34, 9, 2, 0)), (52, (.aload_n 0, 1, 0, 0, 0, 0)), (53, (.getfield 319, 3, 36, 9, 0, 0)), (56, (.iaload, 1, 0, 0, 0, 0)), (57, (.iload_n 2, 1, 0, 0, 0, 0)), (58, (.iadd, 1, 0, 0, 0, 0)), (59, (.iconst 0, 1, 0, 0, 0, 0)), (60, (.iastore, 1, 0, 0, 0, 0)), (61, (.aload_n 0, 1, 0, 0, 0, 0)), (62, (.getfield 66, 3, 31, 9, 2, 0)), (65, (.aload_n 0, 1, 0, 0, 0, 0)), (66, (.getfield 75, 3, 34, 9, 2, 0)), (69, (.aload_n 0, 1, 0, 0, 0, 0)), (70, (.getfield 319, 3, 36, 9, 0, 0)), (73, (.iaload, 1, 0, 0, 0, 0)), (74, (.iload_n 2, 1, 0, 0, 0, 0)), (75, (.iadd, 1, 0, 0, 0, 0)), (76, (.iconst 4, 1, 0, 0, 0, 0)), (77, (.iconst 4, 1, 0, 0, 0, 0)), (78, (.iload_n 1, 1, 0, 0, 0, 0)), (79, (.imul, 1, 0, 0, 0, 0)), (80, (.iadd, 1, 0, 0, 0, 0)), (81, (.iload_n 2, 1, 0, 0, 0, 0)), (82, (.iadd, 1, 0, 0, 0, 0)), (83, (.iastore, 1, 0, 0, 0, 0)), (84, (.iinc 2 1, 3, 0, 0, 0, 0)), (87, (.goto (-48), 3, 39, 0, 0, 0)), (90, (.aload_n 0, 1, 0, 0, 0, 0)), (91, (.dup, 1, 0, 0, 0, 0)), (92, (.getfield 322, 3, 37, 9, 0, 0)), (95, (.iconst 1, 1, 0, 0, 0, 0)), (96, (.iadd, 1, 0, 0, 0, 0)), (97, (.putfield 322, 3, 37, 9, 0, 0)), (100, (.aload_n 0, 1, 0, 0, 0, 0)), (101, (.dup, 1, 0, 0, 0, 0)), (102, (.getfield 319, 3, 36, 9, 0, 0)), (105, (.iconst 1, 1, 0, 0, 0, 0)), (106, (.iadd, 1, 0, 0, 0, 0)), (107, (.putfield 319, 3, 36, 9, 0, 0)), (110, (.return_, 1, 0, 0, 0, 0))]
def kk_262 (q : Nat) : Option Ent := lkp k_262 q
def k_263 : List (Nat × Ent) := [(0, (.sipush 808, 3, 0, 0, 0, 0)), (3, (.iconst 3, 1, 0, 0, 0, 0)), (4, (.aload_n 0, 1, 0, 0, 0, 0)), (5, (.getfield 316, 3, 38, 9, 0, 0)), (8, (.imul, 1, 0, 0, 0, 0)), (9, (.iadd, 1, 0, 0, 0, 0)), (10, (.istore_n 2, 1, 0, 0, 0, 0)), (11, (.iconst 0, 1, 0, 0, 0, 0)), (12, (.istore_n 3, 1, 0, 0, 0, 0)), (13, (.iload_n 3, 1, 0, 0, 0, 0)), (14, (.iconst 3, 1, 0, 0, 0, 0)), (15, (.if_icmp .ge 34, 3, 49, 0, 0, 0)), (18, (.aload_n 0, 1, 0, 0, 0, 0)), (19, (.getfield 63, 3, 30, 9, 2, 0)), (22, (.iload_n 2, 1, 0, 0, 0, 0)), (23, (.iload_n 3, 1, 0, 0, 0, 0)), (24, (.iadd, 1, 0, 0, 0, 0)), (25, (.iconst 0, 1, 0, 0, 0, 0)), (26, (.iastore, 1, 0, 0, 0, 0)), (27, (.aload_n 0, 1, 0, 0, 0, 0)), (28, (.getfield 66, 3, 31, 9, 2, 0)), (31, (.iload_n 2, 1, 0, 0, 0, 0)), (32, (.iload_n 3, 1, 0, 0, 0, 0)), (33, (.iadd, 1, 0, 0, 0, 0)), (34, (.bipush 20, 2, 0, 0, 0, 0)), (36, (.iconst 3, 1, 0, 0, 0, 0)), (37, (.iload_n 1, 1, 0, 0, 0, 0)), (38, (.imul, 1, 0, 0, 0, 0)), (39, (.iadd, 1, 0, 0, 0, 0)), (40, (.iload_n 3, 1, 0, 0, 0, 0)), (41, (.iadd, 1, 0, 0, 0, 0)), (42, (.iastore, 1, 0, 0, 0, 0)), (43, (.iinc 3 1, 3, 0, 0, 0, 0)), (46, (.goto (-33), 3, 13, 0, 0, 0)), (49, (.aload_n 0, 1, 0, 0, 0, 0)), (50, (.dup, 1, 0, 0, 0, 0)), (51, (.getfield 316, 3, 38, 9, 0, 0)), (54, (.iconst 1, 1, 0, 0, 0, 0)), (55, (.iadd, 1, 0, 0, 0, 0)), (56, (.putfield 316, 3, 38, 9, 0, 0)), (59, (.iload_n 2, 1, 0, 0, 0, 0)), (60, (.iconst 1, 1, 0, 0, 0, 0)), (61, (.iadd, 1, 0, 0, 0, 0)), (62, (.ireturn, 1, 0, 0, 0, 0))]
def kk_263 (q : Nat) : Option Ent := lkp k_263 q
def k_264 : List (Nat × Ent) := [(0, (.iload_n 2, 1, 0, 0, 0, 0)), (1, (.ifCond .eq 7, 3, 8, 0, 0, 0)), (4, (.iload_n 3, 1, 0, 0, 0, 0)), (5, (.ifCond .ne 10, 3, 15, 0, 0, 0)), (8, (.aload_n 0, 1, 0, 0, 0, 0)), (9, (.iload_n 1, 1, 0, 0, 0, 0)), (10, (.iload_n 2, 1, 0, 0, 0, 0)), (11, (.invokevirtual 325, 3, 260, 3, 9, 0)), (14, (.return_, 1, 0, 0, 0, 0)), (15, (.aload_n 0, 1, 0, 0, 0, 0)), (16, (.getfield 66, 3, 31, 9, 2, 0)), (19, (.iload_n 2, 1, 0, 0, 0, 0)), (20, (.iconst 1, 1, 0, 0, 0, 0)), (21, (.isub, 1, 0, 0, 0, 0)), (22, (.iaload, 1, 0, 0, 0, 0)), (23, (.istore 4, 2, 0, 0, 0, 0)), (25, (.iload 4, 2, 0, 0, 0, 0)), (27, (.bipush 20, 2, 0, 0, 0, 0)), (29, (.if_icmp .lt 27, 3, 56, 0, 0, 0)), (32, (.iload 4, 2, 0, 0, 0, 0)), (34, (.bipush 20, 2, 0, 0, 0, 0)), (36, (.isub, 1, 0, 0, 0, 0)), (37, (.iconst 3, 1, 0, 0, 0, 0)), (38, (.irem, 1, 0, 0, 0, 0)), (39, (.iload_n 3, 1, 0, 0, 0, 0)), (40, (.iadd, 1, 0, 0, 0, 0)), (41, (.iconst 2, 1, 0, 0, 0, 0)), (42, (.if_icmp .gt 14, 3, 56, 0, 0, 0)), (45, (.aload_n 0, 1, 0, 0, 0, 0)), (46, (.iload_n 1, 1, 0, 0, 0, 0)), (47, (.iload_n 2, 1, 0, 0, 0, 0)), (48, (.iload_n 3, 1, 0, 0, 0, 0)), (49, (.iadd, 1, 0, 0, 0, 0)), (50, (.invokevirtual 325, 3, 260, 3, 9, 0)), (53, (.goto 13, 3, 66, 0, 0, 0)), (56, (.aload_n 0, 1, 0, 0, 0, 0)), (57, (.dup, 1, 0, 0, 0, 0)), (58, (.getfield 313, 3, 39, 9, 0, 0)), (61, (.iconst 1, 1, 0, 0, 0, 0)), (62, (.iadd, 1, 0, 0, 0, 0)), (63, (.putfield 313, 3, 39, 9, 0, 0)), (66, (.return_, 1, 0, 0, 0, 0))]
def kk_264 (q : Nat) : Option Ent := lkp k_264 q
def k_265 : List (Nat × Ent) := [(0, (.aload_n 0, 1, 0, 0, 0, 0)), (1, (.aload_n 0, 1, 0, 0, 0, 0)), (2, (.getfield 13, 3, 2, 9, 2, 0)), (5, (.iload_n 1, 1, 0, 0, 0, 0)), (6, (.iaload, 1, 0, 0, 0, 0)), (7, (.invokevirtual 328, 3, 261, 2, 9, 0)), (10, (.istore_n 2, 1, 0, 0, 0, 0)), (11, (.aload_n 0, 1, 0, 0, 0, 0)), (12, (.aload_n 0, 1, 0, 0, 0, 0)), (13, (.getfield 16, 3, 3, 9, 2, 0)), (16, (.iload_n 1, 1, 0, 0, 0, 0)), (17, (.iaload, 1, 0, 0, 0, 0)), (18, (.invokevirtual 328, 3, 261, 2, 9, 0)), (21, (.istore_n 3, 1, 0, 0, 0, 0)), (22, (.aload_n 0, 1, 0, 0, 0, 0)), (23, (.getfield 7, 3, 1, 9, 2, 0)), (26, (.iload_n 1, 1, 0, 0, 0, 0)), (27, (.iaload, 1, 0, 0, 0, 0)), (28, (.tableswitch 188 0 5 #[40, 51, 65, 108, 151, 168], 40, 0, 0, 0, 0)), (68, (.aload_n 0, 1, 0, 0, 0, 0)), (69, (.iload_n 2, 1, 0, 0, 0, 0)), (70, (.iload_n 3, 1, 0, 0, 0, 0)), (71, (.iconst 1, 1, 0, 0, 0, 0)), (72, (.iadd, 1, 0, 0, 0, 0)), (73, (.invokevirtual 325, 3, 260, 3, 9, 0)), (76, (.goto 193, 3, 269, 0, 0, 0)), (79, (.aload_n 0, 1, 0, 0, 0, 0)), (80, (.iload_n 2, 1, 0, 0, 0, 0)), (81, (.aload_n 0, 1, 0, 0, 0, 0)), (82, (.getfield 63, 3, 30, 9, 2, 0)), (85, (.iload_n 3, 1, 0, 0, 0, 0)), (86, (.iaload, 1, 0, 0, 0, 0)), (87, (.invokevirtual 325, 3, 260, 3, 9, 0)), (90, (.goto 179, 3, 269, 0, 0, 0)), (93, (.aload_n 0, 1, 0, 0, 0, 0)), (94, (.getfield 63, 3, 30, 9, 2, 0)), (97, (.iload_n 3, 1, 0, 0, 0, 0)), (98, (.iaload, 1, 0, 0, 0, 0)), (99, (.ifCond .ne 16, 3, 115, 0, 0, 0)), (102, (.aload_n 0, 1, 0, 0, 0, 0)), (103, (.dup, 1, 0, 0, 0, 0)), (104, (.getfield 313, 3, 39, 9, 0, 0)), (107, (.iconst 1, 1, 0, 0, 0, 0)), (108, (.iadd, 1, 0, 0, 0, 0)), (109, (.putfield 313, 3, 39, 9, 0, 0)), (112, (.goto 157, 3, 269, 0, 0, 0)), (115, (.aload_n 0, 1, 0, 0, 0, 0)), (116, (.iload_n 2, 1, 0, 0, 0, 0)), (117, (.aload_n 0, 1, 0, 0, 0, 0)), (118, (.getfield 63, 3, 30, 9, 2, 0)), (121, (.aload_n 0, 1, 0, 0, 0, 0)), (122, (.getfield 63, 3, 30, 9, 2, 0)), (125, (.iload_n 3, 1, 0, 0, 0, 0)), (126, (.iaload, 1, 0, 0, 0, 0)), (127, (.iconst 1, 1, 0, 0, 0, 0)), (128, (.isub, 1, 0, 0, 0, 0)), (129, (.iaload, 1, 0, 0, 0, 0)), (130, (.invokevirtual 325, 3, 260, 3, 9, 0)), (133, (.goto 136, 3, 269, 0, 0, 0)), (136, (.aload_n 0, 1, 0, 0, 0, 0)), (137, (.getfield 63, 3, 30, 9, 2, 0)), (140, (.iload_n 2, 1, 0, 0, 0, 0)), (141, (.iaload, 1, 0, 0, 0, 0)), (142, (.ifCond .ne 16, 3, 158, 0, 0, 0)), (145, (.aload_n 0, 1, 0, 0, 0, 0)), (146, (.dup, 1, 0, 0, 0, 0)), (147, (.getfield 313, 3, 39, 9, 0, 0)), (150, (.iconst 1, 1, 0, 0, 0, 0)), (151, (.iadd, 1, 0, 0, 0, 0)), (152, (.putfield 313, 3, 39, 9, 0, 0)), (155, (.goto 114, 3, 269, 0, 0, 0)), (158, (.aload_n 0, 1, 0, 0, 0, 0)), (159, (.aload_n 0, 1, 0, 0, 0, 0)), (160, (.getfield 63, 3, 30, 9, 2, 0)), (163, (.iload_n 2, 1, 0, 0, 0, 0)), (164, (.iaload, 1, 0, 0, 0, 0)), (165, (.iconst 1, 1, 0, 0, 0, 0)), (166, (.isub, 1, 0, 0, 0, 0)), (167, (.aload_n 0, 1, 0, 0, 0, 0)), (168, (.getfield 63, 3, 30, 9, 2, 0)), (171, (.iload_n 3, 1, 0, 0, 0, 0)), (172, (.iaload, 1, 0, 0, 0, 0)), (173, (.invokevirtual 325, 3, 260, 3, 9, 0)), (176, (.goto 93, 3, 269, 0, 0, 0)), (179, (.aload_n 0, 1, 0, 0, 0, 0)), (180, (.iload_n 2, 1, 0, 0, 0, 0)), (181, (.aload_n 0, 1, 0, 0, 0, 0)), (182, (.aload_n 0, 1, 0, 0, 0, 0)), (183, (.iload_n 1, 1, 0, 0, 0, 0)), (184, (.invokevirtual 206, 3, 185, 2, 9, 0)), (187, (.invokevirtual 331, 3, 263, 2, 9, 0)), (190, (.invokevirtual 325, 3, 260, 3, 9, 0)), (193, (.goto 76, 3, 269, 0, 0, 0)), (196, (.aload_n 0, 1, 0, 0, 0, 0)), (197, (.iload_n 2, 1, 0, 0, 0, 0)), (198, (.aload_n 0, 1, 0, 0, 0, 0)), (199, (.getfield 63, 3, 30, 9, 2, 0)), (202, (.iload_n 3, 1, 0, 0, 0, 0)), (203, (.iaload, 1, 0, 0, 0, 0)), (204, (.aload_n 0, 1, 0, 0, 0, 0)), (205, (.getfield 19, 3, 4, 9, 2, 0)), (208, (.iload_n 1, 1, 0, 0, 0, 0)), (209, (.iaload, 1, 0, 0, 0, 0)), (210, (.invokevirtual 334, 3, 264, 4, 9, 0)), (213, (.goto 56, 3, 269, 0, 0, 0)), (216, (.aload_n 0, 1, 0, 0, 0, 0)), (217, (.getfield 319, 3, 36, 9, 0, 0)), (220, (.bipush 6, 2, 0, 0, 0, 0)), (222, (.if_icmp .eq 47, 3, 269, 0, 0, 0)), (225, (.aload_n 0, 1, 0, 0, 0, 0)), (226, (.getfield 338, 3, 40, 9, 0, 0)), (229, (.sipush 200, 3, 0, 0, 0, 0)), (232, (.if_icmp .ne 6, 3, 238, 0, 0, 0)), (235, (.goto 34, 3, 269, 0, 0, 0)), (238, (.aload_n 0, 1, 0, 0, 0, 0)), (239, (.aload_n 0, 1, 0, 0, 0, 0)), (240, (.getfield 19, 3, 4, 9, 2, 0)), (243, (.iload_n 1, 1, 0, 0, 0, 0)), (244, (.iaload, 1, 0, 0, 0, 0)), (245, (.invokevirtual 341, 3, 262, 2, 9, 0)), (248, (.aload_n 0, 1, 0, 0, 0, 0)), (249, (.aload_n 0, 1, 0, 0, 0, 0)), (250, (.getfield 75, 3, 34, 9, 2, 0)), (253, (.aload_n 0, 1, 0, 0, 0, 0)), (254, (.getfield 319, 3, 36, 9, 0, 0)), (257, (.iconst 1, 1, 0, 0, 0, 0)), (258, (.isub, 1, 0, 0, 0, 0)), (259, (.iaload, 1, 0, 0, 0, 0)), (260, (.aload_n 0, 1, 0, 0, 0, 0)), (261, (.getfield 63, 3, 30, 9, 2, 0)), (264, (.iload_n 3, 1, 0, 0, 0, 0)), (265, (.iaload, 1, 0, 0, 0, 0)), (266, (.invokevirtual 325, 3, 260, 3, 9, 0)), (269, (.return_, 1, 0, 0, 0, 0))]
def kk_265 (q : Nat) : Option Ent := lkp k_265 q
def k_266 : List (Nat × Ent) := [(0, (.aload_n 0, 1, 0, 0, 0, 0)), (1, (.getfield 63, 3, 30, 9, 2, 0)), (4, (.aload_n 0, 1, 0, 0, 0, 0)), (5, (.getfield 75, 3, 34, 9, 2, 0)), (8, (.aload_n 0, 1, 0, 0, 0, 0)), (9, (.getfield 319, 3, 36, 9, 0, 0)), (12, (.iconst 1, 1, 0, 0, 0, 0)), (13, (.isub, 1, 0, 0, 0, 0)), (14, (.iaload, 1, 0, 0, 0, 0)), (15, (.iconst 1, 1, 0, 0, 0, 0)), (16, (.iadd, 1, 0, 0, 0, 0)), (17, (.iaload, 1, 0, 0, 0, 0)), (18, (.istore_n 1, 1, 0, 0, 0, 0)), (19, (.aload_n 0, 1, 0, 0, 0, 0)), (20, (.dup, 1, 0, 0, 0, 0)), (21, (.getfield 319, 3, 36, 9, 0, 0)), (24, (.iconst 1, 1, 0, 0, 0, 0)), (25, (.isub, 1, 0, 0, 0, 0)), (26, (.putfield 319, 3, 36, 9, 0, 0)), (29, (.aload_n 0, 1, 0, 0, 0, 0)), (30, (.getfield 319, 3, 36, 9, 0, 0)), (33, (.ifCond .ne 4, 3, 37, 0, 0, 0)), (36, (.return_, 1, 0, 0, 0, 0)), (37, (.bipush 12, 2, 0, 0, 0, 0)), (39, (.aload_n 0, 1, 0, 0, 0, 0)), (40, (.getfield 69, 3, 32, 9, 2, 0)), (43, (.aload_n 0, 1, 0, 0, 0, 0)), (44, (.getfield 319, 3, 36, 9, 0, 0)), (47, (.iconst 1, 1, 0, 0, 0, 0)), (48, (.isub, 1, 0, 0, 0, 0)), (49, (.iaload, 1, 0, 0, 0, 0)), (50, (.imul, 1, 0, 0, 0, 0)), (51, (.aload_n 0, 1, 0, 0, 0, 0)), (52, (.getfield 72, 3, 33, 9, 2, 0)), (55, (.aload_n 0, 1, 0, 0, 0, 0)), (56, (.getfield 319, 3, 36, 9, 0, 0)), (59, (.iconst 1, 1, 0, 0, 0, 0)), (60, (.isub, 1, 0, 0, 0, 0)), (61, (.iaload, 1, 0, 0, 0, 0)), (62, (.iadd, 1, 0, 0, 0, 0)), (63, (.iconst 1, 1, 0, 0, 0, 0)), (64, (.isub, 1, 0, 0, 0, 0)), (65, (.istore_n 2, 1, 0, 0, 0, 0)), (66, (.aload_n 0, 1, 0, 0, 0, 0)), (67, (.aload_n 0, 1, 0, 0, 0, 0)), (68, (.aload_n 0, 1, 0, 0, 0, 0)), (69, (.getfield 13, 3, 2, 9, 2, 0)), (72, (.iload_n 2, 1, 0, 0, 0, 0)), (73, (.iaload, 1, 0, 0, 0, 0)), (74, (.invokevirtual 328, 3, 261, 2, 9, 0)), (77, (.iload_n 1, 1, 0, 0, 0, 0)), (78, (.invokevirtual 325, 3, 260, 3, 9, 0)), (81, (.return_, 1, 0, 0, 0, 0))]
def kk_266 (q : Nat) : Option Ent := lkp k_266 q
def k_267 : List (Nat × Ent) := [(0, (.aload_n 0, 1, 0, 0, 0, 0)), (1, (.iconst 0, 1, 0, 0, 0, 0)), (2, (.putfield 84, 3, 0, 9, 0, 0)), (5, (.aload_n 0, 1, 0, 0, 0, 0)), (6, (.invokevirtual 159, 3, 259, 1, 9, 0)), (9, (.iconst 0, 1, 0, 0, 0, 0)), (10, (.istore_n 1, 1, 0, 0, 0, 0)), (11, (.iload_n 1, 1, 0, 0, 0, 0)), (12, (.iconst 4, 1, 0, 0, 0, 0)), (13, (.if_icmp .ge 23, 3, 36, 0, 0, 0)), (16, (.aload_n 0, 1, 0, 0, 0, 0)), (17, (.getfield 63, 3, 30, 9, 2, 0)), (20, (.iload_n 1, 1, 0, 0, 0, 0)), (21, (.iconst 0, 1, 0, 0, 0, 0)), (22, (.iastore, 1, 0, 0, 0, 0)), (23, (.aload_n 0, 1, 0, 0, 0, 0)), (24, (.getfield 66, 3, 31, 9, 2, 0)), (27, (.iload_n 1, 1, 0, 0, 0, 0)), (28, (.iload_n 1, 1, 0, 0, 0, 0)), (29, (.iastore, 1, 0, 0, 0, 0)), (30, (.iinc 1 1, 3, 0, 0, 0, 0)), (33, (.goto (-22), 3, 11, 0, 0, 0)), (36, (.aload_n 0, 1, 0, 0, 0, 0)), (37, (.iconst 0, 1, 0, 0, 0, 0)), (38, (.putfield 319, 3, 36, 9, 0, 0)), (41, (.aload_n 0, 1, 0, 0, 0, 0)), (42, (.iconst 0, 1, 0, 0, 0, 0)), (43, (.putfield 322, 3, 37, 9, 0, 0)), (46, (.aload_n 0, 1, 0, 0, 0, 0)), (47, (.iconst 0, 1, 0, 0, 0, 0)), (48, (.putfield 338, 3, 40, 9, 0, 0)), (51, (.aload_n 0, 1, 0, 0, 0, 0)), (52, (.iconst 0, 1, 0, 0, 0, 0)), (53, (.invokevirtual 341, 3, 262, 2, 9, 0)), (56, (.aload_n 0, 1, 0, 0, 0, 0)), (57, (.getfield 319, 3, 36, 9, 0, 0)), (60, (.ifCond .le 102, 3, 162, 0, 0, 0)), (63, (.aload_n 0, 1, 0, 0, 0, 0)), (64, (.getfield 338, 3, 40, 9, 0, 0)), (67, (.sipush 200, 3, 0, 0, 0, 0)), (70, (.if_icmp .ge 92, 3, 162, 0, 0, 0)), (73, (.aload_n 0, 1, 0, 0, 0, 0)), (74, (.getfield 69, 3, 32, 9, 2, 0)), (77, (.aload_n 0, 1, 0, 0, 0, 0)), (78, (.getfield 319, 3, 36, 9, 0, 0)), (81, (.iconst 1, 1, 0, 0, 0, 0)), (82, (.isub, 1, 0, 0, 0, 0)), (83, (.iaload, 1, 0, 0, 0, 0)), (84, (.istore_n 1, 1, 0, 0, 0, 0)), (85, (.aload_n 0, 1, 0, 0, 0, 0)), (86, (.getfield 72, 3, 33, 9, 2, 0)), (89, (.aload_n 0, 1, 0, 0, 0, 0)), (90, (.getfield 319, 3, 36, 9, 0, 0)), (93, (.iconst 1, 1, 0, 0, 0, 0)), (94, (.isub, 1, 0, 0, 0, 0)), (95, (.iaload, 1, 0, 0, 0, 0)), (96, (.aload_n 0, 1, 0, 0, 0, 0)), (97, (.getfield 22, 3, 5, 9, 2, 0)), (100, (.iload_n 1, 1, 0, 0, 0, 0)), (101, (.iaload, 1, 0, 0, 0, 0)), (102, (.if_icmp .ne 10, 3, 112, 0, 0, 0)), (105, (.aload_n 0, 1, 0, 0, 0, 0)), (106, (.invokevirtual 344, 3, 266, 1, 9, 0)), (109, (.goto (-53), 3, 56, 0, 0, 0)), (112, (.bipush 12, 2, 0, 0, 0, 0)), (114, (.iload_n 1, 1, 0, 0, 0, 0)), (115, (.imul, 1, 0, 0, 0, 0)), (116, (.aload_n 0, 1, 0, 0, 0, 0)), (117, (.getfield 72, 3, 33, 9, 2, 0)), (120, (.aload_n 0, 1, 0, 0, 0, 0)), (121, (.getfield 319, 3, 36, 9, 0, 0)), (124, (.iconst 1, 1, 0, 0, 0, 0)), (125, (.isub, 1, 0, 0, 0, 0)), (126, (.iaload, 1, 0, 0, 0, 0)), (127, (.iadd, 1, 0, 0, 0, 0)), (128, (.istore_n 2, 1, 0, 0, 0, 0)), (129, (.aload_n 0, 1, 0, 0, 0, 0)), (130, (.getfield 72, 3, 33, 9, 2, 0)), (133, (.aload_n 0, 1, 0, 0, 0, 0)), (134, (.getfield 319, 3, 36, 9, 0, 0)), (137, (.iconst 1, 1, 0, 0, 0, 0)), (138, (.isub, 1, 0, 0, 0, 0)), (139, (.dup2, 1, 0, 0, 0, 0)), (140, (.iaload, 1, 0, 0, 0, 0)), (141, (.iconst 1, 1, 0, 0, 0, 0)), (142, (.iadd, 1, 0, 0, 0, 0)), (143, (.iastore, 1, 0, 0, 0, 0)), (144, (.aload_n 0, 1, 0, 0, 0, 0)), (145, (.dup, 1, 0, 0, 0, 0)), (146, (.getfield 338, 3, 40, 9, 0, 0)), (149, (.iconst 1, 1, 0, 0, 0, 0)), (150, (.iadd, 1, 0, 0, 0, 0)), (151, (.putfield 338, 3, 40, 9, 0, 0)), (154, (.aload_n 0, 1, 0, 0, 0, 0)), (155, (.iload_n 2, 1, 0, 0, 0, 0)), (156, (.invokevirtual 347, 3, 265, 2, 9, 0)), (159, (.goto (-103), 3, 56, 0, 0, 0)), (162, (.aload_n 0, 1, 0, 0, 0, 0)), (163, (.getfield 338, 3, 40, 9, 0, 0)), (166, (.ireturn, 1, 0, 0, 0, 0))]
def kk_267 (q : Nat) : Option Ent := lkp k_267 q
def k_268 : List (Nat × Ent) := [(0, (.iload_n 1, 1, 0, 0, 0, 0)), (1, (.invokestatic 251, 3, 180, 1, 9, 0)), (4, (.ifCond .ne 10, 3, 14, 0, 0, 0)), (7, (.aload_n 0, 1, 0, 0, 0, 0)), (8, (.iconst 1, 1, 0, 0, 0, 0)), (9, (.invokevirtual 98, 3, 175, 2, 9, 0)), (12, (.i2l, 1, 0, 0, 0, 0)), (13, (.lreturn, 1, 0, 0, 0, 0)), (14, (.aload_n 0, 1, 0, 0, 0, 0)), (15, (.iconst 0, 1, 0, 0, 0, 0)), (16, (.putfield 84, 3, 0, 9, 0, 0)), (19, (.aload_n 0, 1, 0, 0, 0, 0)), (20, (.getfield 78, 3, 35, 9, 2, 0)), (23, (.iload_n 1, 1, 0, 0, 0, 0)), (24, (.laload, 1, 0, 0, 0, 0)), (25, (.lreturn, 1, 0, 0, 0, 0))]
def kk_268 (q : Nat) : Option Ent := lkp k_268 q
def k_269 : List (Nat × Ent) := [(0, (.aload_n 0, 1, 0, 0, 0, 0)), (1, (.iload_n 1, 1, 0, 0, 0, 0)), (2, (.iload_n 2, 1, 0, 0, 0, 0)), (3, (.invokevirtual 257, 3, 230, 3, 9, 0)), (6, (.ifCond .ne 10, 3, 16, 0, 0, 0)), (9, (.aload_n 0, 1, 0, 0, 0, 0)), (10, (.iconst 1, 1, 0, 0, 0, 0)), (11, (.invokevirtual 98, 3, 175, 2, 9, 0)), (14, (.i2l, 1, 0, 0, 0, 0)), (15, (.lreturn, 1, 0, 0, 0, 0)), (16, (.aload_n 0, 1, 0, 0, 0, 0)), (17, (.iconst 0, 1, 0, 0, 0, 0)), (18, (.putfield 84, 3, 0, 9, 0, 0)), (21, (.aload_n 0, 1, 0, 0, 0, 0)), (22, (.getfield 78, 3, 35, 9, 2, 0)), (25, (.bipush 20, 2, 0, 0, 0, 0)), (27, (.iconst 3, 1, 0, 0, 0, 0)), (28, (.iload_n 1, 1, 0, 0, 0, 0)), (29, (.imul, 1, 0, 0, 0, 0)), (30, (.iadd, 1, 0, 0, 0, 0)), (31, (.iload_n 2, 1, 0, 0, 0, 0)), (32, (.iadd, 1, 0, 0, 0, 0)), (33, (.laload, 1, 0, 0, 0, 0)), (34, (.lreturn, 1, 0, 0, 0, 0))]
def kk_269 (q : Nat) : Option Ent := lkp k_269 q
def k_270 : List (Nat × Ent) := [(0, (.aload_n 0, 1, 0, 0, 0, 0)), (1, (.iconst 0, 1, 0, 0, 0, 0)), (2, (.putfield 84, 3, 0, 9, 0, 0)), (5, (.aload_n 0, 1, 0, 0, 0, 0)), (6, (.getfield 313, 3, 39, 9, 0, 0)), (9, (.ireturn, 1, 0, 0, 0, 0))]
def kk_270 (q : Nat) : Option Ent := lkp k_270 q
def k_271 : List (Nat × Ent) := [(0, (.aload_n 0, 1, 0, 0, 0, 0)), (1, (.iconst 0, 1, 0, 0, 0, 0)), (2, (.putfield 84, 3, 0, 9, 0, 0)), (5, (.aload_n 0, 1, 0, 0, 0, 0)), (6, (.getfield 316, 3, 38, 9, 0, 0)), (9, (.ireturn, 1, 0, 0, 0, 0))]
def kk_271 (q : Nat) : Option Ent := lkp k_271 q
def k_272 : List (Nat × Ent) := [(0, (.iconst 0, 1, 0, 0, 0, 0)), (1, (.istore_n 1, 1, 0, 0, 0, 0)), (2, (.iconst 0, 1, 0, 0, 0, 0)), (3, (.istore_n 2, 1, 0, 0, 0, 0)), (4, (.iconst 0, 1, 0, 0, 0, 0)), (5, (.istore_n 3, 1, 0, 0, 0, 0)), (6, (.iload_n 3, 1, 0, 0, 0, 0)), (7, (.bipush 20, 2, 0, 0, 0, 0)), (9, (.if_icmp .ge 31, 3, 40, 0, 0, 0)), (12, (.iload_n 1, 1, 0, 0, 0, 0)), (13, (.aload_n 0, 1, 0, 0, 0, 0)), (14, (.iload_n 3, 1, 0, 0, 0, 0)), (15, (.invokevirtual 254, 3, 227, 2, 9, 0)), (18, (.invokestatic 260, 3, 178, 1, 9, 0)), (21, (.iadd, 1, 0, 0, 0, 0)), (22, (.istore_n 1, 1, 0, 0, 0, 0)), (23, (.iload_n 2, 1, 0, 0, 0, 0)), (24, (.aload_n 0, 1, 0, 0, 0, 0)), (25, (.iload_n 3, 1, 0, 0, 0, 0)), (26, (.invokevirtual 299, 3, 248, 2, 9, 0)), (29, (.invokestatic 260, 3, 178, 1, 9, 0)), (32, (.iadd, 1, 0, 0, 0, 0)), (33, (.istore_n 2, 1, 0, 0, 0, 0)), (34, (.iinc 3 1, 3, 0, 0, 0, 0)), (37, (.goto (-31), 3, 6, 0, 0, 0)), (40, (.aload_n 0, 1, 0, 0, 0, 0)), (41, (.iload_n 2, 1, 0, 0, 0, 0)), (42, (.ifCond .ne 7, 3, 49, 0, 0, 0)), (45, (.iconst 1, 1, 0, 0, 0, 0)), (46, (.goto 4, 3, 50, 0, 0, 0)), (49, (.iconst 0, 1, 0, 0, 0, 0)), (50, (.putfield 84, 3, 0, 9, 0, 0)), (53, (.iload_n 2, 1, 0, 0, 0, 0)), (54, (.ifCond .ne 7, 3, 61, 0, 0, 0)), (57, (.dconst 0, 1, 0, 0, 0, 0)), (58, (.goto 8, 3, 66, 0, 0, 0)), (61, (.iload_n 1, 1, 0, 0, 0, 0)), (62, (.i2d, 1, 0, 0, 0, 0)), (63, (.iload_n 2, 1, 0, 0, 0, 0)), (64, (.i2d, 1, 0, 0, 0, 0)), (65, (.ddiv, 1, 0, 0, 0, 0)), (66, (.dreturn, 1, 0, 0, 0, 0))]
def kk_272 (q : Nat) : Option Ent := lkp k_272 q
def k_273 : List (Nat × Ent) := [(0, (.iconst 0, 1, 0, 0, 0, 0)), (1, (.istore_n 1, 1, 0, 0, 0, 0)), (2, (.iconst 0, 1, 0, 0, 0, 0)), (3, (.istore_n 2, 1, 0, 0, 0, 0)), (4, (.iconst 0, 1, 0, 0, 0, 0)), (5, (.istore_n 3, 1, 0, 0, 0, 0)), (6, (.iload_n 3, 1, 0, 0, 0, 0)), (7, (.bipush 20, 2, 0, 0, 0, 0)), (9, (.if_icmp .ge 38, 3, 47, 0, 0, 0)), (12, (.iload_n 1, 1, 0, 0, 0, 0)), (13, (.aload_n 0, 1, 0, 0, 0, 0)), (14, (.iload_n 3, 1, 0, 0, 0, 0)), (15, (.invokevirtual 254, 3, 227, 2, 9, 0)), (18, (.invokestatic 260, 3, 178, 1, 9, 0)), (21, (.iadd, 1, 0, 0, 0, 0)), (22, (.istore_n 1, 1, 0, 0, 0, 0)), (23, (.iload_n 2, 1, 0, 0, 0, 0)), (24, (.aload_n 0, 1, 0, 0, 0, 0)), (25, (.iload_n 3, 1, 0, 0, 0, 0)), (26, (.invokevirtual 254, 3, 227, 2, 9, 0)), (29, (.lconst 0, 1, 0, 0, 0, 0)), (30, (.lcmp, 1, 0, 0, 0, 0)), (31, (.ifCond .eq 7, 3, 38, 0, 0, 0)), (34, (.iconst 1, 1, 0, 0, 0, 0)), (35, (.goto 4, 3, 39, 0, 0, 0)), (38, (.iconst 0, 1, 0, 0, 0, 0)), (39, (.iadd, 1, 0, 0, 0, 0)), (40, (.istore_n 2, 1, 0, 0, 0, 0)), (41, (.iinc 3 1, 3, 0, 0, 0, 0)), (44, (.goto (-38), 3, 6, 0, 0, 0)), (47, (.aload_n 0, 1, 0, 0, 0, 0)), (48, (.iload_n 2, 1, 0, 0, 0, 0)), (49, (.ifCond .ne 7, 3, 56, 0, 0, 0)), (52, (.iconst 1, 1, 0, 0, 0, 0)), (53, (.goto 4, 3, 57, 0, 0, 0)), (56, (.iconst 0, 1, 0, 0, 0, 0)), (57, (.putfield 84, 3, 0, 9, 0, 0)), (60, (.iload_n 2, 1, 0, 0, 0, 0)), (61, (.ifCond .ne 7, 3, 68, 0, 0, 0)), (64, (.fconst 0, 1, 0, 0, 0, 0)), (65, (.goto 8, 3, 73, 0, 0, 0)), (68, (.iload_n 1, 1, 0, 0, 0, 0)), (69, (.i2f, 1, 0, 0, 0, 0)), (70, (.iload_n 2, 1, 0, 0, 0, 0)), (71, (.i2f, 1, 0, 0, 0, 0)), (72, (.fdiv, 1, 0, 0, 0, 0)), (73, (.freturn, 1, 0, 0, 0, 0))]
def kk_273 (q : Nat) : Option Ent := lkp k_273 q
def k_274 : List (Nat × Ent) := [(0, (.aload_n 0, 1, 0, 0, 0, 0)), (1, (.getfield 350, 3, 43, 9, 1, 0)), (4, (.ifCond .eq 7, 3, 11, 0, 0, 0)), (7, (.iload_n 1, 1, 0, 0, 0, 0)), (8, (.goto 12, 3, 20, 0, 0, 0)), (11, (.aload_n 0, 1, 0, 0, 0, 0)), (12, (.getfield 81, 3, 41, 9, 2, 0)), (15, (.aload_n 0, 1, 0, 0, 0, 0)), (16, (.getfield 353, 3, 44, 9, 0, 0)), (19, (.iaload, 1, 0, 0, 0, 0)), (20, (.istore_n 2, 1, 0, 0, 0, 0)), (21, (.aload_n 0, 1, 0, 0, 0, 0)), (22, (.getfield 81, 3, 41, 9, 2, 0)), (25, (.aload_n 0, 1, 0, 0, 0, 0)), (26, (.getfield 353, 3, 44, 9, 0, 0)), (29, (.iload_n 2, 1, 0, 0, 0, 0)), (30, (.iastore, 1, 0, 0, 0, 0)), (31, (.aload_n 0, 1, 0, 0, 0, 0)), (32, (.dup, 1, 0, 0, 0, 0)), (33, (.getfield 353, 3, 44, 9, 0, 0)), (36, (.iconst 1, 1, 0, 0, 0, 0)), (37, (.iadd, 1, 0, 0, 0, 0)), (38, (.putfield 353, 3, 44, 9, 0, 0)), (41, (.iload_n 2, 1, 0, 0, 0, 0)), (42, (.ireturn, 1, 0, 0, 0, 0))]
def kk_274 (q : Nat) : Option Ent := lkp k_274 q
def k_275 : List (Nat × Ent) := [(0, (.aload_n 0, 1, 0, 0, 0, 0)), (1, (.iload_n 1, 1, 0, 0, 0, 0)), (2, (.putfield 350, 3, 43, 9, 1, 0)), (5, (.aload_n 0, 1, 0, 0, 0, 0)), (6, (.iconst 0, 1, 0, 0, 0, 0)), (7, (.putfield 353, 3, 44, 9, 0, 0)), (10, (.aload_n 0, 1, 0, 0, 0, 0)), (11, (.aload_n 0, 1, 0, 0, 0, 0)), (12, (.aload_n 0, 1, 0, 0, 0, 0)), (13, (.getfield 171, 3, 6, 9, 0, 0)), (16, (.invokevirtual 356, 3, 274, 2, 9, 0)), (19, (.putfield 171, 3, 6, 9, 0, 0)), (22, (.iconst 0, 1, 0, 0, 0, 0)), (23, (.istore_n 2, 1, 0, 0, 0, 0)), (24, (.iload_n 2, 1, 0, 0, 0, 0)), (25, (.iconst 4, 1, 0, 0, 0, 0)), (26, (.if_icmp .ge 25, 3, 51, 0, 0, 0)), (29, (.aload_n 0, 1, 0, 0, 0, 0)), (30, (.getfield 22, 3, 5, 9, 2, 0)), (33, (.iload_n 2, 1, 0, 0, 0, 0)), (34, (.aload_n 0, 1, 0, 0, 0, 0)), (35, (.aload_n 0, 1, 0, 0, 0, 0)), (36, (.getfield 22, 3, 5, 9, 2, 0)), (39, (.iload_n 2, 1, 0, 0, 0, 0)), (40, (.iaload, 1, 0, 0, 0, 0)), (41, (.invokevirtual 356, 3, 274, 2, 9, 0)), (44, (.iastore, 1, 0, 0, 0, 0)), (45, (.iinc 2 1, 3, 0, 0, 0, 0)), (48, (.goto (-24), 3, 24, 0, 0, 0)), (51, (.iconst 0, 1, 0, 0, 0, 0)), (52, (.istore_n 2, 1, 0, 0, 0, 0)), (53, (.iload_n 2, 1, 0, 0, 0, 0)), (54, (.bipush 48, 2, 0, 0, 0, 0)), (56, (.if_icmp .ge 73, 3, 129, 0, 0, 0)), (59, (.aload_n 0, 1, 0, 0, 0, 0)), (60, (.getfield 7, 3, 1, 9, 2, 0)), (63, (.iload_n 2, 1, 0, 0, 0, 0)), (64, (.aload_n 0, 1, 0, 0, 0, 0)), (65, (.aload_n 0, 1, 0, 0, 0, 0)), (66, (.getfield 7, 3, 1, 9, 2, 0)), (69, (.iload_n 2, 1, 0, 0, 0, 0)), (70, (.iaload, 1, 0, 0, 0, 0)), (71, (.invokevirtual 356, 3, 274, 2, 9, 0)), (74, (.iastore, 1, 0, 0, 0, 0)), (75, (.aload_n 0, 1, 0, 0, 0, 0)), (76, (.getfield 13, 3, 2, 9, 2, 0)), (79, (.iload_n 2, 1, 0, 0, 0, 0)), (80, (.aload_n 0, 1, 0, 0, 0, 0)), (81, (.aload_n 0, 1, 0, 0, 0, 0)), (82, (.getfield 13, 3, 2, 9, 2, 0)), (85, (.iload_n 2, 1, 0, 0, 0, 0)), (86, (.iaload, 1, 0, 0, 0, 0)), (87, (.invokevirtual 356, 3, 274, 2, 9, 0)), (90, (.iastore, 1, 0, 0, 0, 0)), (91, (.aload_n 0, 1, 0, 0, 0, 0)), (92, (.getfield 16, 3, 3, 9, 2, 0)), (95, (.iload_n 2, 1, 0, 0, 0, 0)), (96, (.aload_n 0, 1, 0, 0, 0, 0)), (97, (.aload_n 0, 1, 0, 0, 0, 0)), (98, (.getfield 16, 3, 3, 9, 2, 0)), (101, (.iload_n 2, 1, 0, 0, 0, 0)), (102, (.iaload, 1, 0, 0, 0, 0)), (103, (.invokevirtual 356, 3, 274, 2, 9, 0)), (106, (.iastore, 1, 0, 0, 0, 0)), (107, (.aload_n 0, 1, 0, 0, 0, 0)), (108, (.getfield 19, 3, 4, 9, 2, 0)), (111, (.iload_n 2, 1, 0, 0, 0, 0)), (112, (.aload_n 0, 1, 0, 0, 0, 0)), (113, (.aload_n 0, 1, 0, 0, 0, 0)), (114, (.getfield 19, 3, 4, 9, 2, 0)), (117, (.iload_n 2, 1, 0, 0, 0, 0)), (118, (.iaload, 1, 0, 0, 0, 0)), (119, (.invokevirtual 356, 3, 274, 2, 9, 0)), (122, (.iastore, 1, 0, 0, 0, 0)), (123, (.iinc 2 1, 3, 0, 0, 0, 0)), (126, (.goto (-73), 3, 53, 0, 0, 0)), (129, (.return_, 1, 0, 0, 0, 0))]
def kk_275 (q : Nat) : Option Ent := lkp k_275 q
def k_276 : List (Nat × Ent) := [(0, (.aload_n 0, 1, 0, 0, 0, 0)), (1, (.iconst 0, 1, 0, 0, 0, 0)), (2, (.putfield 84, 3, 0, 9, 0, 0)), (5, (.aload_n 0, 1, 0, 0, 0, 0)), (6, (.iconst 1, 1, 0, 0, 0, 0)), (7, (.putfield 359, 3, 42, 9, 1, 0)), (10, (.aload_n 0, 1, 0, 0, 0, 0)), (11, (.iconst 1, 1, 0, 0, 0, 0)), (12, (.invokevirtual 362, 3, 275, 2, 9, 0)), (15, (.return_, 1, 0, 0, 0, 0))]
def kk_276 (q : Nat) : Option Ent := lkp k_276 q
def k_277 : List (Nat × Ent) := [(0, (.aload_n 0, 1, 0, 0, 0, 0)), (1, (.aload_n 0, 1, 0, 0, 0, 0)), (2, (.getfield 359, 3, 42, 9, 1, 0)), (5, (.ifCond .eq 7, 3, 12, 0, 0, 0)), (8, (.iconst 0, 1, 0, 0, 0, 0)), (9, (.goto 4, 3, 13, 0, 0, 0)), (12, (.iconst 1, 1, 0, 0, 0, 0)), (13, (.putfield 84, 3, 0, 9, 0, 0)), (16, (.aload_n 0, 1, 0, 0, 0, 0)), (17, (.getfield 359, 3, 42, 9, 1, 0)), (20, (.ifCond .ne 4, 3, 24, 0, 0, 0)), (23, (.return_, 1, 0, 0, 0, 0)), (24, (.aload_n 0, 1, 0, 0, 0, 0)), (25, (.iconst 0, 1, 0, 0, 0, 0)), (26, (.invokevirtual 362, 3, 275, 2, 9, 0)), (29, (.aload_n 0, 1, 0, 0, 0, 0)), (30, (.iconst 0, 1, 0, 0, 0, 0)), (31, (.putfield 155, 3, 19, 9, 1, 0)), (34, (.aload_n 0, 1, 0, 0, 0, 0)), (35, (.invokevirtual 159, 3, 259, 1, 9, 0)), (38, (.return_, 1, 0, 0, 0, 0))]
def kk_277 (q : Nat) : Option Ent := lkp k_277 q
def k_278 : List (Nat × Ent) := [(0, (.lload_n 0, 1, 0, 0, 0, 0)), (1, (.lload_n 0, 1, 0, 0, 0, 0)), (2, (.iconst 1, 1, 0, 0, 0, 0)), (3, (.lushr, 1, 0, 0, 0, 0)), (4, (.ldc2_w 314, 3, 0, 0, 0, 6148914691236517205)), (7, (.land, 1, 0, 0, 0, 0)), (8, (.lsub, 1, 0, 0, 0, 0)), (9, (.lstore_n 0, 1, 0, 0, 0, 0)), (10, (.lload_n 0, 1, 0, 0, 0, 0)), (11, (.ldc2_w 316, 3, 0, 0, 0, 3689348814741910323)), (14, (.land, 1, 0, 0, 0, 0)), (15, (.lload_n 0, 1, 0, 0, 0, 0)), (16, (.iconst 2, 1, 0, 0, 0, 0)), (17, (.lushr, 1, 0, 0, 0, 0)), (18, (.ldc2_w 316, 3, 0, 0, 0, 3689348814741910323)), (21, (.land, 1, 0, 0, 0, 0)), (22, (.ladd, 1, 0, 0, 0, 0)), (23, (.lstore_n 0, 1, 0, 0, 0, 0)), (24, (.lload_n 0, 1, 0, 0, 0, 0)), (25, (.lload_n 0, 1, 0, 0, 0, 0)), (26, (.iconst 4, 1, 0, 0, 0, 0)), (27, (.lushr, 1, 0, 0, 0, 0)), (28, (.ladd, 1, 0, 0, 0, 0)), (29, (.ldc2_w 318, 3, 0, 0, 0, 1085102592571150095)), (32, (.land, 1, 0, 0, 0, 0)), (33, (.lstore_n 0, 1, 0, 0, 0, 0)), (34, (.lload_n 0, 1, 0, 0, 0, 0)), (35, (.lload_n 0, 1, 0, 0, 0, 0)), (36, (.bipush 8, 2, 0, 0, 0, 0)), (38, (.lushr, 1, 0, 0, 0, 0)), (39, (.ladd, 1, 0, 0, 0, 0)), (40, (.lstore_n 0, 1, 0, 0, 0, 0)), (41, (.lload_n 0, 1, 0, 0, 0, 0)), (42, (.lload_n 0, 1, 0, 0, 0, 0)), (43, (.bipush 16, 2, 0, 0, 0, 0)), (45, (.lushr, 1, 0, 0, 0, 0)), (46, (.ladd, 1, 0, 0, 0, 0)), (47, (.lstore_n 0, 1, 0, 0, 0, 0)), (48, (.lload_n 0, 1, 0, 0, 0, 0)), (49, (.lload_n 0, 1, 0, 0, 0, 0)), (50, (.bipush 32, 2, 0, 0, 0, 0)), (52, (.lushr, 1, 0, 0, 0, 0)), (53, (.ladd, 1, 0, 0, 0, 0)), (54, (.lstore_n 0, 1, 0, 0, 0, 0)), (55, (.lload_n 0, 1, 0, 0, 0, 0)), (56, (.l2i, 1, 0, 0, 0, 0)), (57, (.bipush 127, 2, 0, 0, 0, 0)), (59, (.iand, 1, 0, 0, 0, 0)), (60, (.ireturn, 1, 0, 0, 0, 0))]
def kk_278 (q : Nat) : Option Ent := lkp k_278 q
def k_279 : List (Nat × Ent) := [(0, (.aload_n 2, 1, 0, 0, 0, 0)), (1, (.iconst 0, 1, 0, 0, 0, 0)), (2, (.aload_n 0, 1, 0, 0, 0, 0)), (3, (.iload_n 1, 1, 0, 0, 0, 0)), (4, (.invokevirtual 7, 3, 121, 2, 8, 2)), (7, (.i2l, 1, 0, 0, 0, 0)), (8, (.lastore, 1, 0, 0, 0, 0)), (9, (.goto 9, 3, 18, 0, 0, 0)), (12, (.astore_n 3, 1, 0, 0, 0, 0)), (13, (.iconst 1, 1, 0, 0, 0, 0)), (14, (.ireturn, 1, 0, 0, 0, 0)), (15, (.astore_n 3, 1, 0, 0, 0, 0)), (16, (.iconst 2, 1, 0, 0, 0, 0)), (17, (.ireturn, 1, 0, 0, 0, 0)), (18, (.iconst 0, 1, 0, 0, 0, 0)), (19, (.ireturn, 1, 0, 0, 0, 0))]
def kk_279 (q : Nat) : Option Ent := lkp k_279 q
def k_280 : List (Nat × Ent) := [(0, (.aload_n 2, 1, 0, 0, 0, 0)), (1, (.iconst 0, 1, 0, 0, 0, 0)), (2, (.aload_n 0, 1, 0, 0, 0, 0)), (3, (.iload_n 1, 1, 0, 0, 0, 0)), (4, (.invokevirtual 17, 3, 122, 2, 8, 3)), (7, (.i2l, 1, 0, 0, 0, 0)), (8, (.lastore, 1, 0, 0, 0, 0)), (9, (.goto 12, 3, 21, 0, 0, 0)), (12, (.astore_n 3, 1, 0, 0, 0, 0)), (13, (.iconst 1, 1, 0, 0, 0, 0)), (14, (.ireturn, 1, 0, 0, 0, 0)), (15, (.astore_n 3, 1, 0, 0, 0, 0)), (16, (.iconst 2, 1, 0, 0, 0, 0)), (17, (.ireturn, 1, 0, 0, 0, 0)), (18, (.astore_n 3, 1, 0, 0, 0, 0)), (19, (.iconst 3, 1, 0, 0, 0, 0)), (20, (.ireturn, 1, 0, 0, 0, 0)), (21, (.iconst 0, 1, 0, 0, 0, 0)), (22, (.ireturn, 1, 0, 0, 0, 0))]
def kk_280 (q : Nat) : Option Ent := lkp k_280 q
def k_281 : List (Nat × Ent) := [(0, (.aload_n 2, 1, 0, 0, 0, 0)), (1, (.iconst 0, 1, 0, 0, 0, 0)), (2, (.aload_n 0, 1, 0, 0, 0, 0)), (3, (.iload_n 1, 1, 0, 0, 0, 0)), (4, (.invokevirtual 22, 3, 125, 2, 8, 1)), (7, (.i2l, 1, 0, 0, 0, 0)), (8, (.lastore, 1, 0, 0, 0, 0)), (9, (.goto 6, 3, 15, 0, 0, 0)), (12, (.astore_n 3, 1, 0, 0, 0, 0)), (13, (.iconst 1, 1, 0, 0, 0, 0)), (14, (.ireturn, 1, 0, 0, 0, 0)), (15, (.iconst 0, 1, 0, 0, 0, 0)), (16, (.ireturn, 1, 0, 0, 0, 0))]
def kk_281 (q : Nat) : Option Ent := lkp k_281 q
def k_282 : List (Nat × Ent) := [(0, (.aload_n 2, 1, 0, 0, 0, 0)), (1, (.iconst 0, 1, 0, 0, 0, 0)), (2, (.aload_n 0, 1, 0, 0, 0, 0)), (3, (.iload_n 1, 1, 0, 0, 0, 0)), (4, (.invokevirtual 25, 3, 126, 2, 8, 1)), (7, (.i2l, 1, 0, 0, 0, 0)), (8, (.lastore, 1, 0, 0, 0, 0)), (9, (.goto 6, 3, 15, 0, 0, 0)), (12, (.astore_n 3, 1, 0, 0, 0, 0)), (13, (.iconst 1, 1, 0, 0, 0, 0)), (14, (.ireturn, 1, 0, 0, 0, 0)), (15, (.iconst 0, 1, 0, 0, 0, 0)), (16, (.ireturn, 1, 0, 0, 0, 0))]
def kk_282 (q : Nat) : Option Ent := lkp k_282 q
def k_283 : List (Nat × Ent) := [(0, (.aload_n 2, 1, 0, 0, 0, 0)), (1, (.iconst 0, 1, 0, 0, 0, 0)), (2, (.aload_n 0, 1, 0, 0, 0, 0)), (3, (.iload_n 1, 1, 0, 0, 0, 0)), (4, (.invokevirtual 28, 3, 128, 2, 8, 1)), (7, (.i2l, 1, 0, 0, 0, 0)), (8, (.lastore, 1, 0, 0, 0, 0)), (9, (.goto 6, 3, 15, 0, 0, 0)), (12, (.astore_n 3, 1, 0, 0, 0, 0)), (13, (.iconst 1, 1, 0, 0, 0, 0)), (14, (.ireturn, 1, 0, 0, 0, 0)), (15, (.iconst 0, 1, 0, 0, 0, 0)), (16, (.ireturn, 1, 0, 0, 0, 0))]
def kk_283 (q : Nat) : Option Ent := lkp k_283 q
def k_284 : List (Nat × Ent) := [(0, (.aload_n 2, 1, 0, 0, 0, 0)), (1, (.iconst 0, 1, 0, 0, 0, 0)), (2, (.aload_n 0, 1, 0, 0, 0, 0)), (3, (.iload_n 1, 1, 0, 0, 0, 0)), (4, (.invokevirtual 31, 3, 129, 2, 8, 1)), (7, (.i2l, 1, 0, 0, 0, 0)), (8, (.lastore, 1, 0, 0, 0, 0)), (9, (.goto 6, 3, 15, 0, 0, 0)), (12, (.astore_n 3, 1, 0, 0, 0, 0)), (13, (.iconst 1, 1, 0, 0, 0, 0)), (14, (.ireturn, 1, 0, 0, 0, 0)), (15, (.iconst 0, 1, 0, 0, 0, 0)), (16, (.ireturn, 1, 0, 0, 0, 0))]
def kk_284 (q : Nat) : Option Ent := lkp k_284 q
def k_285 : List (Nat × Ent) := [(0, (.aload_n 3, 1, 0, 0, 0, 0)), (1, (.iconst 0, 1, 0, 0, 0, 0)), (2, (.aload_n 0, 1, 0, 0, 0, 0)), (3, (.iload_n 1, 1, 0, 0, 0, 0)), (4, (.iload_n 2, 1, 0, 0, 0, 0)), (5, (.invokevirtual 34, 3, 130, 3, 8, 2)), (8, (.i2l, 1, 0, 0, 0, 0)), (9, (.lastore, 1, 0, 0, 0, 0)), (10, (.goto 7, 3, 17, 0, 0, 0)), (13, (.astore 4, 2, 0, 0, 0, 0)), (15, (.iconst 1, 1, 0, 0, 0, 0)), (16, (.ireturn, 1, 0, 0, 0, 0)), (17, (.iconst 0, 1, 0, 0, 0, 0)), (18, (.ireturn, 1, 0, 0, 0, 0))]
def kk_285 (q : Nat) : Option Ent := lkp k_285 q
def k_286 : List (Nat × Ent) := [(0, (.aload 4, 2, 0, 0, 0, 0)), (2, (.iconst 0, 1, 0, 0, 0, 0)), (3, (.aload_n 0, 1, 0, 0, 0, 0)), (4, (.iload_n 1, 1, 0, 0, 0, 0)), (5, (.iload_n 2, 1, 0, 0, 0, 0)), (6, (.iload_n 3, 1, 0, 0, 0, 0)), (7, (.invokevirtual 38, 3, 131, 4, 8, 3)), (10, (.i2l, 1, 0, 0, 0, 0)), (11, (.lastore, 1, 0, 0, 0, 0)), (12, (.goto 7, 3, 19, 0, 0, 0)), (15, (.astore 5, 2, 0, 0, 0, 0)), (17, (.iconst 1, 1, 0, 0, 0, 0)), (18, (.ireturn, 1, 0, 0, 0, 0)), (19, (.iconst 0, 1, 0, 0, 0, 0)), (20, (.ireturn, 1, 0, 0, 0, 0))]
def kk_286 (q : Nat) : Option Ent := lkp k_286 q
def k_287 : List (Nat × Ent) := [(0, (.aload_n 2, 1, 0, 0, 0, 0)), (1, (.iconst 0, 1, 0, 0, 0, 0)), (2, (.aload_n 0, 1, 0, 0, 0, 0)), (3, (.iload_n 1, 1, 0, 0, 0, 0)), (4, (.invokevirtual 42, 3, 132, 2, 8, 1)), (7, (.lastore, 1, 0, 0, 0, 0)), (8, (.goto 6, 3, 14, 0, 0, 0)), (11, (.astore_n 3, 1, 0, 0, 0, 0)), (12, (.iconst 1, 1, 0, 0, 0, 0)), (13, (.ireturn, 1, 0, 0, 0, 0)), (14, (.iconst 0, 1, 0, 0, 0, 0)), (15, (.ireturn, 1, 0, 0, 0, 0))]
def kk_287 (q : Nat) : Option Ent := lkp k_287 q
def k_288 : List (Nat × Ent) := [(0, (.aload_n 3, 1, 0, 0, 0, 0)), (1, (.iconst 0, 1, 0, 0, 0, 0)), (2, (.aload_n 0, 1, 0, 0, 0, 0)), (3, (.iload_n 1, 1, 0, 0, 0, 0)), (4, (.iload_n 2, 1, 0, 0, 0, 0)), (5, (.invokevirtual 46, 3, 133, 3, 8, 4)), (8, (.lastore, 1, 0, 0, 0, 0)), (9, (.goto 7, 3, 16, 0, 0, 0)), (12, (.astore 4, 2, 0, 0, 0, 0)), (14, (.iconst 1, 1, 0, 0, 0, 0)), (15, (.ireturn, 1, 0, 0, 0, 0)), (16, (.iconst 0, 1, 0, 0, 0, 0)), (17, (.ireturn, 1, 0, 0, 0, 0))]
def kk_288 (q : Nat) : Option Ent := lkp k_288 q
def k_289 : List (Nat × Ent) := [(0, (.aload_n 3, 1, 0, 0, 0, 0)), (1, (.iconst 0, 1, 0, 0, 0, 0)), (2, (.aload_n 0, 1, 0, 0, 0, 0)), (3, (.iload_n 1, 1, 0, 0, 0, 0)), (4, (.iload_n 2, 1, 0, 0, 0, 0)), (5, (.invokevirtual 50, 3, 134, 3, 8, 1)), (8, (.lastore, 1, 0, 0, 0, 0)), (9, (.goto 7, 3, 16, 0, 0, 0)), (12, (.astore 4, 2, 0, 0, 0, 0)), (14, (.iconst 1, 1, 0, 0, 0, 0)), (15, (.ireturn, 1, 0, 0, 0, 0)), (16, (.iconst 0, 1, 0, 0, 0, 0)), (17, (.ireturn, 1, 0, 0, 0, 0))]
def kk_289 (q : Nat) : Option Ent := lkp k_289 q
def k_290 : List (Nat × Ent) := [(0, (.aload_n 3, 1, 0, 0, 0, 0)), (1, (.iconst 0, 1, 0, 0, 0, 0)), (2, (.aload_n 0, 1, 0, 0, 0, 0)), (3, (.iload_n 1, 1, 0, 0, 0, 0)), (4, (.iload_n 2, 1, 0, 0, 0, 0)), (5, (.invokevirtual 53, 3, 136, 3, 8, 2)), (8, (.ifCond .eq 7, 3, 15, 0, 0, 0)), (11, (.lconst 1, 1, 0, 0, 0, 0)), (12, (.goto 4, 3, 16, 0, 0, 0)), (15, (.lconst 0, 1, 0, 0, 0, 0)), (16, (.lastore, 1, 0, 0, 0, 0)), (17, (.goto 7, 3, 24, 0, 0, 0)), (20, (.astore 4, 2, 0, 0, 0, 0)), (22, (.iconst 1, 1, 0, 0, 0, 0)), (23, (.ireturn, 1, 0, 0, 0, 0)), (24, (.iconst 0, 1, 0, 0, 0, 0)), (25, (.ireturn, 1, 0, 0, 0, 0))]
def kk_290 (q : Nat) : Option Ent := lkp k_290 q
def k_291 : List (Nat × Ent) := [(0, (.aload_n 2, 1, 0, 0, 0, 0)), (1, (.iconst 0, 1, 0, 0, 0, 0)), (2, (.aload_n 0, 1, 0, 0, 0, 0)), (3, (.iload_n 1, 1, 0, 0, 0, 0)), (4, (.invokevirtual 57, 3, 137, 2, 8, 1)), (7, (.lastore, 1, 0, 0, 0, 0)), (8, (.goto 6, 3, 14, 0, 0, 0)), (11, (.astore_n 3, 1, 0, 0, 0, 0)), (12, (.iconst 1, 1, 0, 0, 0, 0)), (13, (.ireturn, 1, 0, 0, 0, 0)), (14, (.iconst 0, 1, 0, 0, 0, 0)), (15, (.ireturn, 1, 0, 0, 0, 0))]
def kk_291 (q : Nat) : Option Ent := lkp k_291 q
def k_292 : List (Nat × Ent) := [(0, (.aload_n 3, 1, 0, 0, 0, 0)), (1, (.iconst 0, 1, 0, 0, 0, 0)), (2, (.aload_n 0, 1, 0, 0, 0, 0)), (3, (.iload_n 1, 1, 0, 0, 0, 0)), (4, (.iload_n 2, 1, 0, 0, 0, 0)), (5, (.invokevirtual 60, 3, 139, 3, 8, 3)), (8, (.i2l, 1, 0, 0, 0, 0)), (9, (.lastore, 1, 0, 0, 0, 0)), (10, (.goto 11, 3, 21, 0, 0, 0)), (13, (.astore 4, 2, 0, 0, 0, 0)), (15, (.iconst 1, 1, 0, 0, 0, 0)), (16, (.ireturn, 1, 0, 0, 0, 0)), (17, (.astore 4, 2, 0, 0, 0, 0)), (19, (.iconst 2, 1, 0, 0, 0, 0)), (20, (.ireturn, 1, 0, 0, 0, 0)), (21, (.iconst 0, 1, 0, 0, 0, 0)), (22, (.ireturn, 1, 0, 0, 0, 0))]
def kk_292 (q : Nat) : Option Ent := lkp k_292 q
def k_293 : List (Nat × Ent) := [(0, (.aload_n 3, 1, 0, 0, 0, 0)), (1, (.iconst 0, 1, 0, 0, 0, 0)), (2, (.aload_n 0, 1, 0, 0, 0, 0)), (3, (.iload_n 1, 1, 0, 0, 0, 0)), (4, (.iload_n 2, 1, 0, 0, 0, 0)), (5, (.invokevirtual 65, 3, 140, 3, 8, 3)), (8, (.i2l, 1, 0, 0, 0, 0)), (9, (.lastore, 1, 0, 0, 0, 0)), (10, (.goto 11, 3, 21, 0, 0, 0)), (13, (.astore 4, 2, 0, 0, 0, 0)), (15, (.iconst 1, 1, 0, 0, 0, 0)), (16, (.ireturn, 1, 0, 0, 0, 0)), (17, (.astore 4, 2, 0, 0, 0, 0)), (19, (.iconst 2, 1, 0, 0, 0, 0)), (20, (.ireturn, 1, 0, 0, 0, 0)), (21, (.iconst 0, 1, 0, 0, 0, 0)), (22, (.ireturn, 1, 0, 0, 0, 0))]
def kk_293 (q : Nat) : Option Ent := lkp k_293 q
def k_294 : List (Nat × Ent) := [(0, (.aload_n 2, 1, 0, 0, 0, 0)), (1, (.iconst 0, 1, 0, 0, 0, 0)), (2, (.aload_n 0, 1, 0, 0, 0, 0)), (3, (.iload_n 1, 1, 0, 0, 0, 0)), (4, (.invokevirtual 68, 3, 142, 2, 8, 1)), (7, (.lastore, 1, 0, 0, 0, 0)), (8, (.goto 6, 3, 14, 0, 0, 0)), (11, (.astore_n 3, 1, 0, 0, 0, 0)), (12, (.iconst 1, 1, 0, 0, 0, 0)), (13, (.ireturn, 1, 0, 0, 0, 0)), (14, (.iconst 0, 1, 0, 0, 0, 0)), (15, (.ireturn, 1, 0, 0, 0, 0))]
def kk_294 (q : Nat) : Option Ent := lkp k_294 q
def k_295 : List (Nat × Ent) := [(0, (.aload_n 3, 1, 0, 0, 0, 0)), (1, (.iconst 0, 1, 0, 0, 0, 0)), (2, (.aload_n 0, 1, 0, 0, 0, 0)), (3, (.iload_n 1, 1, 0, 0, 0, 0)), (4, (.iload_n 2, 1, 0, 0, 0, 0)), (5, (.invokevirtual 71, 3, 143, 3, 8, 2)), (8, (.ifCond .eq 7, 3, 15, 0, 0, 0)), (11, (.lconst 1, 1, 0, 0, 0, 0)), (12, (.goto 4, 3, 16, 0, 0, 0)), (15, (.lconst 0, 1, 0, 0, 0, 0)), (16, (.lastore, 1, 0, 0, 0, 0)), (17, (.goto 7, 3, 24, 0, 0, 0)), (20, (.astore 4, 2, 0, 0, 0, 0)), (22, (.iconst 1, 1, 0, 0, 0, 0)), (23, (.ireturn, 1, 0, 0, 0, 0)), (24, (.iconst 0, 1, 0, 0, 0, 0)), (25, (.ireturn, 1, 0, 0, 0, 0))]
def kk_295 (q : Nat) : Option Ent := lkp k_295 q
def k_296 : List (Nat × Ent) := [(0, (.aload_n 2, 1, 0, 0, 0, 0)), (1, (.iconst 0, 1, 0, 0, 0, 0)), (2, (.aload_n 0, 1, 0, 0, 0, 0)), (3, (.iload_n 1, 1, 0, 0, 0, 0)), (4, (.invokevirtual 74, 3, 145, 2, 8, 1)), (7, (.lastore, 1, 0, 0, 0, 0)), (8, (.goto 6, 3, 14, 0, 0, 0)), (11, (.astore_n 3, 1, 0, 0, 0, 0)), (12, (.iconst 1, 1, 0, 0, 0, 0)), (13, (.ireturn, 1, 0, 0, 0, 0)), (14, (.iconst 0, 1, 0, 0, 0, 0)), (15, (.ireturn, 1, 0, 0, 0, 0))]
def kk_296 (q : Nat) : Option Ent := lkp k_296 q
def k_297 : List (Nat × Ent) := [(0, (.aload_n 2, 1, 0, 0, 0, 0)), (1, (.iconst 0, 1, 0, 0, 0, 0)), (2, (.aload_n 0, 1, 0, 0, 0, 0)), (3, (.iload_n 1, 1, 0, 0, 0, 0)), (4, (.invokevirtual 77, 3, 146, 2, 8, 1)), (7, (.ifCond .eq 7, 3, 14, 0, 0, 0)), (10, (.lconst 1, 1, 0, 0, 0, 0)), (11, (.goto 4, 3, 15, 0, 0, 0)), (14, (.lconst 0, 1, 0, 0, 0, 0)), (15, (.lastore, 1, 0, 0, 0, 0)), (16, (.goto 6, 3, 22, 0, 0, 0)), (19, (.astore_n 3, 1, 0, 0, 0, 0)), (20, (.iconst 1, 1, 0, 0, 0, 0)), (21, (.ireturn, 1, 0, 0, 0, 0)), (22, (.iconst 0, 1, 0, 0, 0, 0)), (23, (.ireturn, 1, 0, 0, 0, 0))]
def kk_297 (q : Nat) : Option Ent := lkp k_297 q
def k_298 : List (Nat × Ent) := [(0, (.aload_n 2, 1, 0, 0, 0, 0)), (1, (.iconst 0, 1, 0, 0, 0, 0)), (2, (.aload_n 0, 1, 0, 0, 0, 0)), (3, (.iload_n 1, 1, 0, 0, 0, 0)), (4, (.invokevirtual 81, 3, 147, 2, 8, 1)), (7, (.ifCond .eq 7, 3, 14, 0, 0, 0)), (10, (.lconst 1, 1, 0, 0, 0, 0)), (11, (.goto 4, 3, 15, 0, 0, 0)), (14, (.lconst 0, 1, 0, 0, 0, 0)), (15, (.lastore, 1, 0, 0, 0, 0)), (16, (.goto 6, 3, 22, 0, 0, 0)), (19, (.astore_n 3, 1, 0, 0, 0, 0)), (20, (.iconst 1, 1, 0, 0, 0, 0)), (21, (.ireturn, 1, 0, 0, 0, 0)), (22, (.iconst 0, 1, 0, 0, 0, 0)), (23, (.ireturn, 1, 0, 0, 0, 0))]
def kk_298 (q : Nat) : Option Ent := lkp k_298 q
def k_299 : List (Nat × Ent) := [(0, (.aload_n 2, 1, 0, 0, 0, 0)), (1, (.iconst 0, 1, 0, 0, 0, 0)), (2, (.aload_n 0, 1, 0, 0, 0, 0)), (3, (.iload_n 1, 1, 0, 0, 0, 0)), (4, (.invokevirtual 84, 3, 148, 2, 8, 1)), (7, (.i2l, 1, 0, 0, 0, 0)), (8, (.lastore, 1, 0, 0, 0, 0)), (9, (.goto 6, 3, 15, 0, 0, 0)), (12, (.astore_n 3, 1, 0, 0, 0, 0)), (13, (.iconst 1, 1, 0, 0, 0, 0)), (14, (.ireturn, 1, 0, 0, 0, 0)), (15, (.iconst 0, 1, 0, 0, 0, 0)), (16, (.ireturn, 1, 0, 0, 0, 0))]
def kk_299 (q : Nat) : Option Ent := lkp k_299 q
def k_300 : List (Nat × Ent) := [(0, (.aload_n 2, 1, 0, 0, 0, 0)), (1, (.iconst 0, 1, 0, 0, 0, 0)), (2, (.aload_n 0, 1, 0, 0, 0, 0)), (3, (.iload_n 1, 1, 0, 0, 0, 0)), (4, (.invokevirtual 87, 3, 150, 2, 8, 1)), (7, (.lastore, 1, 0, 0, 0, 0)), (8, (.goto 6, 3, 14, 0, 0, 0)), (11, (.astore_n 3, 1, 0, 0, 0, 0)), (12, (.iconst 1, 1, 0, 0, 0, 0)), (13, (.ireturn, 1, 0, 0, 0, 0)), (14, (.iconst 0, 1, 0, 0, 0, 0)), (15, (.ireturn, 1, 0, 0, 0, 0))]
def kk_300 (q : Nat) : Option Ent := lkp k_300 q
def k_301 : List (Nat × Ent) := [(0, (.aload_n 3, 1, 0, 0, 0, 0)), (1, (.iconst 0, 1, 0, 0, 0, 0)), (2, (.aload_n 0, 1, 0, 0, 0, 0)), (3, (.iload_n 1, 1, 0, 0, 0, 0)), (4, (.iload_n 2, 1, 0, 0, 0, 0)), (5, (.invokevirtual 90, 3, 151, 3, 8, 1)), (8, (.lastore, 1, 0, 0, 0, 0)), (9, (.goto 7, 3, 16, 0, 0, 0)), (12, (.astore 4, 2, 0, 0, 0, 0)), (14, (.iconst 1, 1, 0, 0, 0, 0)), (15, (.ireturn, 1, 0, 0, 0, 0)), (16, (.iconst 0, 1, 0, 0, 0, 0)), (17, (.ireturn, 1, 0, 0, 0, 0))]
def kk_301 (q : Nat) : Option Ent := lkp k_301 q
def k_302 : List (Nat × Ent) := [(0, (.aload_n 1, 1, 0, 0, 0, 0)), (1, (.iconst 0, 1, 0, 0, 0, 0)), (2, (.aload_n 0, 1, 0, 0, 0, 0)), (3, (.invokevirtual 93, 3, 154, 1, 8, 1)), (6, (.dastore, 1, 0, 0, 0, 0)), (7, (.goto 6, 3, 13, 0, 0, 0)), (10, (.astore_n 2, 1, 0, 0, 0, 0)), (11, (.iconst 1, 1, 0, 0, 0, 0)), (12, (.ireturn, 1, 0, 0, 0, 0)), (13, (.iconst 0, 1, 0, 0, 0, 0)), (14, (.ireturn, 1, 0, 0, 0, 0))]
def kk_302 (q : Nat) : Option Ent := lkp k_302 q
def k_303 : List (Nat × Ent) := [(0, (.aload_n 1, 1, 0, 0, 0, 0)), (1, (.iconst 0, 1, 0, 0, 0, 0)), (2, (.aload_n 0, 1, 0, 0, 0, 0)), (3, (.invokevirtual 99, 3, 155, 1, 8, 1)), (6, (.f2d, 1, 0, 0, 0, 0)), (7, (.dastore, 1, 0, 0, 0, 0)), (8, (.goto 6, 3, 14, 0, 0, 0)), (11, (.astore_n 2, 1, 0, 0, 0, 0)), (12, (.iconst 1, 1, 0, 0, 0, 0)), (13, (.ireturn, 1, 0, 0, 0, 0)), (14, (.iconst 0, 1, 0, 0, 0, 0)), (15, (.ireturn, 1, 0, 0, 0, 0))]
def kk_303 (q : Nat) : Option Ent := lkp k_303 q
def k_304 : List (Nat × Ent) := [(0, (.aload_n 0, 1, 0, 0, 0, 0)), (1, (.invokevirtual 103, 3, 157, 1, 8, 1)), (4, (.goto 6, 3, 10, 0, 0, 0)), (7, (.astore_n 1, 1, 0, 0, 0, 0)), (8, (.iconst 1, 1, 0, 0, 0, 0)), (9, (.ireturn, 1, 0, 0, 0, 0)), (10, (.iconst 0, 1, 0, 0, 0, 0)), (11, (.ireturn, 1, 0, 0, 0, 0))]
def kk_304 (q : Nat) : Option Ent := lkp k_304 q
def k_305_0 : List (Nat × Ent) := [(0, (.new 8, 3, 0, 0, 0, 0)), (3, (.dup, 1, 0, 0, 0, 0)), (4, (.invokespecial 106, 3, 0, 0, 0, 0)), (7, (.astore_n 1, 1, 0, 0, 0, 0)), (8, (.new 107, 3, 0, 0, 0, 0)), (11, (.dup, 1, 0, 0, 0, 0)), (12, (.invokespecial 109, 3, 0, 0, 0, 0)), (15, (.astore_n 2, 1, 0, 0, 0, 0)), (16, (.iconst 1, 1, 0, 0, 0, 0)), (17, (.newarray .long, 2, 0, 0, 0, 0)), (19, (.astore_n 3, 1, 0, 0, 0, 0)), (20, (.iconst 1, 1, 0, 0, 0, 0)), (21, (.newarray .double, 2, 0, 0, 0, 0)), (23, (.astore 4, 2, 0, 0, 0, 0)), (25, (.iconst 0, 1, 0, 0, 0, 0)), (26, (.istore 5, 2, 0, 0, 0, 0)), (28, (.iload 5, 2, 0, 0, 0, 0)), (30, (.aload_n 0, 1, 0, 0, 0, 0)), (31, (.arraylength, 1, 1, 0, 0, 0)), (32, (.iconst 4, 1, 0, 0, 0, 0)), (33, (.isub, 1, 0, 0, 0, 0)), (34, (.if_icmp .gt 1904, 3, 1938, 0, 0, 0)), (37, (.aload_n 0, 1, 0, 0, 0, 0)), (38, (.iload 5, 2, 0, 0, 0, 0)), (40, (.iaload, 1, 1, 0, 0, 0)), (41, (.bipush 63, 2, 0, 0, 0, 0)), (43, (.iand, 1, 0, 0, 0, 0)), (44, (.tableswitch 1888 0 36 #[164, 220, 276, 289, 302, 358, 414, 427, 483, 539, 607, 687, 742, 809, 876, 889, 964, 1019, 1032, 1100, 1168, 1181, 1236, 1311, 1324, 1379, 1442, 1505, 1561, 1574, 1629, 1696, 1709, 1722, 1787, 1853, 1864], 164, 0, 0, 0, 0)), (208, (.aload_n 1, 1, 0, 0, 0, 0)), (209, (.aload_n 0, 1, 0, 0, 0, 0)), (210, (.iload 5, 2, 0, 0, 0, 0)), (212, (.iconst 1, 1, 0, 0, 0, 0)), (213, (.iadd, 1, 0, 0, 0, 0)), (214, (.iaload, 1, 1, 0, 0, 0)), (215, (.aload_n 3, 1, 0, 0, 0, 0)), (216, (.invokestatic 110, 3, 279, 3, 12, 2)), (219, (.istore 6, 2, 0, 0, 0, 0)), (221, (.aload_n 2, 1, 0, 0, 0, 0)), (222, (.aload_n 0, 1, 0, 0, 0, 0)), (223, (.iload 5, 2, 0, 0, 0, 0)), (225, (.iconst 1, 1, 0, 0, 0, 0)), (226, (.iadd, 1, 0, 0, 0, 0)), (227, (.iaload, 1, 1, 0, 0, 0)), (228, (.invokevirtual 115, 3, 186, 2, 9, 0)), (231, (.istore 7, 2, 0, 0, 0, 0)), (233, (.aload_n 2, 1, 0, 0, 0, 0)), (234, (.invokevirtual 116, 3, 174, 1, 9, 0)), (237, (.iload 6, 2, 0, 0, 0, 0)), (239, (.if_icmp .eq 5, 3, 244, 0, 0, 0)), (242, (.iconst 0, 1, 0, 0, 0, 0)), (243, (.ireturn, 1, 1, 0, 0, 0)), (244, (.iload 6, 2, 0, 0, 0, 0)), (246, (.ifCond .ne 15, 3, 261, 0, 0, 0)), (249, (.aload_n 3, 1, 0, 0, 0, 0)), (250, (.iconst 0, 1, 0, 0, 0, 0)), (251, (.laload, 1, 0, 0, 0, 0)), (252, (.iload 7, 2, 0, 0, 0, 0)), (254, (.i2l, 1, 0, 0, 0, 0)), (255, (.lcmp, 1, 0, 0, 0, 0)), (256, (.ifCond .eq 5, 3, 261, 0, 0, 0)), (259, (.iconst 0, 1, 0, 0, 0, 0)), (260, (.ireturn, 1, 1, 0, 0, 0)), (261, (.goto 1671, 3, 1932, 0, 0, 0)), (264, (.aload_n 1, 1, 0, 0, 0, 0)), (265, (.aload_n 0, 1, 0, 0, 0, 0)), (266, (.iload 5, 2, 0, 0, 0, 0)), (268, (.iconst 1, 1, 0, 0, 0, 0)), (269, (.iadd, 1, 0, 0, 0, 0)), (270, (.iaload, 1, 1, 0, 0, 0)), (271, (.aload_n 3, 1, 0, 0, 0, 0)), (272, (.invokestatic 120, 3, 280, 3, 12, 3)), (275, (.istore 6, 2, 0, 0, 0, 0)), (277, (.aload_n 2, 1, 0, 0, 0, 0)), (278, (.aload_n 0, 1, 0, 0, 0, 0)), (279, (.iload 5, 2, 0, 0, 0, 0)), (281, (.iconst 1, 1, 0, 0, 0, 0)), (282, (.iadd, 1, 0, 0, 0, 0)), (283, (.iaload, 1, 1, 0, 0, 0)), (284, (.invokevirtual 122, 3, 197, 2, 9, 0)), (287, (.istore 7, 2, 0, 0, 0, 0)), (289, (.aload_n 2, 1, 0, 0, 0, 0)), (290, (.invokevirtual 116, 3, 174, 1, 9, 0)), (293, (.iload 6, 2, 0, 0, 0, 0)), (295, (.if_icmp .eq 5, 3, 300, 0, 0, 0)), (298, (.iconst 0, 1, 0, 0, 0, 0)), (299, (.ireturn, 1, 1, 0, 0, 0)), (300, (.iload 6, 2, 0, 0, 0, 0)), (302, (.ifCond .ne 15, 3, 317, 0, 0, 0)), (305, (.aload_n 3, 1, 0, 0, 0, 0)), (306, (.iconst 0, 1, 0, 0, 0, 0)), (307, (.laload, 1, 0, 0, 0, 0)), (308, (.iload 7, 2, 0, 0, 0, 0)), (310, (.i2l, 1, 0, 0, 0, 0)), (311, (.lcmp, 1, 0, 0, 0, 0)), (312, (.ifCond .eq 5, 3, 317, 0, 0, 0)), (315, (.iconst 0, 1, 0, 0, 0, 0)), (316, (.ireturn, 1, 1, 0, 0, 0)), (317, (.goto 1615, 3, 1932, 0, 0, 0)), (320, (.aload_n 1, 1, 0, 0, 0, 0)), (321, (.invokevirtual 123, 3, 123, 1, 8, 0))]
def k_305_1 : List (Nat × Ent) := [(324, (.aload_n 2, 1, 0, 0, 0, 0)), (325, (.invokevirtual 126, 3, 198, 1, 9, 0)), (328, (.if_icmp .eq 1604, 3, 1932, 0, 0, 0)), (331, (.iconst 0, 1, 0, 0, 0, 0)), (332, (.ireturn, 1, 1, 0, 0, 0)), (333, (.aload_n 1, 1, 0, 0, 0, 0)), (334, (.invokevirtual 127, 3, 124, 1, 8, 0)), (337, (.aload_n 2, 1, 0, 0, 0, 0)), (338, (.invokevirtual 130, 3, 199, 1, 9, 0)), (341, (.if_icmp .eq 1591, 3, 1932, 0, 0, 0)), (344, (.iconst 0, 1, 0, 0, 0, 0)), (345, (.ireturn, 1, 1, 0, 0, 0)), (346, (.aload_n 1, 1, 0, 0, 0, 0)), (347, (.aload_n 0, 1, 0, 0, 0, 0)), (348, (.iload 5, 2, 0, 0, 0, 0)), (350, (.iconst 1, 1, 0, 0, 0, 0)), (351, (.iadd, 1, 0, 0, 0, 0)), (352, (.iaload, 1, 1, 0, 0, 0)), (353, (.aload_n 3, 1, 0, 0, 0, 0)), (354, (.invokestatic 131, 3, 281, 3, 12, 1)), (357, (.istore 6, 2, 0, 0, 0, 0)), (359, (.aload_n 2, 1, 0, 0, 0, 0)), (360, (.aload_n 0, 1, 0, 0, 0, 0)), (361, (.iload 5, 2, 0, 0, 0, 0)), (363, (.iconst 1, 1, 0, 0, 0, 0)), (364, (.iadd, 1, 0, 0, 0, 0)), (365, (.iaload, 1, 1, 0, 0, 0)), (366, (.invokevirtual 133, 3, 201, 2, 9, 0)), (369, (.istore 7, 2, 0, 0, 0, 0)), (371, (.aload_n 2, 1, 0, 0, 0, 0)), (372, (.invokevirtual 116, 3, 174, 1, 9, 0)), (375, (.iload 6, 2, 0, 0, 0, 0)), (377, (.if_icmp .eq 5, 3, 382, 0, 0, 0)), (380, (.iconst 0, 1, 0, 0, 0, 0)), (381, (.ireturn, 1, 1, 0, 0, 0)), (382, (.iload 6, 2, 0, 0, 0, 0)), (384, (.ifCond .ne 15, 3, 399, 0, 0, 0)), (387, (.aload_n 3, 1, 0, 0, 0, 0)), (388, (.iconst 0, 1, 0, 0, 0, 0)), (389, (.laload, 1, 0, 0, 0, 0)), (390, (.iload 7, 2, 0, 0, 0, 0)), (392, (.i2l, 1, 0, 0, 0, 0)), (393, (.lcmp, 1, 0, 0, 0, 0)), (394, (.ifCond .eq 5, 3, 399, 0, 0, 0)), (397, (.iconst 0, 1, 0, 0, 0, 0)), (398, (.ireturn, 1, 1, 0, 0, 0)), (399, (.goto 1533, 3, 1932, 0, 0, 0)), (402, (.aload_n 1, 1, 0, 0, 0, 0)), (403, (.aload_n 0, 1, 0, 0, 0, 0)), (404, (.iload 5, 2, 0, 0, 0, 0)), (406, (.iconst 1, 1, 0, 0, 0, 0)), (407, (.iadd, 1, 0, 0, 0, 0)), (408, (.iaload, 1, 1, 0, 0, 0)), (409, (.aload_n 3, 1, 0, 0, 0, 0)), (410, (.invokestatic 134, 3, 282, 3, 12, 1)), (413, (.istore 6, 2, 0, 0, 0, 0)), (415, (.aload_n 2, 1, 0, 0, 0, 0)), (416, (.aload_n 0, 1, 0, 0, 0, 0)), (417, (.iload 5, 2, 0, 0, 0, 0)), (419, (.iconst 1, 1, 0, 0, 0, 0)), (420, (.iadd, 1, 0, 0, 0, 0)), (421, (.iaload, 1, 1, 0, 0, 0)), (422, (.invokevirtual 136, 3, 202, 2, 9, 0)), (425, (.istore 7, 2, 0, 0, 0, 0)), (427, (.aload_n 2, 1, 0, 0, 0, 0)), (428, (.invokevirtual 116, 3, 174, 1, 9, 0)), (431, (.iload 6, 2, 0, 0, 0, 0)), (433, (.if_icmp .eq 5, 3, 438, 0, 0, 0)), (436, (.iconst 0, 1, 0, 0, 0, 0)), (437, (.ireturn, 1, 1, 0, 0, 0)), (438, (.iload 6, 2, 0, 0, 0, 0)), (440, (.ifCond .ne 15, 3, 455, 0, 0, 0)), (443, (.aload_n 3, 1, 0, 0, 0, 0)), (444, (.iconst 0, 1, 0, 0, 0, 0)), (445, (.laload, 1, 0, 0, 0, 0)), (446, (.iload 7, 2, 0, 0, 0, 0)), (448, (.i2l, 1, 0, 0, 0, 0)), (449, (.lcmp, 1, 0, 0, 0, 0)), (450, (.ifCond .eq 5, 3, 455, 0, 0, 0)), (453, (.iconst 0, 1, 0, 0, 0, 0)), (454, (.ireturn, 1, 1, 0, 0, 0)), (455, (.goto 1477, 3, 1932, 0, 0, 0)), (458, (.aload_n 1, 1, 0, 0, 0, 0)), (459, (.invokevirtual 137, 3, 127, 1, 8, 0)), (462, (.aload_n 2, 1, 0, 0, 0, 0)), (463, (.invokevirtual 140, 3, 204, 1, 9, 0)), (466, (.if_icmp .eq 1466, 3, 1932, 0, 0, 0)), (469, (.iconst 0, 1, 0, 0, 0, 0)), (470, (.ireturn, 1, 1, 0, 0, 0)), (471, (.aload_n 1, 1, 0, 0, 0, 0)), (472, (.aload_n 0, 1, 0, 0, 0, 0)), (473, (.iload 5, 2, 0, 0, 0, 0)), (475, (.iconst 1, 1, 0, 0, 0, 0)), (476, (.iadd, 1, 0, 0, 0, 0)), (477, (.iaload, 1, 1, 0, 0, 0)), (478, (.aload_n 3, 1, 0, 0, 0, 0)), (479, (.invokestatic 141, 3, 283, 3, 12, 1)), (482, (.istore 6, 2, 0, 0, 0, 0)), (484, (.aload_n 2, 1, 0, 0, 0, 0)), (485, (.aload_n 0, 1, 0, 0, 0, 0))]
def k_305_2 : List (Nat × Ent) := [(486, (.iload 5, 2, 0, 0, 0, 0)), (488, (.iconst 1, 1, 0, 0, 0, 0)), (489, (.iadd, 1, 0, 0, 0, 0)), (490, (.iaload, 1, 1, 0, 0, 0)), (491, (.invokevirtual 143, 3, 205, 2, 9, 0)), (494, (.istore 7, 2, 0, 0, 0, 0)), (496, (.aload_n 2, 1, 0, 0, 0, 0)), (497, (.invokevirtual 116, 3, 174, 1, 9, 0)), (500, (.iload 6, 2, 0, 0, 0, 0)), (502, (.if_icmp .eq 5, 3, 507, 0, 0, 0)), (505, (.iconst 0, 1, 0, 0, 0, 0)), (506, (.ireturn, 1, 1, 0, 0, 0)), (507, (.iload 6, 2, 0, 0, 0, 0)), (509, (.ifCond .ne 15, 3, 524, 0, 0, 0)), (512, (.aload_n 3, 1, 0, 0, 0, 0)), (513, (.iconst 0, 1, 0, 0, 0, 0)), (514, (.laload, 1, 0, 0, 0, 0)), (515, (.iload 7, 2, 0, 0, 0, 0)), (517, (.i2l, 1, 0, 0, 0, 0)), (518, (.lcmp, 1, 0, 0, 0, 0)), (519, (.ifCond .eq 5, 3, 524, 0, 0, 0)), (522, (.iconst 0, 1, 0, 0, 0, 0)), (523, (.ireturn, 1, 1, 0, 0, 0)), (524, (.goto 1408, 3, 1932, 0, 0, 0)), (527, (.aload_n 1, 1, 0, 0, 0, 0)), (528, (.aload_n 0, 1, 0, 0, 0, 0)), (529, (.iload 5, 2, 0, 0, 0, 0)), (531, (.iconst 1, 1, 0, 0, 0, 0)), (532, (.iadd, 1, 0, 0, 0, 0)), (533, (.iaload, 1, 1, 0, 0, 0)), (534, (.aload_n 3, 1, 0, 0, 0, 0)), (535, (.invokestatic 144, 3, 284, 3, 12, 1)), (538, (.istore 6, 2, 0, 0, 0, 0)), (540, (.aload_n 2, 1, 0, 0, 0, 0)), (541, (.aload_n 0, 1, 0, 0, 0, 0)), (542, (.iload 5, 2, 0, 0, 0, 0)), (544, (.iconst 1, 1, 0, 0, 0, 0)), (545, (.iadd, 1, 0, 0, 0, 0)), (546, (.iaload, 1, 1, 0, 0, 0)), (547, (.invokevirtual 146, 3, 222, 2, 9, 0)), (550, (.istore 7, 2, 0, 0, 0, 0)), (552, (.aload_n 2, 1, 0, 0, 0, 0)), (553, (.invokevirtual 116, 3, 174, 1, 9, 0)), (556, (.iload 6, 2, 0, 0, 0, 0)), (558, (.if_icmp .eq 5, 3, 563, 0, 0, 0)), (561, (.iconst 0, 1, 0, 0, 0, 0)), (562, (.ireturn, 1, 1, 0, 0, 0)), (563, (.iload 6, 2, 0, 0, 0, 0)), (565, (.ifCond .ne 15, 3, 580, 0, 0, 0)), (568, (.aload_n 3, 1, 0, 0, 0, 0)), (569, (.iconst 0, 1, 0, 0, 0, 0)), (570, (.laload, 1, 0, 0, 0, 0)), (571, (.iload 7, 2, 0, 0, 0, 0)), (573, (.i2l, 1, 0, 0, 0, 0)), (574, (.lcmp, 1, 0, 0, 0, 0)), (575, (.ifCond .eq 5, 3, 580, 0, 0, 0)), (578, (.iconst 0, 1, 0, 0, 0, 0)), (579, (.ireturn, 1, 1, 0, 0, 0)), (580, (.goto 1352, 3, 1932, 0, 0, 0)), (583, (.aload_n 1, 1, 0, 0, 0, 0)), (584, (.aload_n 0, 1, 0, 0, 0, 0)), (585, (.iload 5, 2, 0, 0, 0, 0)), (587, (.iconst 1, 1, 0, 0, 0, 0)), (588, (.iadd, 1, 0, 0, 0, 0)), (589, (.iaload, 1, 1, 0, 0, 0)), (590, (.aload_n 0, 1, 0, 0, 0, 0)), (591, (.iload 5, 2, 0, 0, 0, 0)), (593, (.iconst 2, 1, 0, 0, 0, 0)), (594, (.iadd, 1, 0, 0, 0, 0)), (595, (.iaload, 1, 1, 0, 0, 0)), (596, (.aload_n 3, 1, 0, 0, 0, 0)), (597, (.invokestatic 147, 3, 285, 4, 12, 2)), (600, (.istore 6, 2, 0, 0, 0, 0)), (602, (.aload_n 2, 1, 0, 0, 0, 0)), (603, (.aload_n 0, 1, 0, 0, 0, 0)), (604, (.iload 5, 2, 0, 0, 0, 0)), (606, (.iconst 1, 1, 0, 0, 0, 0)), (607, (.iadd, 1, 0, 0, 0, 0)), (608, (.iaload, 1, 1, 0, 0, 0)), (609, (.aload_n 0, 1, 0, 0, 0, 0)), (610, (.iload 5, 2, 0, 0, 0, 0)), (612, (.iconst 2, 1, 0, 0, 0, 0)), (613, (.iadd, 1, 0, 0, 0, 0)), (614, (.iaload, 1, 1, 0, 0, 0)), (615, (.invokevirtual 150, 3, 224, 3, 9, 0)), (618, (.istore 7, 2, 0, 0, 0, 0)), (620, (.aload_n 2, 1, 0, 0, 0, 0)), (621, (.invokevirtual 116, 3, 174, 1, 9, 0)), (624, (.iload 6, 2, 0, 0, 0, 0)), (626, (.if_icmp .eq 5, 3, 631, 0, 0, 0)), (629, (.iconst 0, 1, 0, 0, 0, 0)), (630, (.ireturn, 1, 1, 0, 0, 0)), (631, (.iload 6, 2, 0, 0, 0, 0)), (633, (.ifCond .ne 15, 3, 648, 0, 0, 0)), (636, (.aload_n 3, 1, 0, 0, 0, 0)), (637, (.iconst 0, 1, 0, 0, 0, 0)), (638, (.laload, 1, 0, 0, 0, 0)), (639, (.iload 7, 2, 0, 0, 0, 0)), (641, (.i2l, 1, 0, 0, 0, 0)), (642, (.lcmp, 1, 0, 0, 0, 0))]
def k_305_3 : List (Nat × Ent) := [(643, (.ifCond .eq 5, 3, 648, 0, 0, 0)), (646, (.iconst 0, 1, 0, 0, 0, 0)), (647, (.ireturn, 1, 1, 0, 0, 0)), (648, (.goto 1284, 3, 1932, 0, 0, 0)), (651, (.aload_n 1, 1, 0, 0, 0, 0)), (652, (.aload_n 0, 1, 0, 0, 0, 0)), (653, (.iload 5, 2, 0, 0, 0, 0)), (655, (.iconst 1, 1, 0, 0, 0, 0)), (656, (.iadd, 1, 0, 0, 0, 0)), (657, (.iaload, 1, 1, 0, 0, 0)), (658, (.aload_n 0, 1, 0, 0, 0, 0)), (659, (.iload 5, 2, 0, 0, 0, 0)), (661, (.iconst 2, 1, 0, 0, 0, 0)), (662, (.iadd, 1, 0, 0, 0, 0)), (663, (.iaload, 1, 1, 0, 0, 0)), (664, (.aload_n 0, 1, 0, 0, 0, 0)), (665, (.iload 5, 2, 0, 0, 0, 0)), (667, (.iconst 3, 1, 0, 0, 0, 0)), (668, (.iadd, 1, 0, 0, 0, 0)), (669, (.iaload, 1, 1, 0, 0, 0)), (670, (.aload_n 3, 1, 0, 0, 0, 0)), (671, (.invokestatic 151, 3, 286, 5, 12, 3)), (674, (.istore 6, 2, 0, 0, 0, 0)), (676, (.aload_n 2, 1, 0, 0, 0, 0)), (677, (.aload_n 0, 1, 0, 0, 0, 0)), (678, (.iload 5, 2, 0, 0, 0, 0)), (680, (.iconst 1, 1, 0, 0, 0, 0)), (681, (.iadd, 1, 0, 0, 0, 0)), (682, (.iaload, 1, 1, 0, 0, 0)), (683, (.aload_n 0, 1, 0, 0, 0, 0)), (684, (.iload 5, 2, 0, 0, 0, 0)), (686, (.iconst 2, 1, 0, 0, 0, 0)), (687, (.iadd, 1, 0, 0, 0, 0)), (688, (.iaload, 1, 1, 0, 0, 0)), (689, (.aload_n 0, 1, 0, 0, 0, 0)), (690, (.iload 5, 2, 0, 0, 0, 0)), (692, (.iconst 3, 1, 0, 0, 0, 0)), (693, (.iadd, 1, 0, 0, 0, 0)), (694, (.iaload, 1, 1, 0, 0, 0)), (695, (.invokevirtual 154, 3, 225, 4, 9, 0)), (698, (.istore 7, 2, 0, 0, 0, 0)), (700, (.aload_n 2, 1, 0, 0, 0, 0)), (701, (.invokevirtual 116, 3, 174, 1, 9, 0)), (704, (.iload 6, 2, 0, 0, 0, 0)), (706, (.if_icmp .eq 5, 3, 711, 0, 0, 0)), (709, (.iconst 0, 1, 0, 0, 0, 0)), (710, (.ireturn, 1, 1, 0, 0, 0)), (711, (.iload 6, 2, 0, 0, 0, 0)), (713, (.ifCond .ne 15, 3, 728, 0, 0, 0)), (716, (.aload_n 3, 1, 0, 0, 0, 0)), (717, (.iconst 0, 1, 0, 0, 0, 0)), (718, (.laload, 1, 0, 0, 0, 0)), (719, (.iload 7, 2, 0, 0, 0, 0)), (721, (.i2l, 1, 0, 0, 0, 0)), (722, (.lcmp, 1, 0, 0, 0, 0)), (723, (.ifCond .eq 5, 3, 728, 0, 0, 0)), (726, (.iconst 0, 1, 0, 0, 0, 0)), (727, (.ireturn, 1, 1, 0, 0, 0)), (728, (.goto 1204, 3, 1932, 0, 0, 0)), (731, (.aload_n 1, 1, 0, 0, 0, 0)), (732, (.aload_n 0, 1, 0, 0, 0, 0)), (733, (.iload 5, 2, 0, 0, 0, 0)), (735, (.iconst 1, 1, 0, 0, 0, 0)), (736, (.iadd, 1, 0, 0, 0, 0)), (737, (.iaload, 1, 1, 0, 0, 0)), (738, (.aload_n 3, 1, 0, 0, 0, 0)), (739, (.invokestatic 155, 3, 287, 3, 12, 1)), (742, (.istore 6, 2, 0, 0, 0, 0)), (744, (.aload_n 2, 1, 0, 0, 0, 0)), (745, (.aload_n 0, 1, 0, 0, 0, 0)), (746, (.iload 5, 2, 0, 0, 0, 0)), (748, (.iconst 1, 1, 0, 0, 0, 0)), (749, (.iadd, 1, 0, 0, 0, 0)), (750, (.iaload, 1, 1, 0, 0, 0)), (751, (.invokevirtual 157, 3, 228, 2, 9, 0)), (754, (.lstore 7, 2, 0, 0, 0, 0)), (756, (.aload_n 2, 1, 0, 0, 0, 0)), (757, (.invokevirtual 116, 3, 174, 1, 9, 0)), (760, (.iload 6, 2, 0, 0, 0, 0)), (762, (.if_icmp .eq 5, 3, 767, 0, 0, 0)), (765, (.iconst 0, 1, 0, 0, 0, 0)), (766, (.ireturn, 1, 1, 0, 0, 0)), (767, (.iload 6, 2, 0, 0, 0, 0)), (769, (.ifCond .ne 14, 3, 783, 0, 0, 0)), (772, (.aload_n 3, 1, 0, 0, 0, 0)), (773, (.iconst 0, 1, 0, 0, 0, 0)), (774, (.laload, 1, 0, 0, 0, 0)), (775, (.lload 7, 2, 0, 0, 0, 0)), (777, (.lcmp, 1, 0, 0, 0, 0)), (778, (.ifCond .eq 5, 3, 783, 0, 0, 0)), (781, (.iconst 0, 1, 0, 0, 0, 0)), (782, (.ireturn, 1, 1, 0, 0, 0)), (783, (.goto 1149, 3, 1932, 0, 0, 0)), (786, (.aload_n 1, 1, 0, 0, 0, 0)), (787, (.aload_n 0, 1, 0, 0, 0, 0)), (788, (.iload 5, 2, 0, 0, 0, 0)), (790, (.iconst 1, 1, 0, 0, 0, 0)), (791, (.iadd, 1, 0, 0, 0, 0)), (792, (.iaload, 1, 1, 0, 0, 0)), (793, (.aload_n 0, 1, 0, 0, 0, 0))]
def k_305_4 : List (Nat × Ent) := [(794, (.iload 5, 2, 0, 0, 0, 0)), (796, (.iconst 2, 1, 0, 0, 0, 0)), (797, (.iadd, 1, 0, 0, 0, 0)), (798, (.iaload, 1, 1, 0, 0, 0)), (799, (.aload_n 3, 1, 0, 0, 0, 0)), (800, (.invokestatic 158, 3, 288, 4, 12, 4)), (803, (.istore 6, 2, 0, 0, 0, 0)), (805, (.aload_n 2, 1, 0, 0, 0, 0)), (806, (.aload_n 0, 1, 0, 0, 0, 0)), (807, (.iload 5, 2, 0, 0, 0, 0)), (809, (.iconst 1, 1, 0, 0, 0, 0)), (810, (.iadd, 1, 0, 0, 0, 0)), (811, (.iaload, 1, 1, 0, 0, 0)), (812, (.aload_n 0, 1, 0, 0, 0, 0)), (813, (.iload 5, 2, 0, 0, 0, 0)), (815, (.iconst 2, 1, 0, 0, 0, 0)), (816, (.iadd, 1, 0, 0, 0, 0)), (817, (.iaload, 1, 1, 0, 0, 0)), (818, (.invokevirtual 160, 3, 229, 3, 9, 0)), (821, (.lstore 7, 2, 0, 0, 0, 0)), (823, (.aload_n 2, 1, 0, 0, 0, 0)), (824, (.invokevirtual 116, 3, 174, 1, 9, 0)), (827, (.iload 6, 2, 0, 0, 0, 0)), (829, (.if_icmp .eq 5, 3, 834, 0, 0, 0)), (832, (.iconst 0, 1, 0, 0, 0, 0)), (833, (.ireturn, 1, 1, 0, 0, 0)), (834, (.iload 6, 2, 0, 0, 0, 0)), (836, (.ifCond .ne 14, 3, 850, 0, 0, 0)), (839, (.aload_n 3, 1, 0, 0, 0, 0)), (840, (.iconst 0, 1, 0, 0, 0, 0)), (841, (.laload, 1, 0, 0, 0, 0)), (842, (.lload 7, 2, 0, 0, 0, 0)), (844, (.lcmp, 1, 0, 0, 0, 0)), (845, (.ifCond .eq 5, 3, 850, 0, 0, 0)), (848, (.iconst 0, 1, 0, 0, 0, 0)), (849, (.ireturn, 1, 1, 0, 0, 0)), (850, (.goto 1082, 3, 1932, 0, 0, 0)), (853, (.aload_n 1, 1, 0, 0, 0, 0)), (854, (.aload_n 0, 1, 0, 0, 0, 0)), (855, (.iload 5, 2, 0, 0, 0, 0)), (857, (.iconst 1, 1, 0, 0, 0, 0)), (858, (.iadd, 1, 0, 0, 0, 0)), (859, (.iaload, 1, 1, 0, 0, 0)), (860, (.aload_n 0, 1, 0, 0, 0, 0)), (861, (.iload 5, 2, 0, 0, 0, 0)), (863, (.iconst 2, 1, 0, 0, 0, 0)), (864, (.iadd, 1, 0, 0, 0, 0)), (865, (.iaload, 1, 1, 0, 0, 0)), (866, (.aload_n 3, 1, 0, 0, 0, 0)), (867, (.invokestatic 161, 3, 289, 4, 12, 1)), (870, (.istore 6, 2, 0, 0, 0, 0)), (872, (.aload_n 2, 1, 0, 0, 0, 0)), (873, (.aload_n 0, 1, 0, 0, 0, 0)), (874, (.iload 5, 2, 0, 0, 0, 0)), (876, (.iconst 1, 1, 0, 0, 0, 0)), (877, (.iadd, 1, 0, 0, 0, 0)), (878, (.iaload, 1, 1, 0, 0, 0)), (879, (.aload_n 0, 1, 0, 0, 0, 0)), (880, (.iload 5, 2, 0, 0, 0, 0)), (882, (.iconst 2, 1, 0, 0, 0, 0)), (883, (.iadd, 1, 0, 0, 0, 0)), (884, (.iaload, 1, 1, 0, 0, 0)), (885, (.invokevirtual 163, 3, 231, 3, 9, 0)), (888, (.lstore 7, 2, 0, 0, 0, 0)), (890, (.aload_n 2, 1, 0, 0, 0, 0)), (891, (.invokevirtual 116, 3, 174, 1, 9, 0)), (894, (.iload 6, 2, 0, 0, 0, 0)), (896, (.if_icmp .eq 5, 3, 901, 0, 0, 0)), (899, (.iconst 0, 1, 0, 0, 0, 0)), (900, (.ireturn, 1, 1, 0, 0, 0)), (901, (.iload 6, 2, 0, 0, 0, 0)), (903, (.ifCond .ne 14, 3, 917, 0, 0, 0)), (906, (.aload_n 3, 1, 0, 0, 0, 0)), (907, (.iconst 0, 1, 0, 0, 0, 0)), (908, (.laload, 1, 0, 0, 0, 0)), (909, (.lload 7, 2, 0, 0, 0, 0)), (911, (.lcmp, 1, 0, 0, 0, 0)), (912, (.ifCond .eq 5, 3, 917, 0, 0, 0)), (915, (.iconst 0, 1, 0, 0, 0, 0)), (916, (.ireturn, 1, 1, 0, 0, 0)), (917, (.goto 1015, 3, 1932, 0, 0, 0)), (920, (.aload_n 1, 1, 0, 0, 0, 0)), (921, (.invokevirtual 164, 3, 135, 1, 8, 0)), (924, (.aload_n 2, 1, 0, 0, 0, 0)), (925, (.invokevirtual 167, 3, 232, 1, 9, 0)), (928, (.if_icmp .eq 1004, 3, 1932, 0, 0, 0)), (931, (.iconst 0, 1, 0, 0, 0, 0)), (932, (.ireturn, 1, 1, 0, 0, 0)), (933, (.aload_n 1, 1, 0, 0, 0, 0)), (934, (.aload_n 0, 1, 0, 0, 0, 0)), (935, (.iload 5, 2, 0, 0, 0, 0)), (937, (.iconst 1, 1, 0, 0, 0, 0)), (938, (.iadd, 1, 0, 0, 0, 0)), (939, (.iaload, 1, 1, 0, 0, 0)), (940, (.aload_n 0, 1, 0, 0, 0, 0)), (941, (.iload 5, 2, 0, 0, 0, 0)), (943, (.iconst 2, 1, 0, 0, 0, 0)), (944, (.iadd, 1, 0, 0, 0, 0)), (945, (.iaload, 1, 1, 0, 0, 0)), (946, (.aload_n 3, 1, 0, 0, 0, 0))]
def k_305_5 : List (Nat × Ent) := [(947, (.invokestatic 168, 3, 290, 4, 12, 2)), (950, (.istore 6, 2, 0, 0, 0, 0)), (952, (.aload_n 2, 1, 0, 0, 0, 0)), (953, (.aload_n 0, 1, 0, 0, 0, 0)), (954, (.iload 5, 2, 0, 0, 0, 0)), (956, (.iconst 1, 1, 0, 0, 0, 0)), (957, (.iadd, 1, 0, 0, 0, 0)), (958, (.iaload, 1, 1, 0, 0, 0)), (959, (.aload_n 0, 1, 0, 0, 0, 0)), (960, (.iload 5, 2, 0, 0, 0, 0)), (962, (.iconst 2, 1, 0, 0, 0, 0)), (963, (.iadd, 1, 0, 0, 0, 0)), (964, (.iaload, 1, 1, 0, 0, 0)), (965, (.invokevirtual 170, 3, 233, 3, 9, 0)), (968, (.istore 7, 2, 0, 0, 0, 0)), (970, (.aload_n 2, 1, 0, 0, 0, 0)), (971, (.invokevirtual 116, 3, 174, 1, 9, 0)), (974, (.iload 6, 2, 0, 0, 0, 0)), (976, (.if_icmp .eq 5, 3, 981, 0, 0, 0)), (979, (.iconst 0, 1, 0, 0, 0, 0)), (980, (.ireturn, 1, 1, 0, 0, 0)), (981, (.iload 6, 2, 0, 0, 0, 0)), (983, (.ifCond .ne 22, 3, 1005, 0, 0, 0)), (986, (.aload_n 3, 1, 0, 0, 0, 0)), (987, (.iconst 0, 1, 0, 0, 0, 0)), (988, (.laload, 1, 0, 0, 0, 0)), (989, (.iload 7, 2, 0, 0, 0, 0)), (991, (.ifCond .eq 7, 3, 998, 0, 0, 0)), (994, (.lconst 1, 1, 0, 0, 0, 0)), (995, (.goto 4, 3, 999, 0, 0, 0)), (998, (.lconst 0, 1, 0, 0, 0, 0)), (999, (.lcmp, 1, 0, 0, 0, 0)), (1000, (.ifCond .eq 5, 3, 1005, 0, 0, 0)), (1003, (.iconst 0, 1, 0, 0, 0, 0)), (1004, (.ireturn, 1, 1, 0, 0, 0)), (1005, (.goto 927, 3, 1932, 0, 0, 0)), (1008, (.aload_n 1, 1, 0, 0, 0, 0)), (1009, (.aload_n 0, 1, 0, 0, 0, 0)), (1010, (.iload 5, 2, 0, 0, 0, 0)), (1012, (.iconst 1, 1, 0, 0, 0, 0)), (1013, (.iadd, 1, 0, 0, 0, 0)), (1014, (.iaload, 1, 1, 0, 0, 0)), (1015, (.aload_n 3, 1, 0, 0, 0, 0)), (1016, (.invokestatic 171, 3, 291, 3, 12, 1)), (1019, (.istore 6, 2, 0, 0, 0, 0)), (1021, (.aload_n 2, 1, 0, 0, 0, 0)), (1022, (.aload_n 0, 1, 0, 0, 0, 0)), (1023, (.iload 5, 2, 0, 0, 0, 0)), (1025, (.iconst 1, 1, 0, 0, 0, 0)), (1026, (.iadd, 1, 0, 0, 0, 0)), (1027, (.iaload, 1, 1, 0, 0, 0)), (1028, (.invokevirtual 173, 3, 235, 2, 9, 0)), (1031, (.lstore 7, 2, 0, 0, 0, 0)), (1033, (.aload_n 2, 1, 0, 0, 0, 0)), (1034, (.invokevirtual 116, 3, 174, 1, 9, 0)), (1037, (.iload 6, 2, 0, 0, 0, 0)), (1039, (.if_icmp .eq 5, 3, 1044, 0, 0, 0)), (1042, (.iconst 0, 1, 0, 0, 0, 0)), (1043, (.ireturn, 1, 1, 0, 0, 0)), (1044, (.iload 6, 2, 0, 0, 0, 0)), (1046, (.ifCond .ne 14, 3, 1060, 0, 0, 0)), (1049, (.aload_n 3, 1, 0, 0, 0, 0)), (1050, (.iconst 0, 1, 0, 0, 0, 0)), (1051, (.laload, 1, 0, 0, 0, 0)), (1052, (.lload 7, 2, 0, 0, 0, 0)), (1054, (.lcmp, 1, 0, 0, 0, 0)), (1055, (.ifCond .eq 5, 3, 1060, 0, 0, 0)), (1058, (.iconst 0, 1, 0, 0, 0, 0)), (1059, (.ireturn, 1, 1, 0, 0, 0)), (1060, (.goto 872, 3, 1932, 0, 0, 0)), (1063, (.aload_n 1, 1, 0, 0, 0, 0)), (1064, (.invokevirtual 174, 3, 138, 1, 8, 0)), (1067, (.aload_n 2, 1, 0, 0, 0, 0)), (1068, (.invokevirtual 177, 3, 236, 1, 9, 0)), (1071, (.if_icmp .eq 861, 3, 1932, 0, 0, 0)), (1074, (.iconst 0, 1, 0, 0, 0, 0)), (1075, (.ireturn, 1, 1, 0, 0, 0)), (1076, (.aload_n 1, 1, 0, 0, 0, 0)), (1077, (.aload_n 0, 1, 0, 0, 0, 0)), (1078, (.iload 5, 2, 0, 0, 0, 0)), (1080, (.iconst 1, 1, 0, 0, 0, 0)), (1081, (.iadd, 1, 0, 0, 0, 0)), (1082, (.iaload, 1, 1, 0, 0, 0)), (1083, (.aload_n 0, 1, 0, 0, 0, 0)), (1084, (.iload 5, 2, 0, 0, 0, 0)), (1086, (.iconst 2, 1, 0, 0, 0, 0)), (1087, (.iadd, 1, 0, 0, 0, 0)), (1088, (.iaload, 1, 1, 0, 0, 0)), (1089, (.aload_n 3, 1, 0, 0, 0, 0)), (1090, (.invokestatic 178, 3, 292, 4, 12, 3)), (1093, (.istore 6, 2, 0, 0, 0, 0)), (1095, (.aload_n 2, 1, 0, 0, 0, 0)), (1096, (.aload_n 0, 1, 0, 0, 0, 0)), (1097, (.iload 5, 2, 0, 0, 0, 0)), (1099, (.iconst 1, 1, 0, 0, 0, 0)), (1100, (.iadd, 1, 0, 0, 0, 0)), (1101, (.iaload, 1, 1, 0, 0, 0)), (1102, (.aload_n 0, 1, 0, 0, 0, 0)), (1103, (.iload 5, 2, 0, 0, 0, 0)), (1105, (.iconst 2, 1, 0, 0, 0, 0))]
def k_305_6 : List (Nat × Ent) := [(1106, (.iadd, 1, 0, 0, 0, 0)), (1107, (.iaload, 1, 1, 0, 0, 0)), (1108, (.invokevirtual 180, 3, 239, 3, 9, 0)), (1111, (.istore 7, 2, 0, 0, 0, 0)), (1113, (.aload_n 2, 1, 0, 0, 0, 0)), (1114, (.invokevirtual 116, 3, 174, 1, 9, 0)), (1117, (.iload 6, 2, 0, 0, 0, 0)), (1119, (.if_icmp .eq 5, 3, 1124, 0, 0, 0)), (1122, (.iconst 0, 1, 0, 0, 0, 0)), (1123, (.ireturn, 1, 1, 0, 0, 0)), (1124, (.iload 6, 2, 0, 0, 0, 0)), (1126, (.ifCond .ne 15, 3, 1141, 0, 0, 0)), (1129, (.aload_n 3, 1, 0, 0, 0, 0)), (1130, (.iconst 0, 1, 0, 0, 0, 0)), (1131, (.laload, 1, 0, 0, 0, 0)), (1132, (.iload 7, 2, 0, 0, 0, 0)), (1134, (.i2l, 1, 0, 0, 0, 0)), (1135, (.lcmp, 1, 0, 0, 0, 0)), (1136, (.ifCond .eq 5, 3, 1141, 0, 0, 0)), (1139, (.iconst 0, 1, 0, 0, 0, 0)), (1140, (.ireturn, 1, 1, 0, 0, 0)), (1141, (.goto 791, 3, 1932, 0, 0, 0)), (1144, (.aload_n 1, 1, 0, 0, 0, 0)), (1145, (.aload_n 0, 1, 0, 0, 0, 0)), (1146, (.iload 5, 2, 0, 0, 0, 0)), (1148, (.iconst 1, 1, 0, 0, 0, 0)), (1149, (.iadd, 1, 0, 0, 0, 0)), (1150, (.iaload, 1, 1, 0, 0, 0)), (1151, (.aload_n 0, 1, 0, 0, 0, 0)), (1152, (.iload 5, 2, 0, 0, 0, 0)), (1154, (.iconst 2, 1, 0, 0, 0, 0)), (1155, (.iadd, 1, 0, 0, 0, 0)), (1156, (.iaload, 1, 1, 0, 0, 0)), (1157, (.aload_n 3, 1, 0, 0, 0, 0)), (1158, (.invokestatic 181, 3, 293, 4, 12, 3)), (1161, (.istore 6, 2, 0, 0, 0, 0)), (1163, (.aload_n 2, 1, 0, 0, 0, 0)), (1164, (.aload_n 0, 1, 0, 0, 0, 0)), (1165, (.iload 5, 2, 0, 0, 0, 0)), (1167, (.iconst 1, 1, 0, 0, 0, 0)), (1168, (.iadd, 1, 0, 0, 0, 0)), (1169, (.iaload, 1, 1, 0, 0, 0)), (1170, (.aload_n 0, 1, 0, 0, 0, 0)), (1171, (.iload 5, 2, 0, 0, 0, 0)), (1173, (.iconst 2, 1, 0, 0, 0, 0)), (1174, (.iadd, 1, 0, 0, 0, 0)), (1175, (.iaload, 1, 1, 0, 0, 0)), (1176, (.invokevirtual 183, 3, 240, 3, 9, 0)), (1179, (.istore 7, 2, 0, 0, 0, 0)), (1181, (.aload_n 2, 1, 0, 0, 0, 0)), (1182, (.invokevirtual 116, 3, 174, 1, 9, 0)), (1185, (.iload 6, 2, 0, 0, 0, 0)), (1187, (.if_icmp .eq 5, 3, 1192, 0, 0, 0)), (1190, (.iconst 0, 1, 0, 0, 0, 0)), (1191, (.ireturn, 1, 1, 0, 0, 0)), (1192, (.iload 6, 2, 0, 0, 0, 0)), (1194, (.ifCond .ne 15, 3, 1209, 0, 0, 0)), (1197, (.aload_n 3, 1, 0, 0, 0, 0)), (1198, (.iconst 0, 1, 0, 0, 0, 0)), (1199, (.laload, 1, 0, 0, 0, 0)), (1200, (.iload 7, 2, 0, 0, 0, 0)), (1202, (.i2l, 1, 0, 0, 0, 0)), (1203, (.lcmp, 1, 0, 0, 0, 0)), (1204, (.ifCond .eq 5, 3, 1209, 0, 0, 0)), (1207, (.iconst 0, 1, 0, 0, 0, 0)), (1208, (.ireturn, 1, 1, 0, 0, 0)), (1209, (.goto 723, 3, 1932, 0, 0, 0)), (1212, (.aload_n 1, 1, 0, 0, 0, 0)), (1213, (.invokevirtual 184, 3, 141, 1, 8, 0)), (1216, (.aload_n 2, 1, 0, 0, 0, 0)), (1217, (.invokevirtual 187, 3, 241, 1, 9, 0)), (1220, (.if_icmp .eq 712, 3, 1932, 0, 0, 0)), (1223, (.iconst 0, 1, 0, 0, 0, 0)), (1224, (.ireturn, 1, 1, 0, 0, 0)), (1225, (.aload_n 1, 1, 0, 0, 0, 0)), (1226, (.aload_n 0, 1, 0, 0, 0, 0)), (1227, (.iload 5, 2, 0, 0, 0, 0)), (1229, (.iconst 1, 1, 0, 0, 0, 0)), (1230, (.iadd, 1, 0, 0, 0, 0)), (1231, (.iaload, 1, 1, 0, 0, 0)), (1232, (.aload_n 3, 1, 0, 0, 0, 0)), (1233, (.invokestatic 188, 3, 294, 3, 12, 1)), (1236, (.istore 6, 2, 0, 0, 0, 0)), (1238, (.aload_n 2, 1, 0, 0, 0, 0)), (1239, (.aload_n 0, 1, 0, 0, 0, 0)), (1240, (.iload 5, 2, 0, 0, 0, 0)), (1242, (.iconst 1, 1, 0, 0, 0, 0)), (1243, (.iadd, 1, 0, 0, 0, 0)), (1244, (.iaload, 1, 1, 0, 0, 0)), (1245, (.invokevirtual 190, 3, 249, 2, 9, 0)), (1248, (.lstore 7, 2, 0, 0, 0, 0)), (1250, (.aload_n 2, 1, 0, 0, 0, 0)), (1251, (.invokevirtual 116, 3, 174, 1, 9, 0)), (1254, (.iload 6, 2, 0, 0, 0, 0)), (1256, (.if_icmp .eq 5, 3, 1261, 0, 0, 0)), (1259, (.iconst 0, 1, 0, 0, 0, 0)), (1260, (.ireturn, 1, 1, 0, 0, 0)), (1261, (.iload 6, 2, 0, 0, 0, 0)), (1263, (.ifCond .ne 14, 3, 1277, 0, 0, 0)), (1266, (.aload_n 3, 1, 0, 0, 0, 0))]
def k_305_7 : List (Nat × Ent) := [(1267, (.iconst 0, 1, 0, 0, 0, 0)), (1268, (.laload, 1, 0, 0, 0, 0)), (1269, (.lload 7, 2, 0, 0, 0, 0)), (1271, (.lcmp, 1, 0, 0, 0, 0)), (1272, (.ifCond .eq 5, 3, 1277, 0, 0, 0)), (1275, (.iconst 0, 1, 0, 0, 0, 0)), (1276, (.ireturn, 1, 1, 0, 0, 0)), (1277, (.goto 655, 3, 1932, 0, 0, 0)), (1280, (.aload_n 1, 1, 0, 0, 0, 0)), (1281, (.aload_n 0, 1, 0, 0, 0, 0)), (1282, (.iload 5, 2, 0, 0, 0, 0)), (1284, (.iconst 1, 1, 0, 0, 0, 0)), (1285, (.iadd, 1, 0, 0, 0, 0)), (1286, (.iaload, 1, 1, 0, 0, 0)), (1287, (.aload_n 0, 1, 0, 0, 0, 0)), (1288, (.iload 5, 2, 0, 0, 0, 0)), (1290, (.iconst 2, 1, 0, 0, 0, 0)), (1291, (.iadd, 1, 0, 0, 0, 0)), (1292, (.iaload, 1, 1, 0, 0, 0)), (1293, (.aload_n 3, 1, 0, 0, 0, 0)), (1294, (.invokestatic 191, 3, 295, 4, 12, 2)), (1297, (.istore 6, 2, 0, 0, 0, 0)), (1299, (.aload_n 2, 1, 0, 0, 0, 0)), (1300, (.aload_n 0, 1, 0, 0, 0, 0)), (1301, (.iload 5, 2, 0, 0, 0, 0)), (1303, (.iconst 1, 1, 0, 0, 0, 0)), (1304, (.iadd, 1, 0, 0, 0, 0)), (1305, (.iaload, 1, 1, 0, 0, 0)), (1306, (.aload_n 0, 1, 0, 0, 0, 0)), (1307, (.iload 5, 2, 0, 0, 0, 0)), (1309, (.iconst 2, 1, 0, 0, 0, 0)), (1310, (.iadd, 1, 0, 0, 0, 0)), (1311, (.iaload, 1, 1, 0, 0, 0)), (1312, (.invokevirtual 193, 3, 250, 3, 9, 0)), (1315, (.istore 7, 2, 0, 0, 0, 0)), (1317, (.aload_n 2, 1, 0, 0, 0, 0)), (1318, (.invokevirtual 116, 3, 174, 1, 9, 0)), (1321, (.iload 6, 2, 0, 0, 0, 0)), (1323, (.if_icmp .eq 5, 3, 1328, 0, 0, 0)), (1326, (.iconst 0, 1, 0, 0, 0, 0)), (1327, (.ireturn, 1, 1, 0, 0, 0)), (1328, (.iload 6, 2, 0, 0, 0, 0)), (1330, (.ifCond .ne 22, 3, 1352, 0, 0, 0)), (1333, (.aload_n 3, 1, 0, 0, 0, 0)), (1334, (.iconst 0, 1, 0, 0, 0, 0)), (1335, (.laload, 1, 0, 0, 0, 0)), (1336, (.iload 7, 2, 0, 0, 0, 0)), (1338, (.ifCond .eq 7, 3, 1345, 0, 0, 0)), (1341, (.lconst 1, 1, 0, 0, 0, 0)), (1342, (.goto 4, 3, 1346, 0, 0, 0)), (1345, (.lconst 0, 1, 0, 0, 0, 0)), (1346, (.lcmp, 1, 0, 0, 0, 0)), (1347, (.ifCond .eq 5, 3, 1352, 0, 0, 0)), (1350, (.iconst 0, 1, 0, 0, 0, 0)), (1351, (.ireturn, 1, 1, 0, 0, 0)), (1352, (.goto 580, 3, 1932, 0, 0, 0)), (1355, (.aload_n 1, 1, 0, 0, 0, 0)), (1356, (.invokevirtual 194, 3, 144, 1, 8, 0)), (1359, (.aload_n 2, 1, 0, 0, 0, 0)), (1360, (.invokevirtual 197, 3, 251, 1, 9, 0)), (1363, (.if_icmp .eq 569, 3, 1932, 0, 0, 0)), (1366, (.iconst 0, 1, 0, 0, 0, 0)), (1367, (.ireturn, 1, 1, 0, 0, 0)), (1368, (.aload_n 1, 1, 0, 0, 0, 0)), (1369, (.aload_n 0, 1, 0, 0, 0, 0)), (1370, (.iload 5, 2, 0, 0, 0, 0)), (1372, (.iconst 1, 1, 0, 0, 0, 0)), (1373, (.iadd, 1, 0, 0, 0, 0)), (1374, (.iaload, 1, 1, 0, 0, 0)), (1375, (.aload_n 3, 1, 0, 0, 0, 0)), (1376, (.invokestatic 198, 3, 296, 3, 12, 1)), (1379, (.istore 6, 2, 0, 0, 0, 0)), (1381, (.aload_n 2, 1, 0, 0, 0, 0)), (1382, (.aload_n 0, 1, 0, 0, 0, 0)), (1383, (.iload 5, 2, 0, 0, 0, 0)), (1385, (.iconst 1, 1, 0, 0, 0, 0)), (1386, (.iadd, 1, 0, 0, 0, 0)), (1387, (.iaload, 1, 1, 0, 0, 0)), (1388, (.invokevirtual 200, 3, 253, 2, 9, 0)), (1391, (.lstore 7, 2, 0, 0, 0, 0)), (1393, (.aload_n 2, 1, 0, 0, 0, 0)), (1394, (.invokevirtual 116, 3, 174, 1, 9, 0)), (1397, (.iload 6, 2, 0, 0, 0, 0)), (1399, (.if_icmp .eq 5, 3, 1404, 0, 0, 0)), (1402, (.iconst 0, 1, 0, 0, 0, 0)), (1403, (.ireturn, 1, 1, 0, 0, 0)), (1404, (.iload 6, 2, 0, 0, 0, 0)), (1406, (.ifCond .ne 14, 3, 1420, 0, 0, 0)), (1409, (.aload_n 3, 1, 0, 0, 0, 0)), (1410, (.iconst 0, 1, 0, 0, 0, 0)), (1411, (.laload, 1, 0, 0, 0, 0)), (1412, (.lload 7, 2, 0, 0, 0, 0)), (1414, (.lcmp, 1, 0, 0, 0, 0)), (1415, (.ifCond .eq 5, 3, 1420, 0, 0, 0)), (1418, (.iconst 0, 1, 0, 0, 0, 0)), (1419, (.ireturn, 1, 1, 0, 0, 0)), (1420, (.goto 512, 3, 1932, 0, 0, 0)), (1423, (.aload_n 1, 1, 0, 0, 0, 0)), (1424, (.aload_n 0, 1, 0, 0, 0, 0)), (1425, (.iload 5, 2, 0, 0, 0, 0))]
def k_305_8 : List (Nat × Ent) := [(1427, (.iconst 1, 1, 0, 0, 0, 0)), (1428, (.iadd, 1, 0, 0, 0, 0)), (1429, (.iaload, 1, 1, 0, 0, 0)), (1430, (.aload_n 3, 1, 0, 0, 0, 0)), (1431, (.invokestatic 201, 3, 297, 3, 12, 1)), (1434, (.istore 6, 2, 0, 0, 0, 0)), (1436, (.aload_n 2, 1, 0, 0, 0, 0)), (1437, (.aload_n 0, 1, 0, 0, 0, 0)), (1438, (.iload 5, 2, 0, 0, 0, 0)), (1440, (.iconst 1, 1, 0, 0, 0, 0)), (1441, (.iadd, 1, 0, 0, 0, 0)), (1442, (.iaload, 1, 1, 0, 0, 0)), (1443, (.invokevirtual 203, 3, 254, 2, 9, 0)), (1446, (.istore 7, 2, 0, 0, 0, 0)), (1448, (.aload_n 2, 1, 0, 0, 0, 0)), (1449, (.invokevirtual 116, 3, 174, 1, 9, 0)), (1452, (.iload 6, 2, 0, 0, 0, 0)), (1454, (.if_icmp .eq 5, 3, 1459, 0, 0, 0)), (1457, (.iconst 0, 1, 0, 0, 0, 0)), (1458, (.ireturn, 1, 1, 0, 0, 0)), (1459, (.iload 6, 2, 0, 0, 0, 0)), (1461, (.ifCond .ne 22, 3, 1483, 0, 0, 0)), (1464, (.aload_n 3, 1, 0, 0, 0, 0)), (1465, (.iconst 0, 1, 0, 0, 0, 0)), (1466, (.laload, 1, 0, 0, 0, 0)), (1467, (.iload 7, 2, 0, 0, 0, 0)), (1469, (.ifCond .eq 7, 3, 1476, 0, 0, 0)), (1472, (.lconst 1, 1, 0, 0, 0, 0)), (1473, (.goto 4, 3, 1477, 0, 0, 0)), (1476, (.lconst 0, 1, 0, 0, 0, 0)), (1477, (.lcmp, 1, 0, 0, 0, 0)), (1478, (.ifCond .eq 5, 3, 1483, 0, 0, 0)), (1481, (.iconst 0, 1, 0, 0, 0, 0)), (1482, (.ireturn, 1, 1, 0, 0, 0)), (1483, (.goto 449, 3, 1932, 0, 0, 0)), (1486, (.aload_n 1, 1, 0, 0, 0, 0)), (1487, (.aload_n 0, 1, 0, 0, 0, 0)), (1488, (.iload 5, 2, 0, 0, 0, 0)), (1490, (.iconst 1, 1, 0, 0, 0, 0)), (1491, (.iadd, 1, 0, 0, 0, 0)), (1492, (.iaload, 1, 1, 0, 0, 0)), (1493, (.aload_n 3, 1, 0, 0, 0, 0)), (1494, (.invokestatic 204, 3, 298, 3, 12, 1)), (1497, (.istore 6, 2, 0, 0, 0, 0)), (1499, (.aload_n 2, 1, 0, 0, 0, 0)), (1500, (.aload_n 0, 1, 0, 0, 0, 0)), (1501, (.iload 5, 2, 0, 0, 0, 0)), (1503, (.iconst 1, 1, 0, 0, 0, 0)), (1504, (.iadd, 1, 0, 0, 0, 0)), (1505, (.iaload, 1, 1, 0, 0, 0)), (1506, (.invokevirtual 206, 3, 255, 2, 9, 0)), (1509, (.istore 7, 2, 0, 0, 0, 0)), (1511, (.aload_n 2, 1, 0, 0, 0, 0)), (1512, (.invokevirtual 116, 3, 174, 1, 9, 0)), (1515, (.iload 6, 2, 0, 0, 0, 0)), (1517, (.if_icmp .eq 5, 3, 1522, 0, 0, 0)), (1520, (.iconst 0, 1, 0, 0, 0, 0)), (1521, (.ireturn, 1, 1, 0, 0, 0)), (1522, (.iload 6, 2, 0, 0, 0, 0)), (1524, (.ifCond .ne 22, 3, 1546, 0, 0, 0)), (1527, (.aload_n 3, 1, 0, 0, 0, 0)), (1528, (.iconst 0, 1, 0, 0, 0, 0)), (1529, (.laload, 1, 0, 0, 0, 0)), (1530, (.iload 7, 2, 0, 0, 0, 0)), (1532, (.ifCond .eq 7, 3, 1539, 0, 0, 0)), (1535, (.lconst 1, 1, 0, 0, 0, 0)), (1536, (.goto 4, 3, 1540, 0, 0, 0)), (1539, (.lconst 0, 1, 0, 0, 0, 0)), (1540, (.lcmp, 1, 0, 0, 0, 0)), (1541, (.ifCond .eq 5, 3, 1546, 0, 0, 0)), (1544, (.iconst 0, 1, 0, 0, 0, 0)), (1545, (.ireturn, 1, 1, 0, 0, 0)), (1546, (.goto 386, 3, 1932, 0, 0, 0)), (1549, (.aload_n 1, 1, 0, 0, 0, 0)), (1550, (.aload_n 0, 1, 0, 0, 0, 0)), (1551, (.iload 5, 2, 0, 0, 0, 0)), (1553, (.iconst 1, 1, 0, 0, 0, 0)), (1554, (.iadd, 1, 0, 0, 0, 0)), (1555, (.iaload, 1, 1, 0, 0, 0)), (1556, (.aload_n 3, 1, 0, 0, 0, 0)), (1557, (.invokestatic 207, 3, 299, 3, 12, 1)), (1560, (.istore 6, 2, 0, 0, 0, 0)), (1562, (.aload_n 2, 1, 0, 0, 0, 0)), (1563, (.aload_n 0, 1, 0, 0, 0, 0)), (1564, (.iload 5, 2, 0, 0, 0, 0)), (1566, (.iconst 1, 1, 0, 0, 0, 0)), (1567, (.iadd, 1, 0, 0, 0, 0)), (1568, (.iaload, 1, 1, 0, 0, 0)), (1569, (.invokevirtual 209, 3, 258, 2, 9, 0)), (1572, (.istore 7, 2, 0, 0, 0, 0)), (1574, (.aload_n 2, 1, 0, 0, 0, 0)), (1575, (.invokevirtual 116, 3, 174, 1, 9, 0)), (1578, (.iload 6, 2, 0, 0, 0, 0)), (1580, (.if_icmp .eq 5, 3, 1585, 0, 0, 0)), (1583, (.iconst 0, 1, 0, 0, 0, 0)), (1584, (.ireturn, 1, 1, 0, 0, 0)), (1585, (.iload 6, 2, 0, 0, 0, 0)), (1587, (.ifCond .ne 15, 3, 1602, 0, 0, 0)), (1590, (.aload_n 3, 1, 0, 0, 0, 0)), (1591, (.iconst 0, 1, 0, 0, 0, 0))]
def k_305_9 : List (Nat × Ent) := [(1592, (.laload, 1, 0, 0, 0, 0)), (1593, (.iload 7, 2, 0, 0, 0, 0)), (1595, (.i2l, 1, 0, 0, 0, 0)), (1596, (.lcmp, 1, 0, 0, 0, 0)), (1597, (.ifCond .eq 5, 3, 1602, 0, 0, 0)), (1600, (.iconst 0, 1, 0, 0, 0, 0)), (1601, (.ireturn, 1, 1, 0, 0, 0)), (1602, (.goto 330, 3, 1932, 0, 0, 0)), (1605, (.aload_n 1, 1, 0, 0, 0, 0)), (1606, (.invokevirtual 210, 3, 149, 1, 8, 0)), (1609, (.aload_n 2, 1, 0, 0, 0, 0)), (1610, (.invokevirtual 213, 3, 267, 1, 9, 0)), (1613, (.if_icmp .eq 319, 3, 1932, 0, 0, 0)), (1616, (.iconst 0, 1, 0, 0, 0, 0)), (1617, (.ireturn, 1, 1, 0, 0, 0)), (1618, (.aload_n 1, 1, 0, 0, 0, 0)), (1619, (.aload_n 0, 1, 0, 0, 0, 0)), (1620, (.iload 5, 2, 0, 0, 0, 0)), (1622, (.iconst 1, 1, 0, 0, 0, 0)), (1623, (.iadd, 1, 0, 0, 0, 0)), (1624, (.iaload, 1, 1, 0, 0, 0)), (1625, (.aload_n 3, 1, 0, 0, 0, 0)), (1626, (.invokestatic 214, 3, 300, 3, 12, 1)), (1629, (.istore 6, 2, 0, 0, 0, 0)), (1631, (.aload_n 2, 1, 0, 0, 0, 0)), (1632, (.aload_n 0, 1, 0, 0, 0, 0)), (1633, (.iload 5, 2, 0, 0, 0, 0)), (1635, (.iconst 1, 1, 0, 0, 0, 0)), (1636, (.iadd, 1, 0, 0, 0, 0)), (1637, (.iaload, 1, 1, 0, 0, 0)), (1638, (.invokevirtual 216, 3, 268, 2, 9, 0)), (1641, (.lstore 7, 2, 0, 0, 0, 0)), (1643, (.aload_n 2, 1, 0, 0, 0, 0)), (1644, (.invokevirtual 116, 3, 174, 1, 9, 0)), (1647, (.iload 6, 2, 0, 0, 0, 0)), (1649, (.if_icmp .eq 5, 3, 1654, 0, 0, 0)), (1652, (.iconst 0, 1, 0, 0, 0, 0)), (1653, (.ireturn, 1, 1, 0, 0, 0)), (1654, (.iload 6, 2, 0, 0, 0, 0)), (1656, (.ifCond .ne 14, 3, 1670, 0, 0, 0)), (1659, (.aload_n 3, 1, 0, 0, 0, 0)), (1660, (.iconst 0, 1, 0, 0, 0, 0)), (1661, (.laload, 1, 0, 0, 0, 0)), (1662, (.lload 7, 2, 0, 0, 0, 0)), (1664, (.lcmp, 1, 0, 0, 0, 0)), (1665, (.ifCond .eq 5, 3, 1670, 0, 0, 0)), (1668, (.iconst 0, 1, 0, 0, 0, 0)), (1669, (.ireturn, 1, 1, 0, 0, 0)), (1670, (.goto 262, 3, 1932, 0, 0, 0)), (1673, (.aload_n 1, 1, 0, 0, 0, 0)), (1674, (.aload_n 0, 1, 0, 0, 0, 0)), (1675, (.iload 5, 2, 0, 0, 0, 0)), (1677, (.iconst 1, 1, 0, 0, 0, 0)), (1678, (.iadd, 1, 0, 0, 0, 0)), (1679, (.iaload, 1, 1, 0, 0, 0)), (1680, (.aload_n 0, 1, 0, 0, 0, 0)), (1681, (.iload 5, 2, 0, 0, 0, 0)), (1683, (.iconst 2, 1, 0, 0, 0, 0)), (1684, (.iadd, 1, 0, 0, 0, 0)), (1685, (.iaload, 1, 1, 0, 0, 0)), (1686, (.aload_n 3, 1, 0, 0, 0, 0)), (1687, (.invokestatic 217, 3, 301, 4, 12, 1)), (1690, (.istore 6, 2, 0, 0, 0, 0)), (1692, (.aload_n 2, 1, 0, 0, 0, 0)), (1693, (.aload_n 0, 1, 0, 0, 0, 0)), (1694, (.iload 5, 2, 0, 0, 0, 0)), (1696, (.iconst 1, 1, 0, 0, 0, 0)), (1697, (.iadd, 1, 0, 0, 0, 0)), (1698, (.iaload, 1, 1, 0, 0, 0)), (1699, (.aload_n 0, 1, 0, 0, 0, 0)), (1700, (.iload 5, 2, 0, 0, 0, 0)), (1702, (.iconst 2, 1, 0, 0, 0, 0)), (1703, (.iadd, 1, 0, 0, 0, 0)), (1704, (.iaload, 1, 1, 0, 0, 0)), (1705, (.invokevirtual 219, 3, 269, 3, 9, 0)), (1708, (.lstore 7, 2, 0, 0, 0, 0)), (1710, (.aload_n 2, 1, 0, 0, 0, 0)), (1711, (.invokevirtual 116, 3, 174, 1, 9, 0)), (1714, (.iload 6, 2, 0, 0, 0, 0)), (1716, (.if_icmp .eq 5, 3, 1721, 0, 0, 0)), (1719, (.iconst 0, 1, 0, 0, 0, 0)), (1720, (.ireturn, 1, 1, 0, 0, 0)), (1721, (.iload 6, 2, 0, 0, 0, 0)), (1723, (.ifCond .ne 14, 3, 1737, 0, 0, 0)), (1726, (.aload_n 3, 1, 0, 0, 0, 0)), (1727, (.iconst 0, 1, 0, 0, 0, 0)), (1728, (.laload, 1, 0, 0, 0, 0)), (1729, (.lload 7, 2, 0, 0, 0, 0)), (1731, (.lcmp, 1, 0, 0, 0, 0)), (1732, (.ifCond .eq 5, 3, 1737, 0, 0, 0)), (1735, (.iconst 0, 1, 0, 0, 0, 0)), (1736, (.ireturn, 1, 1, 0, 0, 0)), (1737, (.goto 195, 3, 1932, 0, 0, 0)), (1740, (.aload_n 1, 1, 0, 0, 0, 0)), (1741, (.invokevirtual 220, 3, 152, 1, 8, 0)), (1744, (.aload_n 2, 1, 0, 0, 0, 0)), (1745, (.invokevirtual 223, 3, 270, 1, 9, 0)), (1748, (.if_icmp .eq 184, 3, 1932, 0, 0, 0)), (1751, (.iconst 0, 1, 0, 0, 0, 0)), (1752, (.ireturn, 1, 1, 0, 0, 0))]
def k_305_10 : List (Nat × Ent) := [(1753, (.aload_n 1, 1, 0, 0, 0, 0)), (1754, (.invokevirtual 224, 3, 153, 1, 8, 0)), (1757, (.aload_n 2, 1, 0, 0, 0, 0)), (1758, (.invokevirtual 227, 3, 271, 1, 9, 0)), (1761, (.if_icmp .eq 171, 3, 1932, 0, 0, 0)), (1764, (.iconst 0, 1, 0, 0, 0, 0)), (1765, (.ireturn, 1, 1, 0, 0, 0)), (1766, (.aload_n 1, 1, 0, 0, 0, 0)), (1767, (.aload 4, 2, 0, 0, 0, 0)), (1769, (.invokestatic 228, 3, 302, 2, 12, 1)), (1772, (.istore 6, 2, 0, 0, 0, 0)), (1774, (.aload_n 2, 1, 0, 0, 0, 0)), (1775, (.invokevirtual 231, 3, 272, 1, 9, 0)), (1778, (.dstore 7, 2, 0, 0, 0, 0)), (1780, (.aload_n 2, 1, 0, 0, 0, 0)), (1781, (.invokevirtual 116, 3, 174, 1, 9, 0)), (1784, (.iload 6, 2, 0, 0, 0, 0)), (1786, (.if_icmp .eq 5, 3, 1791, 0, 0, 0)), (1789, (.iconst 0, 1, 0, 0, 0, 0)), (1790, (.ireturn, 1, 1, 0, 0, 0)), (1791, (.iload 6, 2, 0, 0, 0, 0)), (1793, (.ifCond .ne 35, 3, 1828, 0, 0, 0)), (1796, (.aload 4, 2, 0, 0, 0, 0)), (1798, (.iconst 0, 1, 0, 0, 0, 0)), (1799, (.daload, 1, 0, 0, 0, 0)), (1800, (.dload 7, 2, 0, 0, 0, 0)), (1802, (.dcmp .l, 1, 0, 0, 0, 0)), (1803, (.ifCond .eq 25, 3, 1828, 0, 0, 0)), (1806, (.aload 4, 2, 0, 0, 0, 0)), (1808, (.iconst 0, 1, 0, 0, 0, 0)), (1809, (.daload, 1, 0, 0, 0, 0)), (1810, (.aload 4, 2, 0, 0, 0, 0)), (1812, (.iconst 0, 1, 0, 0, 0, 0)), (1813, (.daload, 1, 0, 0, 0, 0)), (1814, (.dcmp .l, 1, 0, 0, 0, 0)), (1815, (.ifCond .eq 11, 3, 1826, 0, 0, 0)), (1818, (.dload 7, 2, 0, 0, 0, 0)), (1820, (.dload 7, 2, 0, 0, 0, 0)), (1822, (.dcmp .l, 1, 0, 0, 0, 0)), (1823, (.ifCond .ne 5, 3, 1828, 0, 0, 0)), (1826, (.iconst 0, 1, 0, 0, 0, 0)), (1827, (.ireturn, 1, 1, 0, 0, 0)), (1828, (.goto 104, 3, 1932, 0, 0, 0)), (1831, (.aload_n 1, 1, 0, 0, 0, 0)), (1832, (.aload 4, 2, 0, 0, 0, 0)), (1834, (.invokestatic 232, 3, 303, 2, 12, 1)), (1837, (.istore 6, 2, 0, 0, 0, 0)), (1839, (.aload_n 2, 1, 0, 0, 0, 0)), (1840, (.invokevirtual 234, 3, 273, 1, 9, 0)), (1843, (.fstore 7, 2, 0, 0, 0, 0)), (1845, (.aload_n 2, 1, 0, 0, 0, 0)), (1846, (.invokevirtual 116, 3, 174, 1, 9, 0)), (1849, (.iload 6, 2, 0, 0, 0, 0)), (1851, (.if_icmp .eq 5, 3, 1856, 0, 0, 0)), (1854, (.iconst 0, 1, 0, 0, 0, 0)), (1855, (.ireturn, 1, 1, 0, 0, 0)), (1856, (.iload 6, 2, 0, 0, 0, 0)), (1858, (.ifCond .ne 36, 3, 1894, 0, 0, 0)), (1861, (.aload 4, 2, 0, 0, 0, 0)), (1863, (.iconst 0, 1, 0, 0, 0, 0)), (1864, (.daload, 1, 0, 0, 0, 0)), (1865, (.fload 7, 2, 0, 0, 0, 0)), (1867, (.f2d, 1, 0, 0, 0, 0)), (1868, (.dcmp .l, 1, 0, 0, 0, 0)), (1869, (.ifCond .eq 25, 3, 1894, 0, 0, 0)), (1872, (.aload 4, 2, 0, 0, 0, 0)), (1874, (.iconst 0, 1, 0, 0, 0, 0)), (1875, (.daload, 1, 0, 0, 0, 0)), (1876, (.aload 4, 2, 0, 0, 0, 0)), (1878, (.iconst 0, 1, 0, 0, 0, 0)), (1879, (.daload, 1, 0, 0, 0, 0)), (1880, (.dcmp .l, 1, 0, 0, 0, 0)), (1881, (.ifCond .eq 11, 3, 1892, 0, 0, 0)), (1884, (.fload 7, 2, 0, 0, 0, 0)), (1886, (.fload 7, 2, 0, 0, 0, 0)), (1888, (.fcmp .l, 1, 0, 0, 0, 0)), (1889, (.ifCond .ne 5, 3, 1894, 0, 0, 0)), (1892, (.iconst 0, 1, 0, 0, 0, 0)), (1893, (.ireturn, 1, 1, 0, 0, 0)), (1894, (.goto 38, 3, 1932, 0, 0, 0)), (1897, (.aload_n 1, 1, 0, 0, 0, 0)), (1898, (.invokevirtual 235, 3, 156, 1, 8, 0)), (1901, (.aload_n 2, 1, 0, 0, 0, 0)), (1902, (.invokevirtual 238, 3, 276, 1, 9, 0)), (1905, (.goto 27, 3, 1932, 0, 0, 0)), (1908, (.aload_n 1, 1, 0, 0, 0, 0)), (1909, (.invokestatic 239, 3, 304, 1, 12, 1)), (1912, (.istore 6, 2, 0, 0, 0, 0)), (1914, (.aload_n 2, 1, 0, 0, 0, 0)), (1915, (.invokevirtual 242, 3, 277, 1, 9, 0)), (1918, (.aload_n 2, 1, 0, 0, 0, 0)), (1919, (.invokevirtual 116, 3, 174, 1, 9, 0)), (1922, (.iload 6, 2, 0, 0, 0, 0)), (1924, (.if_icmp .eq 5, 3, 1929, 0, 0, 0)), (1927, (.iconst 0, 1, 0, 0, 0, 0)), (1928, (.ireturn, 1, 1, 0, 0, 0)), (1929, (.goto 3, 3, 1932, 0, 0, 0)), (1932, (.iinc 5 4, 3, 0, 0, 0, 0)), (1935, (.goto (-1907), 3, 28, 0, 0, 0)), (1938, (.iconst 1, 1, 0, 0, 0, 0))]
def k_305_11 : List (Nat × Ent) := [(1939, (.ireturn, 1, 1, 0, 0, 0))]
def kk_305 (q : Nat) : Option Ent := (bif Nat.blt q 1106 then (bif Nat.blt q 643 then (bif Nat.blt q 324 then lkp k_305_0 q else (bif Nat.blt q 486 then lkp k_305_1 q else lkp k_305_2 q)) else (bif Nat.blt q 794 then lkp k_305_3 q else (bif Nat.blt q 947 then lkp k_305_4 q else lkp k_305_5 q))) else (bif Nat.blt q 1592 then (bif Nat.blt q 1267 then lkp k_305_6 q else (bif Nat.blt q 1427 then lkp k_305_7 q else lkp k_305_8 q)) else (bif Nat.blt q 1753 then lkp k_305_9 q else (bif Nat.blt q 1939 then lkp k_305_10 q else lkp k_305_11 q))))
def cd (mi q : Nat) : Option Ent := (bif Nat.blt mi 153 then (bif Nat.blt mi 76 then (bif Nat.blt mi 38 then (bif Nat.blt mi 19 then (bif Nat.blt mi 9 then (bif Nat.blt mi 4 then (bif Nat.blt mi 2 then (bif Nat.blt mi 1 then kk_0 q else kk_1 q) else (bif Nat.blt mi 3 then kk_2 q else kk_3 q)) else (bif Nat.blt mi 6 then (bif Nat.blt mi 5 then kk_4 q else kk_5 q) else (bif Nat.blt mi 7 then kk_6 q else (bif Nat.blt mi 8 then kk_7 q else kk_8 q)))) else (bif Nat.blt mi 14 then (bif Nat.blt mi 11 then (bif Nat.blt mi 10 then kk_9 q else kk_10 q) else (bif Nat.blt mi 12 then kk_11 q else (bif Nat.blt mi 13 then kk_12 q else kk_13 q))) else (bif Nat.blt mi 16 then (bif Nat.blt mi 15 then kk_14 q else kk_15 q) else (bif Nat.blt mi 17 then kk_16 q else (bif Nat.blt mi 18 then kk_17 q else kk_18 q))))) else (bif Nat.blt mi 28 then (bif Nat.blt mi 23 then (bif Nat.blt mi 21 then (bif Nat.blt mi 20 then kk_19 q else kk_20 q) else (bif Nat.blt mi 22 then kk_21 q else kk_22 q)) else (bif Nat.blt mi 25 then (bif Nat.blt mi 24 then kk_23 q else kk_24 q) else (bif Nat.blt mi 26 then kk_25 q else (bif Nat.blt mi 27 then kk_26 q else kk_27 q)))) else (bif Nat.blt mi 33 then (bif Nat.blt mi 30 then (bif Nat.blt mi 29 then kk_28 q else kk_29 q) else (bif Nat.blt mi 31 then kk_30 q else (bif Nat.blt mi 32 then kk_31 q else kk_32 q))) else (bif Nat.blt mi 35 then (bif Nat.blt mi 34 then kk_33 q else kk_34 q) else (bif Nat.blt mi 36 then kk_35 q else (bif Nat.blt mi 37 then kk_36 q else kk_37 q)))))) else (bif Nat.blt mi 57 then (bif Nat.blt mi 47 then (bif Nat.blt mi 42 then (bif Nat.blt mi 40 then (bif Nat.blt mi 39 then kk_38 q else kk_39 q) else (bif Nat.blt mi 41 then kk_40 q else kk_41 q)) else (bif Nat.blt mi 44 then (bif Nat.blt mi 43 then kk_42 q else kk_43 q) else (bif Nat.blt mi 45 then kk_44 q else (bif Nat.blt mi 46 then kk_45 q else kk_46 q)))) else (bif Nat.blt mi 52 then (bif Nat.blt mi 49 then (bif Nat.blt mi 48 then kk_47 q else kk_48 q) else (bif Nat.blt mi 50 then kk_49 q else (bif Nat.blt mi 51 then kk_50 q else kk_51 q))) else (bif Nat.blt mi 54 then (bif Nat.blt mi 53 then kk_52 q else kk_53 q) else (bif Nat.blt mi 55 then kk_54 q else (bif Nat.blt mi 56 then kk_55 q else kk_56 q))))) else (bif Nat.blt mi 66 then (bif Nat.blt mi 61 then (bif Nat.blt mi 59 then (bif Nat.blt mi 58 then kk_57 q else kk_58 q) else (bif Nat.blt mi 60 then kk_59 q else kk_60 q)) else (bif Nat.blt mi 63 then (bif Nat.blt mi 62 then kk_61 q else kk_62 q) else (bif Nat.blt mi 64 then kk_63 q else (bif Nat.blt mi 65 then kk_64 q else kk_65 q)))) else (bif Nat.blt mi 71 then (bif Nat.blt mi 68 then (bif Nat.blt mi 67 then kk_66 q else kk_67 q) else (bif Nat.blt mi 69 then kk_68 q else (bif Nat.blt mi 70 then kk_69 q else kk_70 q))) else (bif Nat.blt mi 73 then (bif Nat.blt mi 72 then kk_71 q else kk_72 q) else (bif Nat.blt mi 74 then kk_73 q else (bif Nat.blt mi 75 then kk_74 q else kk_75 q))))))) else (bif Nat.blt mi 114 then (bif Nat.blt mi 95 then (bif Nat.blt mi 85 then (bif Nat.blt mi 80 then (bif Nat.blt mi 78 then (bif Nat.blt mi 77 then kk_76 q else kk_77 q) else (bif Nat.blt mi 79 then kk_78 q else kk_79 q)) else (bif Nat.blt mi 82 then (bif Nat.blt mi 81 then kk_80 q else kk_81 q) else (bif Nat.blt mi 83 then kk_82 q else (bif Nat.blt mi 84 then kk_83 q else kk_84 q)))) else (bif Nat.blt mi 90 then (bif Nat.blt mi 87 then (bif Nat.blt mi 86 then kk_85 q else kk_86 q) else (bif Nat.blt mi 88 then kk_87 q else (bif Nat.blt mi 89 then kk_88 q else kk_89 q))) else (bif Nat.blt mi 92 then (bif Nat.blt mi 91 then kk_90 q else kk_91 q) else (bif Nat.blt mi 93 then kk_92 q else (bif Nat.blt mi 94 then kk_93 q else kk_94 q))))) else (bif Nat.blt mi 104 then (bif Nat.blt mi 99 then (bif Nat.blt mi 97 then (bif Nat.blt mi 96 then kk_95 q else kk_96 q) else (bif Nat.blt mi 98 then kk_97 q else kk_98 q)) else (bif Nat.blt mi 101 then (bif Nat.blt mi 100 then kk_99 q else kk_100 q) else (bif Nat.blt mi 102 then kk_101 q else (bif Nat.blt mi 103 then kk_102 q else kk_103 q)))) else (bif Nat.blt mi 109 then (bif Nat.blt mi 106 then (bif Nat.blt mi 105 then kk_104 q else kk_105 q) else (bif Nat.blt mi 107 then kk_106 q else (bif Nat.blt mi 108 then kk_107 q else kk_108 q))) else (bif Nat.blt mi 111 then (bif Nat.blt mi 110 then kk_109 q else kk_110 q) else (bif Nat.blt mi 112 then kk_111 q else (bif Nat.blt mi 113 then kk_112 q else kk_113 q)))))) else (bif Nat.blt mi 133 then (bif Nat.blt mi 123 then (bif Nat.blt mi 118 then (bif Nat.blt mi 116 then (bif Nat.blt mi 115 then kk_114 q else kk_115 q) else (bif Nat.blt mi 117 then kk_116 q else kk_117 q)) else (bif Nat.blt mi 120 then (bif Nat.blt mi 119 then kk_118 q else kk_119 q) else (bif Nat.blt mi 121 then kk_120 q else (bif Nat.blt mi 122 then kk_121 q else kk_122 q)))) else (bif Nat.blt mi 128 then (bif Nat.blt mi 125 then (bif Nat.blt mi 124 then kk_123 q else kk_124 q) else (bif Nat.blt mi 126 then kk_125 q else (bif Nat.blt mi 127 then kk_126 q else kk_127 q))) else (bif Nat.blt mi 130 then (bif Nat.blt mi 129 then kk_128 q else kk_129 q) else (bif Nat.blt mi 131 then kk_130 q else (bif Nat.blt mi 132 then kk_131 q else kk_132 q))))) else (bif Nat.blt mi 143 then (bif Nat.blt mi 138 then (bif Nat.blt mi 135 then (bif Nat.blt mi 134 then kk_133 q else kk_134 q) else (bif Nat.blt mi 136 then kk_135 q else (bif Nat.blt mi 137 then kk_136 q else kk_137 q))) else (bif Nat.blt mi 140 then (bif Nat.blt mi 139 then kk_138 q else kk_139 q) else (bif Nat.blt mi 141 then kk_140 q else (bif Nat.blt mi 142 then kk_141 q else kk_142 q)))) else (bif Nat.blt mi 148 then (bif Nat.blt mi 145 then (bif Nat.blt mi 144 then kk_143 q else kk_144 q) else (bif Nat.blt mi 146 then kk_145 q else (bif Nat.blt mi 147 then kk_146 q else kk_147 q))) else (bif Nat.blt mi 150 then (bif Nat.blt mi 149 then kk_148 q else kk_149 q) else (bif Nat.blt mi 151 then kk_150 q else (bif Nat.blt mi 152 then kk_151 q else kk_152 q)))))))) else (bif Nat.blt mi 229 then (bif Nat.blt mi 191 then (bif Nat.blt mi 172 then (bif Nat.blt mi 162 then (bif Nat.blt mi 157 then (bif Nat.blt mi 155 then (bif Nat.blt mi 154 then kk_153 q else kk_154 q) else (bif Nat.blt mi 156 then kk_155 q else kk_156 q)) else (bif Nat.blt mi 159 then (bif Nat.blt mi 158 then kk_157 q else kk_158 q) else (bif Nat.blt mi 160 then kk_159 q else (bif Nat.blt mi 161 then kk_160 q else kk_161 q)))) else (bif Nat.blt mi 167 then (bif Nat.blt mi 164 then (bif Nat.blt mi 163 then kk_162 q else kk_163 q) else (bif Nat.blt mi 165 then kk_164 q else (bif Nat.blt mi 166 then kk_165 q else kk_166 q))) else (bif Nat.blt mi 169 then (bif Nat.blt mi 168 then kk_167 q else kk_168 q) else (bif Nat.blt mi 170 then kk_169 q else (bif Nat.blt mi 171 then kk_170 q else kk_171 q))))) else (bif Nat.blt mi 181 then (bif Nat.blt mi 176 then (bif Nat.blt mi 174 then (bif Nat.blt mi 173 then kk_172 q else kk_173 q) else (bif Nat.blt mi 175 then kk_174 q else kk_175 q)) else (bif Nat.blt mi 178 then (bif Nat.blt mi 177 then kk_176 q else kk_177 q) else (bif Nat.blt mi 179 then kk_178 q else (bif Nat.blt mi 180 then kk_179 q else kk_180 q)))) else (bif Nat.blt mi 186 then (bif Nat.blt mi 183 then (bif Nat.blt mi 182 then kk_181 q else kk_182 q) else (bif Nat.blt mi 184 then kk_183 q else (bif Nat.blt mi 185 then kk_184 q else kk_185 q))) else (bif Nat.blt mi 188 then (bif Nat.blt mi 187 then kk_186 q else kk_187 q) else (bif Nat.blt mi 189 then kk_188 q else (bif Nat.blt mi 190 then kk_189 q else kk_190 q)))))) else (bif Nat.blt mi 210 then (bif Nat.blt mi 200 then (bif Nat.blt mi 195 then (bif Nat.blt mi 193 then (bif Nat.blt mi 192 then kk_191 q else kk_192 q) else (bif Nat.blt mi 194 then kk_193 q else kk_194 q)) else (bif Nat.blt mi 197 then (bif Nat.blt mi 196 then kk_195 q else kk_196 q) else (bif Nat.blt mi 198 then kk_197 q else (bif Nat.blt mi 199 then kk_198 q else kk_199 q)))) else (bif Nat.blt mi 205 then (bif Nat.blt mi 202 then (bif Nat.blt mi 201 then kk_200 q else kk_201 q) else (bif Nat.blt mi 203 then kk_202 q else (bif Nat.blt mi 204 then kk_203 q else kk_204 q))) else (bif Nat.blt mi 207 then (bif Nat.blt mi 206 then kk_205 q else kk_206 q) else (bif Nat.blt mi 208 then kk_207 q else (bif Nat.blt mi 209 then kk_208 q else kk_209 q))))) else (bif Nat.blt mi 219 then (bif Nat.blt mi 214 then (bif Nat.blt mi 212 then (bif Nat.blt mi 211 then kk_210 q else kk_211 q) else (bif Nat.blt mi 213 then kk_212 q else kk_213 q)) else (bif Nat.blt mi 216 then (bif Nat.blt mi 215 then kk_214 q else kk_215 q) else (bif Nat.blt mi 217 then kk_216 q else (bif Nat.blt mi 218 then kk_217 q else kk_218 q)))) else (bif Nat.blt mi 224 then (bif Nat.blt mi 221 then (bif Nat.blt mi 220 then kk_219 q else kk_220 q) else (bif Nat.blt mi 222 then kk_221 q else (bif Nat.blt mi 223 then kk_222 q else kk_223 q))) else (bif Nat.blt mi 226 then (bif Nat.blt mi 225 then kk_224 q else kk_225 q) else (bif Nat.blt mi 227 then kk_226 q else (bif Nat.blt mi 228 then kk_227 q else kk_228 q))))))) else (bif Nat.blt mi 267 then (bif Nat.blt mi 248 then (bif Nat.blt mi 238 then (bif Nat.blt mi 233 then (bif Nat.blt mi 231 then (bif Nat.blt mi 230 then kk_229 q else kk_230 q) else (bif Nat.blt mi 232 then kk_231 q else kk_232 q)) else (bif Nat.blt mi 235 then (bif Nat.blt mi 234 then kk_233 q else kk_234 q) else (bif Nat.blt mi 236 then kk_235 q else (bif Nat.blt mi 237 then kk_236 q else kk_237 q)))) else (bif Nat.blt mi 243 then (bif Nat.blt mi 240 then (bif Nat.blt mi 239 then kk_238 q else kk_239 q) else (bif Nat.blt mi 241 then kk_240 q else (bif Nat.blt mi 242 then kk_241 q else kk_242 q))) else (bif Nat.blt mi 245 then (bif Nat.blt mi 244 then kk_243 q else kk_244 q) else (bif Nat.blt mi 246 then kk_245 q else (bif Nat.blt mi 247 then kk_246 q else kk_247 q))))) else (bif Nat.blt mi 257 then (bif Nat.blt mi 252 then (bif Nat.blt mi 250 then (bif Nat.blt mi 249 then kk_248 q else kk_249 q) else (bif Nat.blt mi 251 then kk_250 q else kk_251 q)) else (bif Nat.blt mi 254 then (bif Nat.blt mi 253 then kk_252 q else kk_253 q) else (bif Nat.blt mi 255 then kk_254 q else (bif Nat.blt mi 256 then kk_255 q else kk_256 q)))) else (bif Nat.blt mi 262 then (bif Nat.blt mi 259 then (bif Nat.blt mi 258 then kk_257 q else kk_258 q) else (bif Nat.blt mi 260 then kk_259 q else (bif Nat.blt mi 261 then kk_260 q else kk_261 q))) else (bif Nat.blt mi 264 then (bif Nat.blt mi 263 then kk_262 q else kk_263 q) else (bif Nat.blt mi 265 then kk_264 q else (bif Nat.blt mi 266 then kk_265 q else kk_266 q)))))) else (bif Nat.blt mi 286 then (bif Nat.blt mi 276 then (bif Nat.blt mi 271 then (bif Nat.blt mi 269 then (bif Nat.blt mi 268 then kk_267 q else kk_268 q) else (bif Nat.blt mi 270 then kk_269 q else kk_270 q)) else (bif Nat.blt mi 273 then (bif Nat.blt mi 272 then kk_271 q else kk_272 q) else (bif Nat.blt mi 274 then kk_273 q else (bif Nat.blt mi 275 then kk_274 q else kk_275 q)))) else (bif Nat.blt mi 281 then (bif Nat.blt mi 278 then (bif Nat.blt mi 277 then kk_276 q else kk_277 q) else (bif Nat.blt mi 279 then kk_278 q else (bif Nat.blt mi 280 then kk_279 q else kk_280 q))) else (bif Nat.blt mi 283 then (bif Nat.blt mi 282 then kk_281 q else kk_282 q) else (bif Nat.blt mi 284 then kk_283 q else (bif Nat.blt mi 285 then kk_284 q else kk_285 q))))) else (bif Nat.blt mi 296 then (bif Nat.blt mi 291 then (bif Nat.blt mi 288 then (bif Nat.blt mi 287 then kk_286 q else kk_287 q) else (bif Nat.blt mi 289 then kk_288 q else (bif Nat.blt mi 290 then kk_289 q else kk_290 q))) else (bif Nat.blt mi 293 then (bif Nat.blt mi 292 then kk_291 q else kk_292 q) else (bif Nat.blt mi 294 then kk_293 q else (bif Nat.blt mi 295 then kk_294 q else kk_295 q)))) else (bif Nat.blt mi 301 then (bif Nat.blt mi 298 then (bif Nat.blt mi 297 then kk_296 q else kk_297 q) else (bif Nat.blt mi 299 then kk_298 q else (bif Nat.blt mi 300 then kk_299 q else kk_300 q))) else (bif Nat.blt mi 303 then (bif Nat.blt mi 302 then kk_301 q else kk_302 q) else (bif Nat.blt mi 304 then kk_303 q else (bif Nat.blt mi 305 then kk_304 q else kk_305 q)))))))))
def mLT : List Nat := [1, 2, 1, 4, 3, 3, 5, 5, 5, 2, 3, 2, 2, 1, 4, 5, 3, 1, 2, 3, 4, 4, 1, 2, 3, 2, 2, 4, 5, 4, 1, 5, 1, 1, 1, 2, 1, 3, 4, 3, 2, 1, 8, 2, 3, 7, 2, 5, 5, 7, 6, 3, 4, 10, 3, 1, 1, 1, 2, 8, 3, 3, 1, 5, 5, 3, 4, 5, 3, 3, 5, 4, 2, 2, 3, 1, 1, 1, 2, 1, 2, 3, 5, 4, 2, 6, 1, 1, 2, 2, 2, 2, 2, 2, 2, 2, 2, 2, 3, 4, 4, 3, 3, 4, 1, 1, 1, 1, 1, 3, 2, 1, 1, 1, 6, 8, 4, 3, 7, 4, 3, 2, 2, 1, 1, 2, 2, 1, 3, 2, 3, 4, 2, 3, 3, 1, 3, 2, 5, 3, 3, 1, 2, 3, 1, 7, 2, 2, 6, 1, 2, 3, 1, 1, 4, 5, 1, 1, 1, 2, 2, 5, 2, 3, 2, 2, 3, 3, 1, 1, 1, 2, 1, 3, 1, 2, 2, 3, 4, 1, 1, 1, 4, 4, 6, 4, 2, 1, 2, 4, 2, 6, 4, 5, 6, 3, 4, 3, 1, 1, 2, 2, 2, 1, 1, 3, 4, 3, 4, 9, 3, 2, 2, 3, 7, 9, 2, 6, 5, 4, 3, 4, 2, 3, 4, 5, 5, 5, 2, 4, 3, 3, 3, 3, 7, 2, 5, 2, 3, 4, 4, 1, 3, 1, 3, 5, 5, 2, 6, 2, 3, 5, 6, 7, 2, 2, 8, 4, 2, 2, 3, 2, 3, 4, 5, 4, 3, 3, 2, 3, 1, 1, 4, 4, 3, 3, 1, 1, 2, 4, 4, 4, 4, 4, 4, 5, 6, 4, 5, 5, 5, 4, 5, 5, 4, 5, 4, 4, 4, 4, 4, 5, 3, 3, 2, 9]
def mL (mi : Nat) : Nat := mLT.getD mi 0
def hdT : List (Nat × (Nat × (Nat × (Nat × (Nat × Nat))))) := [(279, 0, 9, 1, 13, 3), (279, 0, 9, 2, 16, 3), (280, 0, 9, 3, 13, 3), (280, 0, 9, 1, 16, 3), (280, 0, 9, 2, 19, 3), (281, 0, 9, 3, 13, 3), (282, 0, 9, 3, 13, 3), (283, 0, 9, 1, 13, 3), (284, 0, 9, 3, 13, 3), (285, 0, 10, 3, 15, 4), (286, 0, 12, 3, 17, 5), (287, 0, 8, 3, 12, 3), (288, 0, 9, 3, 14, 4), (289, 0, 9, 3, 14, 4), (290, 0, 17, 3, 22, 4), (291, 0, 8, 3, 12, 3), (292, 0, 10, 3, 15, 4), (292, 0, 10, 4, 19, 4), (293, 0, 10, 3, 15, 4), (293, 0, 10, 4, 19, 4), (294, 0, 8, 3, 12, 3), (295, 0, 17, 3, 22, 4), (296, 0, 8, 3, 12, 3), (297, 0, 16, 3, 20, 3), (298, 0, 16, 3, 20, 3), (299, 0, 9, 3, 13, 3), (300, 0, 8, 3, 12, 3), (301, 0, 9, 3, 14, 4), (302, 0, 7, 5, 11, 2), (303, 0, 8, 5, 12, 2), (304, 0, 4, 2, 8, 1)]
def hdF : List (Nat × (Nat × (Nat × (Nat × (Nat × Nat))))) → Nat → Nat → Nat → Option (Nat × Nat)
  | [], _, _, _ => none
  | h :: r, mi, pc, X => bif Nat.beq h.1 mi && (Nat.ble h.2.1 pc && (Nat.blt pc h.2.2.1 && Nat.beq h.2.2.2.1 X)) then some (h.2.2.2.2.1, h.2.2.2.2.2) else hdF r mi pc X
def hd (mi pc X : Nat) : Option (Nat × Nat) := hdF hdT mi pc X
end
section
/-! the tables of links and words: printed by gen_mtab.py -/
def cNT : List String := ["PointerAnalyzer$BodyText", "PointerAnalyzer$Contexts", "PointerAnalyzer$Draft", "PointerAnalyzer$Graph", "PointerAnalyzer$Inclusion", "PointerAnalyzer$Machine", "PointerAnalyzer$Program", "PointerAnalyzer$Unification", "PointerAnalyzer", "PointerAnalyzerModel", "PointerAnalyzer$Rows", "PointerAnalyzer$Statement", "PointerAnalyzerLaw", "java/lang/Long"]
def cN (ci : Nat) : String := cNT.getD ci ""
def ffT : List (List (String × (String × (String × Bool)))) := [[("PointerAnalyzer$BodyText", "characters", "[I", true), ("PointerAnalyzer$BodyText", "length", "I", false), ("PointerAnalyzer$BodyText", "position", "I", false), ("PointerAnalyzer$BodyText", "firstLocal", "I", false)], [("PointerAnalyzer$Contexts", "entries", "[I", true), ("PointerAnalyzer$Contexts", "firsts", "[I", true), ("PointerAnalyzer$Contexts", "size", "I", false), ("PointerAnalyzer$Contexts", "limit", "I", false)], [("PointerAnalyzer$Draft", "statements", "[I", true), ("PointerAnalyzer$Draft", "size", "I", false), ("PointerAnalyzer$Draft", "allocations", "I", false), ("PointerAnalyzer$Draft", "calls", "I", false)], [("PointerAnalyzer$Graph", "rows", "[J", true)], [("PointerAnalyzer$Inclusion", "contexts", "LPointerAnalyzer$Contexts;", true), ("PointerAnalyzer$Inclusion", "known", "[J", true), ("PointerAnalyzer$Inclusion", "growing", "[J", true), ("PointerAnalyzer$Inclusion", "codes", "[I", true), ("PointerAnalyzer$Inclusion", "pointees", "[I", true), ("PointerAnalyzer$Inclusion", "targets", "[J", true), ("PointerAnalyzer$Inclusion", "roundsOfFacts", "[I", true), ("PointerAnalyzer$Inclusion", "originsOfFacts", "[I", true), ("PointerAnalyzer$Inclusion", "stale", "Z", false), ("PointerAnalyzer$Inclusion", "facts", "I", false), ("PointerAnalyzer$Inclusion", "rounds", "I", false), ("PointerAnalyzer$Inclusion", "round", "I", false), ("PointerAnalyzer$Inclusion", "statement", "I", false)], [("PointerAnalyzer$Machine", "pointers", "[I", true), ("PointerAnalyzer$Machine", "codes", "[I", true), ("PointerAnalyzer$Machine", "seen", "[J", true), ("PointerAnalyzer$Machine", "functions", "[I", true), ("PointerAnalyzer$Machine", "following", "[I", true), ("PointerAnalyzer$Machine", "frames", "[I", true), ("PointerAnalyzer$Machine", "depth", "I", false), ("PointerAnalyzer$Machine", "used", "I", false), ("PointerAnalyzer$Machine", "executed", "I", false), ("PointerAnalyzer$Machine", "failed", "I", false), ("PointerAnalyzer$Machine", "made", "I", false)], [("PointerAnalyzer$Program", "bodies", "[I", true), ("PointerAnalyzer$Program", "sizes", "[I", true), ("PointerAnalyzer$Program", "limit", "I", false), ("PointerAnalyzer$Program", "numbered", "[I", true), ("PointerAnalyzer$Program", "owners", "[I", true), ("PointerAnalyzer$Program", "siteNumbers", "[I", true), ("PointerAnalyzer$Program", "starts", "[I", true), ("PointerAnalyzer$Program", "sites", "I", false)], [("PointerAnalyzer$Unification", "parents", "[I", true), ("PointerAnalyzer$Unification", "pointees", "[I", true), ("PointerAnalyzer$Unification", "stale", "Z", false)], [("PointerAnalyzer", "text", "LPointerAnalyzer$BodyText;", true), ("PointerAnalyzer", "draft", "LPointerAnalyzer$Draft;", true), ("PointerAnalyzer", "program", "LPointerAnalyzer$Program;", true), ("PointerAnalyzer", "kept", "LPointerAnalyzer$Program;", true), ("PointerAnalyzer", "inclusion", "LPointerAnalyzer$Inclusion;", true), ("PointerAnalyzer", "plain", "LPointerAnalyzer$Inclusion;", true), ("PointerAnalyzer", "unification", "LPointerAnalyzer$Unification;", true), ("PointerAnalyzer", "graph", "LPointerAnalyzer$Graph;", true), ("PointerAnalyzer", "machine", "LPointerAnalyzer$Machine;", true), ("PointerAnalyzer", "fault", "I", false), ("PointerAnalyzer", "somethingKept", "Z", false)], [("PointerAnalyzerModel", "thrown", "I", false), ("PointerAnalyzerModel", "kinds", "[I", true), ("PointerAnalyzerModel", "ofV", "[I", true), ("PointerAnalyzerModel", "ofW", "[I", true), ("PointerAnalyzerModel", "ofN", "[I", true), ("PointerAnalyzerModel", "size", "[I", true), ("PointerAnalyzerModel", "limit", "I", false), ("PointerAnalyzerModel", "text", "[I", true), ("PointerAnalyzerModel", "length", "I", false), ("PointerAnalyzerModel", "at", "I", false), ("PointerAnalyzerModel", "faultAt", "I", false), ("PointerAnalyzerModel", "reading", "I", false), ("PointerAnalyzerModel", "readNew", "I", false), ("PointerAnalyzerModel", "readCalls", "I", false), ("PointerAnalyzerModel", "contextFunction", "[I", true), ("PointerAnalyzerModel", "contextCode", "[I", true), ("PointerAnalyzerModel", "contexts", "I", false), ("PointerAnalyzerModel", "points", "[J", true), ("PointerAnalyzerModel", "before", "[J", true), ("PointerAnalyzerModel", "isFresh", "Z", false), ("PointerAnalyzerModel", "isChanged", "Z", false), ("PointerAnalyzerModel", "rankOf", "[I", true), ("PointerAnalyzerModel", "reasonOf", "[I", true), ("PointerAnalyzerModel", "rounds", "I", false), ("PointerAnalyzerModel", "parent", "[I", true), ("PointerAnalyzerModel", "pointee", "[I", true), ("PointerAnalyzerModel", "pairA", "[I", true), ("PointerAnalyzerModel", "pairB", "[I", true), ("PointerAnalyzerModel", "terms", "I", false), ("PointerAnalyzerModel", "pairs", "I", false), ("PointerAnalyzerModel", "memory", "[I", true), ("PointerAnalyzerModel", "targetAt", "[I", true), ("PointerAnalyzerModel", "stackFunction", "[I", true), ("PointerAnalyzerModel", "stackNext", "[I", true), ("PointerAnalyzerModel", "stackBase", "[I", true), ("PointerAnalyzerModel", "seen", "[J", true), ("PointerAnalyzerModel", "deep", "I", false), ("PointerAnalyzerModel", "activations", "I", false), ("PointerAnalyzerModel", "objectCount", "I", false), ("PointerAnalyzerModel", "faultCount", "I", false), ("PointerAnalyzerModel", "executed", "I", false), ("PointerAnalyzerModel", "saved", "[I", true), ("PointerAnalyzerModel", "isSaved", "Z", false), ("PointerAnalyzerModel", "isSaving", "Z", false), ("PointerAnalyzerModel", "cursor", "I", false)]]
def tyT : List (List FieldType) := [[.array .int, .int, .int, .int], [.array .int, .array .int, .int, .int], [.array .int, .int, .int, .int], [.array .long], [.object "PointerAnalyzer$Contexts", .array .long, .array .long, .array .int, .array .int, .array .long, .array .int, .array .int, .boolean, .int, .int, .int, .int], [.array .int, .array .int, .array .long, .array .int, .array .int, .array .int, .int, .int, .int, .int, .int], [.array .int, .array .int, .int, .array .int, .array .int, .array .int, .array .int, .int], [.array .int, .array .int, .boolean], [.object "PointerAnalyzer$BodyText", .object "PointerAnalyzer$Draft", .object "PointerAnalyzer$Program", .object "PointerAnalyzer$Program", .object "PointerAnalyzer$Inclusion", .object "PointerAnalyzer$Inclusion", .object "PointerAnalyzer$Unification", .object "PointerAnalyzer$Graph", .object "PointerAnalyzer$Machine", .int, .boolean], [.int, .array .int, .array .int, .array .int, .array .int, .array .int, .int, .array .int, .int, .int, .int, .int, .int, .int, .array .int, .array .int, .int, .array .long, .array .long, .boolean, .boolean, .array .int, .array .int, .int, .array .int, .array .int, .array .int, .array .int, .int, .int, .array .int, .array .int, .array .int, .array .int, .array .int, .array .long, .int, .int, .int, .int, .int, .array .int, .boolean, .boolean, .int]]
def fT (ci : Nat) : u_T := fun k => (ffT.getD ci []).getD k ("", "", "", false)
def fTy (ci : Nat) : Nat → FieldType := fun k => (tyT.getD ci []).getD k .int
def nf (ci : Nat) : Nat := (fkT.getD ci []).length
def clA : List vw_C := (List.range 10).map (fun ci => (cN ci, fT ci, nf ci))
abbrev MRow : Type := MethodName × (ByteArray × (Option FieldType × (Nat × (Bool × (Nat × (Nat × (Nat × List (Nat × Nat × Nat × Nat))))))))
def mr_0 : MRow := (⟨"PointerAnalyzer$BodyText", "isFull", "()Z"⟩, prog_2_method_2_code, (some .boolean), 0, false, 1, 0, 0, [])
def mr_1 : MRow := (⟨"PointerAnalyzer$BodyText", "append", "(I)I"⟩, prog_2_method_3_code, (some .int), 0, false, 2, 22, 0, [])
def mr_2 : MRow := (⟨"PointerAnalyzer$BodyText", "empty", "()V"⟩, prog_2_method_4_code, none, 0, false, 1, 0, 0, [])
def mr_3 : MRow := (⟨"PointerAnalyzer$BodyText", "read", "(ILPointerAnalyzer$Draft;)I"⟩, prog_2_method_5_code, (some .int), 0, false, 6, 115, 0, [])
def mr_4 : MRow := (⟨"PointerAnalyzer$BodyText", "readStatement", "(LPointerAnalyzer$Draft;)Z"⟩, prog_2_method_6_code, (some .boolean), 0, false, 5, 93, 0, [])
def mr_5 : MRow := (⟨"PointerAnalyzer$BodyText", "readStore", "(LPointerAnalyzer$Draft;)Z"⟩, prog_2_method_7_code, (some .boolean), 0, false, 4, 71, 0, [])
def mr_6 : MRow := (⟨"PointerAnalyzer$BodyText", "readOperand", "(LPointerAnalyzer$Draft;II)Z"⟩, prog_2_method_8_code, (some .boolean), 0, false, 3, 47, 0, [])
def mr_7 : MRow := (⟨"PointerAnalyzer$BodyText", "readCall", "(LPointerAnalyzer$Draft;I)Z"⟩, prog_2_method_9_code, (some .boolean), 0, false, 3, 47, 0, [])
def mr_8 : MRow := (⟨"PointerAnalyzer$BodyText", "readCopyOrOffset", "(LPointerAnalyzer$Draft;I)Z"⟩, prog_2_method_10_code, (some .boolean), 0, false, 3, 47, 0, [])
def mr_9 : MRow := (⟨"PointerAnalyzer$BodyText", "accept", "(C)Z"⟩, prog_2_method_11_code, (some .boolean), 0, false, 2, 20, 0, [])
def mr_10 : MRow := (⟨"PointerAnalyzer$BodyText", "readDigit", "(I)I"⟩, prog_2_method_12_code, (some .int), 0, false, 2, 20, 0, [])
def mr_11 : MRow := (⟨"PointerAnalyzer$BodyText", "readVariable", "()I"⟩, prog_2_method_13_code, (some .int), 0, false, 2, 21, 0, [])
def mr_12 : MRow := (⟨"PointerAnalyzer$BodyText", "variableNamed", "(I)I"⟩, prog_2_method_14_code, (some .int), 0, false, 1, 0, 0, [])
def mr_13 : MRow := (⟨"PointerAnalyzer$BodyText", "current", "()I"⟩, prog_2_method_15_code, (some .int), 0, false, 1, 0, 0, [])
def mr_14 : MRow := (⟨"PointerAnalyzer$Contexts", "arrange", "(LPointerAnalyzer$Program;I)V"⟩, prog_3_method_2_code, none, 1, false, 5, 88, 0, [])
def mr_15 : MRow := (⟨"PointerAnalyzer$Contexts", "followCalls", "(LPointerAnalyzer$Program;I)V"⟩, prog_3_method_3_code, none, 1, false, 4, 64, 0, [])
def mr_16 : MRow := (⟨"PointerAnalyzer$Contexts", "extended", "(II)I"⟩, prog_3_method_4_code, (some .int), 1, false, 2, 20, 0, [])
def mr_17 : MRow := (⟨"PointerAnalyzer$Contexts", "lastCall", "(I)I"⟩, prog_3_method_5_code, (some .int), 1, true, 1, 0, 0, [])
def mr_18 : MRow := (⟨"PointerAnalyzer$Contexts", "enter", "(I)V"⟩, prog_3_method_6_code, none, 1, false, 3, 43, 0, [])
def mr_19 : MRow := (⟨"PointerAnalyzer$Contexts", "find", "(I)I"⟩, prog_3_method_7_code, (some .int), 1, false, 2, 21, 0, [])
def mr_20 : MRow := (⟨"PointerAnalyzer$Contexts", "sort", "()V"⟩, prog_3_method_8_code, none, 1, false, 2, 22, 0, [])
def mr_21 : MRow := (⟨"PointerAnalyzer$Contexts", "countBelow", "(I)I"⟩, prog_3_method_9_code, (some .int), 1, false, 2, 21, 0, [])
def mr_22 : MRow := (⟨"PointerAnalyzer$Contexts", "size", "()I"⟩, prog_3_method_10_code, (some .int), 1, false, 1, 0, 0, [])
def mr_23 : MRow := (⟨"PointerAnalyzer$Contexts", "sizeOf", "(I)I"⟩, prog_3_method_11_code, (some .int), 1, false, 2, 21, 0, [])
def mr_24 : MRow := (⟨"PointerAnalyzer$Contexts", "placeOf", "(II)I"⟩, prog_3_method_12_code, (some .int), 1, false, 2, 21, 0, [])
def mr_25 : MRow := (⟨"PointerAnalyzer$Contexts", "ownerAt", "(I)I"⟩, prog_3_method_13_code, (some .int), 1, false, 2, 21, 0, [])
def mr_26 : MRow := (⟨"PointerAnalyzer$Contexts", "keyAt", "(I)I"⟩, prog_3_method_14_code, (some .int), 1, false, 2, 21, 0, [])
def mr_27 : MRow := (⟨"PointerAnalyzer$Contexts", "lengthOf", "(II)I"⟩, prog_3_method_15_code, (some .int), 1, false, 3, 43, 0, [])
def mr_28 : MRow := (⟨"PointerAnalyzer$Contexts", "callOf", "(III)I"⟩, prog_3_method_16_code, (some .int), 1, false, 3, 43, 0, [])
def mr_29 : MRow := (⟨"PointerAnalyzer$Contexts", "placeAfter", "(III)I"⟩, prog_3_method_17_code, (some .int), 1, false, 3, 43, 0, [])
def mr_30 : MRow := (⟨"PointerAnalyzer$Draft", "empty", "()V"⟩, prog_4_method_2_code, none, 2, false, 1, 0, 0, [])
def mr_31 : MRow := (⟨"PointerAnalyzer$Draft", "add", "(IIII)Z"⟩, prog_4_method_3_code, (some .boolean), 2, false, 2, 23, 0, [])
def mr_32 : MRow := (⟨"PointerAnalyzer$Draft", "size", "()I"⟩, prog_4_method_4_code, (some .int), 2, false, 1, 0, 0, [])
def mr_33 : MRow := (⟨"PointerAnalyzer$Draft", "allocations", "()I"⟩, prog_4_method_5_code, (some .int), 2, false, 1, 0, 0, [])
def mr_34 : MRow := (⟨"PointerAnalyzer$Draft", "calls", "()I"⟩, prog_4_method_6_code, (some .int), 2, false, 1, 0, 0, [])
def mr_35 : MRow := (⟨"PointerAnalyzer$Draft", "get", "(I)I"⟩, prog_4_method_7_code, (some .int), 2, false, 2, 21, 0, [])
def mr_36 : MRow := (⟨"PointerAnalyzer$Graph", "clear", "()V"⟩, prog_5_method_2_code, none, 3, false, 2, 23, 0, [])
def mr_37 : MRow := (⟨"PointerAnalyzer$Graph", "connect", "(II)V"⟩, prog_5_method_3_code, none, 3, false, 3, 46, 0, [])
def mr_38 : MRow := (⟨"PointerAnalyzer$Graph", "connectAll", "(IJ)V"⟩, prog_5_method_4_code, none, 3, false, 2, 23, 0, [])
def mr_39 : MRow := (⟨"PointerAnalyzer$Graph", "close", "()V"⟩, prog_5_method_5_code, none, 3, false, 3, 46, 0, [])
def mr_40 : MRow := (⟨"PointerAnalyzer$Graph", "row", "(I)J"⟩, prog_5_method_6_code, (some .long), 3, false, 2, 21, 0, [])
def mr_41 : MRow := (⟨"PointerAnalyzer$Inclusion", "forget", "()V"⟩, prog_6_method_2_code, none, 4, false, 1, 0, 0, [])
def mr_42 : MRow := (⟨"PointerAnalyzer$Inclusion", "solve", "(LPointerAnalyzer$Program;I)V"⟩, prog_6_method_3_code, none, 4, false, 6, 126, 0, [])
def mr_43 : MRow := (⟨"PointerAnalyzer$Inclusion", "clear", "()V"⟩, prog_6_method_4_code, none, 4, false, 4, 64, 0, [])
def mr_44 : MRow := (⟨"PointerAnalyzer$Inclusion", "codeOf", "(I)I"⟩, prog_6_method_5_code, (some .int), 4, false, 3, 42, 0, [])
def mr_45 : MRow := (⟨"PointerAnalyzer$Inclusion", "apply", "(LPointerAnalyzer$Program;I)V"⟩, prog_6_method_6_code, none, 4, false, 5, 100, 0, [])
def mr_46 : MRow := (⟨"PointerAnalyzer$Inclusion", "cell", "(II)I"⟩, prog_6_method_7_code, (some .int), 4, true, 1, 0, 0, [])
def mr_47 : MRow := (⟨"PointerAnalyzer$Inclusion", "addLoaded", "(II)V"⟩, prog_6_method_8_code, none, 4, false, 4, 75, 0, [])
def mr_48 : MRow := (⟨"PointerAnalyzer$Inclusion", "addStored", "(II)V"⟩, prog_6_method_9_code, none, 4, false, 4, 75, 0, [])
def mr_49 : MRow := (⟨"PointerAnalyzer$Inclusion", "listPointees", "(I)I"⟩, prog_6_method_10_code, (some .int), 4, false, 3, 43, 0, [])
def mr_50 : MRow := (⟨"PointerAnalyzer$Inclusion", "addShifted", "(III)V"⟩, prog_6_method_11_code, none, 4, false, 4, 75, 0, [])
def mr_51 : MRow := (⟨"PointerAnalyzer$Inclusion", "add", "(II)V"⟩, prog_6_method_12_code, none, 4, false, 3, 52, 0, [])
def mr_52 : MRow := (⟨"PointerAnalyzer$Inclusion", "addAll", "(II)V"⟩, prog_6_method_13_code, none, 4, false, 3, 52, 0, [])
def mr_53 : MRow := (⟨"PointerAnalyzer$Inclusion", "addWord", "(IIJ)V"⟩, prog_6_method_14_code, none, 4, false, 2, 23, 0, [])
def mr_54 : MRow := (⟨"PointerAnalyzer$Inclusion", "word", "(II)J"⟩, prog_6_method_15_code, (some .long), 4, false, 2, 21, 0, [])
def mr_55 : MRow := (⟨"PointerAnalyzer$Inclusion", "contexts", "()LPointerAnalyzer$Contexts;"⟩, prog_6_method_16_code, (some (.object "PointerAnalyzer$Contexts")), 4, false, 1, 0, 0, [])
def mr_56 : MRow := (⟨"PointerAnalyzer$Inclusion", "facts", "()I"⟩, prog_6_method_17_code, (some .int), 4, false, 1, 0, 0, [])
def mr_57 : MRow := (⟨"PointerAnalyzer$Inclusion", "rounds", "()I"⟩, prog_6_method_18_code, (some .int), 4, false, 1, 0, 0, [])
def mr_58 : MRow := (⟨"PointerAnalyzer$Inclusion", "targetsOf", "(I)J"⟩, prog_6_method_19_code, (some .long), 4, false, 2, 21, 0, [])
def mr_59 : MRow := (⟨"PointerAnalyzer$Inclusion", "targetsIn", "(II)J"⟩, prog_6_method_20_code, (some .long), 4, false, 4, 69, 0, [])
def mr_60 : MRow := (⟨"PointerAnalyzer$Inclusion", "roundOf", "(II)I"⟩, prog_6_method_21_code, (some .int), 4, false, 2, 21, 0, [])
def mr_61 : MRow := (⟨"PointerAnalyzer$Inclusion", "originOf", "(II)I"⟩, prog_6_method_22_code, (some .int), 4, false, 2, 21, 0, [])
def mr_62 : MRow := (⟨"PointerAnalyzer$Machine", "clear", "()V"⟩, prog_7_method_2_code, none, 5, false, 2, 23, 0, [])
def mr_63 : MRow := (⟨"PointerAnalyzer$Machine", "play", "(LPointerAnalyzer$Program;)V"⟩, prog_7_method_3_code, none, 5, false, 6, 115, 0, [])
def mr_64 : MRow := (⟨"PointerAnalyzer$Machine", "takeCells", "(II)I"⟩, prog_7_method_4_code, (some .int), 5, false, 2, 22, 0, [])
def mr_65 : MRow := (⟨"PointerAnalyzer$Machine", "open", "(LPointerAnalyzer$Program;I)V"⟩, prog_7_method_5_code, none, 5, false, 3, 46, 0, [])
def mr_66 : MRow := (⟨"PointerAnalyzer$Machine", "close", "(LPointerAnalyzer$Program;)V"⟩, prog_7_method_6_code, none, 5, false, 3, 45, 0, [])
def mr_67 : MRow := (⟨"PointerAnalyzer$Machine", "execute", "(LPointerAnalyzer$Program;I)V"⟩, prog_7_method_7_code, none, 5, false, 5, 91, 0, [])
def mr_68 : MRow := (⟨"PointerAnalyzer$Machine", "load", "(II)V"⟩, prog_7_method_8_code, none, 5, false, 3, 45, 0, [])
def mr_69 : MRow := (⟨"PointerAnalyzer$Machine", "store", "(II)V"⟩, prog_7_method_9_code, none, 5, false, 3, 45, 0, [])
def mr_70 : MRow := (⟨"PointerAnalyzer$Machine", "shift", "(III)V"⟩, prog_7_method_10_code, none, 5, false, 3, 45, 0, [])
def mr_71 : MRow := (⟨"PointerAnalyzer$Machine", "call", "(LPointerAnalyzer$Program;II)V"⟩, prog_7_method_11_code, none, 5, false, 4, 68, 0, [])
def mr_72 : MRow := (⟨"PointerAnalyzer$Machine", "addressOf", "(I)I"⟩, prog_7_method_12_code, (some .int), 5, false, 2, 21, 0, [])
def mr_73 : MRow := (⟨"PointerAnalyzer$Machine", "read", "(I)I"⟩, prog_7_method_13_code, (some .int), 5, false, 2, 21, 0, [])
def mr_74 : MRow := (⟨"PointerAnalyzer$Machine", "write", "(II)V"⟩, prog_7_method_14_code, none, 5, false, 2, 23, 0, [])
def mr_75 : MRow := (⟨"PointerAnalyzer$Machine", "executed", "()I"⟩, prog_7_method_15_code, (some .int), 5, false, 1, 0, 0, [])
def mr_76 : MRow := (⟨"PointerAnalyzer$Machine", "failed", "()I"⟩, prog_7_method_16_code, (some .int), 5, false, 1, 0, 0, [])
def mr_77 : MRow := (⟨"PointerAnalyzer$Machine", "made", "()I"⟩, prog_7_method_17_code, (some .int), 5, false, 1, 0, 0, [])
def mr_78 : MRow := (⟨"PointerAnalyzer$Machine", "seenAt", "(I)J"⟩, prog_7_method_18_code, (some .long), 5, false, 2, 21, 0, [])
def mr_79 : MRow := (⟨"PointerAnalyzer$Program", "limit", "()I"⟩, prog_8_method_2_code, (some .int), 6, false, 1, 0, 0, [])
def mr_80 : MRow := (⟨"PointerAnalyzer$Program", "limitTo", "(I)V"⟩, prog_8_method_3_code, none, 6, false, 1, 0, 0, [])
def mr_81 : MRow := (⟨"PointerAnalyzer$Program", "hasRoomFor", "(ILPointerAnalyzer$Draft;)Z"⟩, prog_8_method_4_code, (some .boolean), 6, false, 5, 86, 0, [])
def mr_82 : MRow := (⟨"PointerAnalyzer$Program", "countElsewhere", "(II)I"⟩, prog_8_method_5_code, (some .int), 6, false, 4, 62, 0, [])
def mr_83 : MRow := (⟨"PointerAnalyzer$Program", "replaceBody", "(ILPointerAnalyzer$Draft;)V"⟩, prog_8_method_6_code, none, 6, false, 3, 47, 0, [])
def mr_84 : MRow := (⟨"PointerAnalyzer$Program", "copyFrom", "(LPointerAnalyzer$Program;)V"⟩, prog_8_method_7_code, none, 6, false, 3, 47, 0, [])
def mr_85 : MRow := (⟨"PointerAnalyzer$Program", "number", "()V"⟩, prog_8_method_8_code, none, 6, false, 2, 22, 0, [])
def mr_86 : MRow := (⟨"PointerAnalyzer$Program", "size", "()I"⟩, prog_8_method_9_code, (some .int), 6, false, 3, 42, 0, [])
def mr_87 : MRow := (⟨"PointerAnalyzer$Program", "sites", "()I"⟩, prog_8_method_10_code, (some .int), 6, false, 1, 0, 0, [])
def mr_88 : MRow := (⟨"PointerAnalyzer$Program", "startOf", "(I)I"⟩, prog_8_method_11_code, (some .int), 6, false, 2, 21, 0, [])
def mr_89 : MRow := (⟨"PointerAnalyzer$Program", "endOf", "(I)I"⟩, prog_8_method_12_code, (some .int), 6, false, 2, 21, 0, [])
def mr_90 : MRow := (⟨"PointerAnalyzer$Program", "kindAt", "(I)I"⟩, prog_8_method_13_code, (some .int), 6, false, 2, 21, 0, [])
def mr_91 : MRow := (⟨"PointerAnalyzer$Program", "leftAt", "(I)I"⟩, prog_8_method_14_code, (some .int), 6, false, 2, 21, 0, [])
def mr_92 : MRow := (⟨"PointerAnalyzer$Program", "rightAt", "(I)I"⟩, prog_8_method_15_code, (some .int), 6, false, 2, 21, 0, [])
def mr_93 : MRow := (⟨"PointerAnalyzer$Program", "numberAt", "(I)I"⟩, prog_8_method_16_code, (some .int), 6, false, 2, 21, 0, [])
def mr_94 : MRow := (⟨"PointerAnalyzer$Program", "ownerAt", "(I)I"⟩, prog_8_method_17_code, (some .int), 6, false, 2, 21, 0, [])
def mr_95 : MRow := (⟨"PointerAnalyzer$Program", "siteAt", "(I)I"⟩, prog_8_method_18_code, (some .int), 6, false, 2, 21, 0, [])
def mr_96 : MRow := (⟨"PointerAnalyzer$Rows", "get", "([II)I"⟩, prog_9_method_2_code, (some .int), 10, true, 1, 0, 0, [])
def mr_97 : MRow := (⟨"PointerAnalyzer$Rows", "get", "([JI)J"⟩, prog_9_method_3_code, (some .long), 10, true, 1, 0, 0, [])
def mr_98 : MRow := (⟨"PointerAnalyzer$Rows", "put", "([III)V"⟩, prog_9_method_4_code, none, 10, true, 1, 0, 0, [])
def mr_99 : MRow := (⟨"PointerAnalyzer$Rows", "unite", "([JIJ)V"⟩, prog_9_method_5_code, none, 10, true, 1, 0, 0, [])
def mr_100 : MRow := (⟨"PointerAnalyzer$Rows", "fill", "([JJ)V"⟩, prog_9_method_6_code, none, 10, true, 1, 0, 0, [])
def mr_101 : MRow := (⟨"PointerAnalyzer$Rows", "copy", "([I[I)V"⟩, prog_9_method_7_code, none, 10, true, 1, 0, 0, [])
def mr_102 : MRow := (⟨"PointerAnalyzer$Rows", "copy", "([J[J)V"⟩, prog_9_method_8_code, none, 10, true, 1, 0, 0, [])
def mr_103 : MRow := (⟨"PointerAnalyzer$Statement", "pack", "(IIII)I"⟩, prog_10_method_2_code, (some .int), 11, true, 1, 0, 0, [])
def mr_104 : MRow := (⟨"PointerAnalyzer$Statement", "kindIn", "(I)I"⟩, prog_10_method_3_code, (some .int), 11, true, 1, 0, 0, [])
def mr_105 : MRow := (⟨"PointerAnalyzer$Statement", "leftIn", "(I)I"⟩, prog_10_method_4_code, (some .int), 11, true, 1, 0, 0, [])
def mr_106 : MRow := (⟨"PointerAnalyzer$Statement", "rightIn", "(I)I"⟩, prog_10_method_5_code, (some .int), 11, true, 1, 0, 0, [])
def mr_107 : MRow := (⟨"PointerAnalyzer$Statement", "numberIn", "(I)I"⟩, prog_10_method_6_code, (some .int), 11, true, 1, 0, 0, [])
def mr_108 : MRow := (⟨"PointerAnalyzer$Unification", "forget", "()V"⟩, prog_11_method_2_code, none, 7, false, 1, 0, 0, [])
def mr_109 : MRow := (⟨"PointerAnalyzer$Unification", "solve", "(LPointerAnalyzer$Program;)V"⟩, prog_11_method_3_code, none, 7, false, 5, 96, 0, [])
def mr_110 : MRow := (⟨"PointerAnalyzer$Unification", "separate", "()V"⟩, prog_11_method_4_code, none, 7, false, 2, 22, 0, [])
def mr_111 : MRow := (⟨"PointerAnalyzer$Unification", "pointee", "(I)I"⟩, prog_11_method_5_code, (some .int), 7, true, 1, 0, 0, [])
def mr_112 : MRow := (⟨"PointerAnalyzer$Unification", "secondPointee", "(I)I"⟩, prog_11_method_6_code, (some .int), 7, true, 1, 0, 0, [])
def mr_113 : MRow := (⟨"PointerAnalyzer$Unification", "siteTerm", "(I)I"⟩, prog_11_method_7_code, (some .int), 7, true, 1, 0, 0, [])
def mr_114 : MRow := (⟨"PointerAnalyzer$Unification", "apply", "(LPointerAnalyzer$Program;I)V"⟩, prog_11_method_8_code, none, 7, false, 4, 71, 0, [])
def mr_115 : MRow := (⟨"PointerAnalyzer$Unification", "join", "(II)V"⟩, prog_11_method_9_code, none, 7, false, 3, 44, 0, [])
def mr_116 : MRow := (⟨"PointerAnalyzer$Unification", "root", "(I)I"⟩, prog_11_method_10_code, (some .int), 7, false, 2, 21, 0, [])
def mr_117 : MRow := (⟨"PointerAnalyzer$Unification", "joins", "(II)Z"⟩, prog_11_method_11_code, (some .boolean), 7, false, 3, 44, 0, [])
def mr_118 : MRow := (⟨"PointerAnalyzer$Unification", "targetsOf", "(II)J"⟩, prog_11_method_12_code, (some .long), 7, false, 3, 44, 0, [])
def mr_119 : MRow := (⟨"PointerAnalyzer$Unification", "classes", "(I)I"⟩, prog_11_method_13_code, (some .int), 7, false, 5, 88, 0, [])
def mr_120 : MRow := (⟨"PointerAnalyzer$Unification", "isFirstOfClass", "(I)Z"⟩, prog_11_method_14_code, (some .boolean), 7, false, 4, 66, 0, [])
def mr_121 : MRow := (⟨"PointerAnalyzer", "appendCharacter", "(I)I"⟩, prog_1_method_2_code, (some .int), 8, false, 7, 90, 2, [])
def mr_122 : MRow := (⟨"PointerAnalyzer", "setBody", "(I)I"⟩, prog_1_method_3_code, (some .int), 8, false, 8, 138, 3, [])
def mr_123 : MRow := (⟨"PointerAnalyzer", "faultPosition", "()I"⟩, prog_1_method_4_code, (some .int), 8, false, 1, 0, 0, [])
def mr_124 : MRow := (⟨"PointerAnalyzer", "statementCount", "()I"⟩, prog_1_method_5_code, (some .int), 8, false, 4, 62, 0, [])
def mr_125 : MRow := (⟨"PointerAnalyzer", "kind", "(I)I"⟩, prog_1_method_6_code, (some .int), 8, false, 8, 111, 1, [])
def mr_126 : MRow := (⟨"PointerAnalyzer", "functionOf", "(I)I"⟩, prog_1_method_7_code, (some .int), 8, false, 8, 111, 1, [])
def mr_127 : MRow := (⟨"PointerAnalyzer", "siteCount", "()I"⟩, prog_1_method_8_code, (some .int), 8, false, 2, 20, 0, [])
def mr_128 : MRow := (⟨"PointerAnalyzer", "setLimit", "(I)I"⟩, prog_1_method_9_code, (some .int), 8, false, 7, 90, 1, [])
def mr_129 : MRow := (⟨"PointerAnalyzer", "contextCount", "(I)I"⟩, prog_1_method_10_code, (some .int), 8, false, 8, 153, 1, [])
def mr_130 : MRow := (⟨"PointerAnalyzer", "contextLength", "(II)I"⟩, prog_1_method_11_code, (some .int), 8, false, 9, 153, 2, [])
def mr_131 : MRow := (⟨"PointerAnalyzer", "contextCall", "(III)I"⟩, prog_1_method_12_code, (some .int), 8, false, 9, 153, 3, [])
def mr_132 : MRow := (⟨"PointerAnalyzer", "pointsTo", "(I)J"⟩, prog_1_method_13_code, (some .long), 8, false, 8, 153, 1, [])
def mr_133 : MRow := (⟨"PointerAnalyzer", "pointsToIn", "(II)J"⟩, prog_1_method_14_code, (some .long), 8, false, 9, 153, 4, [])
def mr_134 : MRow := (⟨"PointerAnalyzer", "fieldPointsTo", "(II)J"⟩, prog_1_method_15_code, (some .long), 8, false, 8, 153, 1, [])
def mr_135 : MRow := (⟨"PointerAnalyzer", "factCount", "()I"⟩, prog_1_method_16_code, (some .int), 8, false, 7, 153, 0, [])
def mr_136 : MRow := (⟨"PointerAnalyzer", "mayAlias", "(II)Z"⟩, prog_1_method_17_code, (some .boolean), 8, false, 8, 153, 2, [])
def mr_137 : MRow := (⟨"PointerAnalyzer", "reach", "(I)J"⟩, prog_1_method_18_code, (some .long), 8, false, 8, 153, 1, [])
def mr_138 : MRow := (⟨"PointerAnalyzer", "escapingSites", "()I"⟩, prog_1_method_19_code, (some .int), 8, false, 7, 153, 0, [])
def mr_139 : MRow := (⟨"PointerAnalyzer", "rank", "(II)I"⟩, prog_1_method_20_code, (some .int), 8, false, 9, 153, 3, [])
def mr_140 : MRow := (⟨"PointerAnalyzer", "reason", "(II)I"⟩, prog_1_method_21_code, (some .int), 8, false, 9, 153, 3, [])
def mr_141 : MRow := (⟨"PointerAnalyzer", "roundCount", "()I"⟩, prog_1_method_22_code, (some .int), 8, false, 7, 153, 0, [])
def mr_142 : MRow := (⟨"PointerAnalyzer", "unifiedTargets", "(I)J"⟩, prog_1_method_23_code, (some .long), 8, false, 8, 118, 1, [])
def mr_143 : MRow := (⟨"PointerAnalyzer", "areUnified", "(II)Z"⟩, prog_1_method_24_code, (some .boolean), 8, false, 8, 118, 2, [])
def mr_144 : MRow := (⟨"PointerAnalyzer", "unifiedClasses", "()I"⟩, prog_1_method_25_code, (some .int), 8, false, 6, 118, 0, [])
def mr_145 : MRow := (⟨"PointerAnalyzer", "modifies", "(I)J"⟩, prog_1_method_26_code, (some .long), 8, false, 8, 153, 1, [])
def mr_146 : MRow := (⟨"PointerAnalyzer", "isReachable", "(I)Z"⟩, prog_1_method_27_code, (some .boolean), 8, false, 8, 153, 1, [])
def mr_147 : MRow := (⟨"PointerAnalyzer", "isRecursive", "(I)Z"⟩, prog_1_method_28_code, (some .boolean), 8, false, 8, 111, 1, [])
def mr_148 : MRow := (⟨"PointerAnalyzer", "cycleOf", "(I)I"⟩, prog_1_method_29_code, (some .int), 8, false, 8, 111, 1, [])
def mr_149 : MRow := (⟨"PointerAnalyzer", "run", "()I"⟩, prog_1_method_30_code, (some .int), 8, false, 7, 139, 0, [])
def mr_150 : MRow := (⟨"PointerAnalyzer", "observed", "(I)J"⟩, prog_1_method_31_code, (some .long), 8, false, 8, 111, 1, [])
def mr_151 : MRow := (⟨"PointerAnalyzer", "fieldObserved", "(II)J"⟩, prog_1_method_32_code, (some .long), 8, false, 8, 112, 1, [])
def mr_152 : MRow := (⟨"PointerAnalyzer", "faults", "()I"⟩, prog_1_method_33_code, (some .int), 8, false, 2, 20, 0, [])
def mr_153 : MRow := (⟨"PointerAnalyzer", "objects", "()I"⟩, prog_1_method_34_code, (some .int), 8, false, 2, 20, 0, [])
def mr_154 : MRow := (⟨"PointerAnalyzer", "precision", "()D"⟩, prog_1_method_35_code, (some .double), 8, false, 7, 153, 1, [])
def mr_155 : MRow := (⟨"PointerAnalyzer", "averageTargets", "()F"⟩, prog_1_method_36_code, (some .float), 8, false, 7, 153, 1, [])
def mr_156 : MRow := (⟨"PointerAnalyzer", "save", "()V"⟩, prog_1_method_37_code, none, 8, false, 4, 68, 0, [])
def mr_157 : MRow := (⟨"PointerAnalyzer", "restore", "()V"⟩, prog_1_method_38_code, none, 8, false, 7, 90, 1, [])
def mr_158 : MRow := (⟨"PointerAnalyzer", "forgetAnswers", "()V"⟩, prog_1_method_39_code, none, 8, false, 3, 43, 0, [])
def mr_159 : MRow := (⟨"PointerAnalyzer", "drawPointers", "()V"⟩, prog_1_method_40_code, none, 8, false, 4, 68, 0, [])
def mr_160 : MRow := (⟨"PointerAnalyzer", "drawCalls", "()V"⟩, prog_1_method_41_code, none, 8, false, 4, 68, 0, [])
def mr_161 : MRow := (⟨"PointerAnalyzer", "drawFlow", "()V"⟩, prog_1_method_42_code, none, 8, false, 4, 68, 0, [])
def mr_162 : MRow := (⟨"PointerAnalyzer", "checkFunction", "(I)V"⟩, prog_1_method_43_code, none, 8, false, 7, 90, 1, [])
def mr_163 : MRow := (⟨"PointerAnalyzer", "checkContext", "(II)V"⟩, prog_1_method_44_code, none, 8, false, 8, 111, 2, [])
def mr_164 : MRow := (⟨"PointerAnalyzer", "checkStatement", "(I)V"⟩, prog_1_method_45_code, none, 8, false, 7, 90, 1, [])
def mr_165 : MRow := (⟨"PointerAnalyzer", "checkVariable", "(I)V"⟩, prog_1_method_46_code, none, 8, false, 7, 90, 1, [])
def mr_166 : MRow := (⟨"PointerAnalyzer", "checkField", "(II)V"⟩, prog_1_method_47_code, none, 8, false, 7, 90, 1, [])
def mr_167 : MRow := (⟨"PointerAnalyzer", "checkPlainFact", "(II)V"⟩, prog_1_method_48_code, none, 8, false, 8, 111, 3, [])
def mr_168 : MRow := (⟨"PointerAnalyzer", "parameterOf", "(I)I"⟩, prog_1_method_49_code, (some .int), 8, true, 1, 0, 0, [])
def mr_169 : MRow := (⟨"PointerAnalyzer", "resultOf", "(I)I"⟩, prog_1_method_50_code, (some .int), 8, true, 2, 20, 0, [])
def mr_170 : MRow := (⟨"PointerAnalyzer", "ownerOfLocal", "(I)I"⟩, prog_1_method_51_code, (some .int), 8, true, 1, 0, 0, [])
def mr_171 : MRow := (⟨"PointerAnalyzer", "fieldCode", "(II)I"⟩, prog_1_method_52_code, (some .int), 8, true, 1, 0, 0, [])
def mr_172 : MRow := (⟨"PointerAnalyzer", "allFields", "(I)J"⟩, prog_1_method_53_code, (some .long), 8, true, 2, 21, 0, [])
def mr_173 : MRow := (⟨"PointerAnalyzer", "has", "(JI)Z"⟩, prog_1_method_54_code, (some .boolean), 8, true, 1, 0, 0, [])
def mr_174 : MRow := (⟨"PointerAnalyzerModel", "thrown", "()I"⟩, prog_13_method_2_code, (some .int), 9, false, 1, 0, 0, [])
def mr_175 : MRow := (⟨"PointerAnalyzerModel", "fails", "(I)I"⟩, prog_13_method_3_code, (some .int), 9, false, 1, 0, 0, [])
def mr_176 : MRow := (⟨"PointerAnalyzerModel", "refuses", "(I)Z"⟩, prog_13_method_4_code, (some .boolean), 9, false, 1, 0, 0, [])
def mr_177 : MRow := (⟨"PointerAnalyzerModel", "isBetween", "(III)Z"⟩, prog_13_method_5_code, (some .boolean), 9, true, 1, 0, 0, [])
def mr_178 : MRow := (⟨"PointerAnalyzerModel", "bits", "(J)I"⟩, prog_13_method_6_code, (some .int), 9, true, 1, 0, 0, [])
def mr_179 : MRow := (⟨"PointerAnalyzerModel", "isFunction", "(I)Z"⟩, prog_13_method_7_code, (some .boolean), 9, true, 1, 0, 0, [])
def mr_180 : MRow := (⟨"PointerAnalyzerModel", "isVariable", "(I)Z"⟩, prog_13_method_8_code, (some .boolean), 9, true, 1, 0, 0, [])
def mr_181 : MRow := (⟨"PointerAnalyzerModel", "statements", "()I"⟩, prog_13_method_9_code, (some .int), 9, false, 1, 0, 0, [])
def mr_182 : MRow := (⟨"PointerAnalyzerModel", "placeOf", "(I)I"⟩, prog_13_method_10_code, (some .int), 9, false, 1, 0, 0, [])
def mr_183 : MRow := (⟨"PointerAnalyzerModel", "numberOf", "(I)I"⟩, prog_13_method_11_code, (some .int), 9, false, 1, 0, 0, [])
def mr_184 : MRow := (⟨"PointerAnalyzerModel", "many", "(II)I"⟩, prog_13_method_12_code, (some .int), 9, false, 1, 0, 0, [])
def mr_185 : MRow := (⟨"PointerAnalyzerModel", "siteOf", "(I)I"⟩, prog_13_method_13_code, (some .int), 9, false, 2, 23, 0, [])
def mr_186 : MRow := (⟨"PointerAnalyzerModel", "appendCharacter", "(I)I"⟩, prog_13_method_14_code, (some .int), 9, false, 2, 22, 0, [])
def mr_187 : MRow := (⟨"PointerAnalyzerModel", "next", "()I"⟩, prog_13_method_15_code, (some .int), 9, false, 1, 0, 0, [])
def mr_188 : MRow := (⟨"PointerAnalyzerModel", "skips", "(I)Z"⟩, prog_13_method_16_code, (some .boolean), 9, false, 2, 20, 0, [])
def mr_189 : MRow := (⟨"PointerAnalyzerModel", "name", "(I)I"⟩, prog_13_method_17_code, (some .int), 9, false, 2, 22, 0, [])
def mr_190 : MRow := (⟨"PointerAnalyzerModel", "digit", "(I)I"⟩, prog_13_method_18_code, (some .int), 9, false, 2, 22, 0, [])
def mr_191 : MRow := (⟨"PointerAnalyzerModel", "puts", "(IIII)V"⟩, prog_13_method_19_code, none, 9, false, 1, 0, 0, [])
def mr_192 : MRow := (⟨"PointerAnalyzerModel", "takesStore", "(I)Z"⟩, prog_13_method_20_code, (some .boolean), 9, false, 3, 45, 0, [])
def mr_193 : MRow := (⟨"PointerAnalyzerModel", "takesCall", "(II)Z"⟩, prog_13_method_21_code, (some .boolean), 9, false, 3, 45, 0, [])
def mr_194 : MRow := (⟨"PointerAnalyzerModel", "takesStatement", "(I)Z"⟩, prog_13_method_22_code, (some .boolean), 9, false, 4, 69, 0, [])
def mr_195 : MRow := (⟨"PointerAnalyzerModel", "takesText", "(I)Z"⟩, prog_13_method_23_code, (some .boolean), 9, false, 5, 94, 0, [])
def mr_196 : MRow := (⟨"PointerAnalyzerModel", "copies", "(II)V"⟩, prog_13_method_24_code, none, 9, false, 1, 0, 0, [])
def mr_197 : MRow := (⟨"PointerAnalyzerModel", "setBody", "(I)I"⟩, prog_13_method_25_code, (some .int), 9, false, 6, 116, 0, [])
def mr_198 : MRow := (⟨"PointerAnalyzerModel", "faultPosition", "()I"⟩, prog_13_method_26_code, (some .int), 9, false, 1, 0, 0, [])
def mr_199 : MRow := (⟨"PointerAnalyzerModel", "statementCount", "()I"⟩, prog_13_method_27_code, (some .int), 9, false, 2, 20, 0, [])
def mr_200 : MRow := (⟨"PointerAnalyzerModel", "isStatement", "(I)Z"⟩, prog_13_method_28_code, (some .boolean), 9, false, 2, 20, 0, [])
def mr_201 : MRow := (⟨"PointerAnalyzerModel", "kind", "(I)I"⟩, prog_13_method_29_code, (some .int), 9, false, 3, 41, 0, [])
def mr_202 : MRow := (⟨"PointerAnalyzerModel", "functionOf", "(I)I"⟩, prog_13_method_30_code, (some .int), 9, false, 3, 41, 0, [])
def mr_203 : MRow := (⟨"PointerAnalyzerModel", "sites", "()I"⟩, prog_13_method_31_code, (some .int), 9, false, 2, 25, 0, [])
def mr_204 : MRow := (⟨"PointerAnalyzerModel", "siteCount", "()I"⟩, prog_13_method_32_code, (some .int), 9, false, 3, 45, 0, [])
def mr_205 : MRow := (⟨"PointerAnalyzerModel", "setLimit", "(I)I"⟩, prog_13_method_33_code, (some .int), 9, false, 2, 22, 0, [])
def mr_206 : MRow := (⟨"PointerAnalyzerModel", "contextOf", "(II)I"⟩, prog_13_method_34_code, (some .int), 9, false, 1, 0, 0, [])
def mr_207 : MRow := (⟨"PointerAnalyzerModel", "codeBehind", "(III)I"⟩, prog_13_method_35_code, (some .int), 9, true, 1, 0, 0, [])
def mr_208 : MRow := (⟨"PointerAnalyzerModel", "addsContext", "(II)V"⟩, prog_13_method_36_code, none, 9, false, 1, 0, 0, [])
def mr_209 : MRow := (⟨"PointerAnalyzerModel", "findContexts", "(I)V"⟩, prog_13_method_37_code, none, 9, false, 2, 23, 0, [])
def mr_210 : MRow := (⟨"PointerAnalyzerModel", "isIn", "([JII)Z"⟩, prog_13_method_38_code, (some .boolean), 9, true, 1, 0, 0, [])
def mr_211 : MRow := (⟨"PointerAnalyzerModel", "cellOf", "(II)I"⟩, prog_13_method_39_code, (some .int), 9, true, 1, 0, 0, [])
def mr_212 : MRow := (⟨"PointerAnalyzerModel", "targetOf", "(I)I"⟩, prog_13_method_40_code, (some .int), 9, false, 1, 0, 0, [])
def mr_213 : MRow := (⟨"PointerAnalyzerModel", "adds", "(II)V"⟩, prog_13_method_41_code, none, 9, false, 2, 22, 0, [])
def mr_214 : MRow := (⟨"PointerAnalyzerModel", "addsAll", "([JII)V"⟩, prog_13_method_42_code, none, 9, false, 1, 0, 0, [])
def mr_215 : MRow := (⟨"PointerAnalyzerModel", "follows", "([JIII)V"⟩, prog_13_method_43_code, none, 9, false, 3, 46, 0, [])
def mr_216 : MRow := (⟨"PointerAnalyzerModel", "clears", "()V"⟩, prog_13_method_44_code, none, 9, false, 1, 0, 0, [])
def mr_217 : MRow := (⟨"PointerAnalyzerModel", "notes", "(II)V"⟩, prog_13_method_45_code, none, 9, false, 2, 22, 0, [])
def mr_218 : MRow := (⟨"PointerAnalyzerModel", "findRanks", "()V"⟩, prog_13_method_46_code, none, 9, false, 4, 74, 0, [])
def mr_219 : MRow := (⟨"PointerAnalyzerModel", "refreshes", "()V"⟩, prog_13_method_47_code, none, 9, false, 5, 98, 0, [])
def mr_220 : MRow := (⟨"PointerAnalyzerModel", "firstOf", "(I)I"⟩, prog_13_method_48_code, (some .int), 9, false, 1, 0, 0, [])
def mr_221 : MRow := (⟨"PointerAnalyzerModel", "contextsOf", "(I)I"⟩, prog_13_method_49_code, (some .int), 9, false, 1, 0, 0, [])
def mr_222 : MRow := (⟨"PointerAnalyzerModel", "contextCount", "(I)I"⟩, prog_13_method_50_code, (some .int), 9, false, 6, 121, 0, [])
def mr_223 : MRow := (⟨"PointerAnalyzerModel", "codeOf", "(II)I"⟩, prog_13_method_51_code, (some .int), 9, false, 6, 121, 0, [])
def mr_224 : MRow := (⟨"PointerAnalyzerModel", "contextLength", "(II)I"⟩, prog_13_method_52_code, (some .int), 9, false, 7, 143, 0, [])
def mr_225 : MRow := (⟨"PointerAnalyzerModel", "contextCall", "(III)I"⟩, prog_13_method_53_code, (some .int), 9, false, 7, 143, 0, [])
def mr_226 : MRow := (⟨"PointerAnalyzerModel", "targetsOf", "(I)J"⟩, prog_13_method_54_code, (some .long), 9, false, 2, 22, 0, [])
def mr_227 : MRow := (⟨"PointerAnalyzerModel", "targetsBy", "(I)J"⟩, prog_13_method_55_code, (some .long), 9, false, 6, 121, 0, [])
def mr_228 : MRow := (⟨"PointerAnalyzerModel", "pointsTo", "(I)J"⟩, prog_13_method_56_code, (some .long), 9, false, 7, 145, 0, [])
def mr_229 : MRow := (⟨"PointerAnalyzerModel", "pointsToIn", "(II)J"⟩, prog_13_method_57_code, (some .long), 9, false, 6, 121, 0, [])
def mr_230 : MRow := (⟨"PointerAnalyzerModel", "isField", "(II)Z"⟩, prog_13_method_58_code, (some .boolean), 9, false, 3, 45, 0, [])
def mr_231 : MRow := (⟨"PointerAnalyzerModel", "fieldPointsTo", "(II)J"⟩, prog_13_method_59_code, (some .long), 9, false, 7, 145, 0, [])
def mr_232 : MRow := (⟨"PointerAnalyzerModel", "factCount", "()I"⟩, prog_13_method_60_code, (some .int), 9, false, 6, 121, 0, [])
def mr_233 : MRow := (⟨"PointerAnalyzerModel", "mayAlias", "(II)Z"⟩, prog_13_method_61_code, (some .boolean), 9, false, 7, 145, 0, [])
def mr_234 : MRow := (⟨"PointerAnalyzerModel", "reached", "(I)J"⟩, prog_13_method_62_code, (some .long), 9, false, 7, 145, 0, [])
def mr_235 : MRow := (⟨"PointerAnalyzerModel", "reach", "(I)J"⟩, prog_13_method_63_code, (some .long), 9, false, 8, 171, 0, [])
def mr_236 : MRow := (⟨"PointerAnalyzerModel", "escapingSites", "()I"⟩, prog_13_method_64_code, (some .int), 9, false, 8, 171, 0, [])
def mr_237 : MRow := (⟨"PointerAnalyzerModel", "isTarget", "(I)Z"⟩, prog_13_method_65_code, (some .boolean), 9, false, 3, 45, 0, [])
def mr_238 : MRow := (⟨"PointerAnalyzerModel", "factAt", "(II)I"⟩, prog_13_method_66_code, (some .int), 9, false, 6, 121, 0, [])
def mr_239 : MRow := (⟨"PointerAnalyzerModel", "rank", "(II)I"⟩, prog_13_method_67_code, (some .int), 9, false, 7, 143, 0, [])
def mr_240 : MRow := (⟨"PointerAnalyzerModel", "reason", "(II)I"⟩, prog_13_method_68_code, (some .int), 9, false, 7, 143, 0, [])
def mr_241 : MRow := (⟨"PointerAnalyzerModel", "roundCount", "()I"⟩, prog_13_method_69_code, (some .int), 9, false, 6, 121, 0, [])
def mr_242 : MRow := (⟨"PointerAnalyzerModel", "rootOf", "(I)I"⟩, prog_13_method_70_code, (some .int), 9, false, 1, 0, 0, [])
def mr_243 : MRow := (⟨"PointerAnalyzerModel", "made", "()I"⟩, prog_13_method_71_code, (some .int), 9, false, 1, 0, 0, [])
def mr_244 : MRow := (⟨"PointerAnalyzerModel", "pointed", "(I)I"⟩, prog_13_method_72_code, (some .int), 9, false, 2, 22, 0, [])
def mr_245 : MRow := (⟨"PointerAnalyzerModel", "unifies", "(II)V"⟩, prog_13_method_73_code, none, 9, false, 2, 22, 0, [])
def mr_246 : MRow := (⟨"PointerAnalyzerModel", "unifiesBy", "(I)V"⟩, prog_13_method_74_code, none, 9, false, 3, 46, 0, [])
def mr_247 : MRow := (⟨"PointerAnalyzerModel", "findUnification", "()V"⟩, prog_13_method_75_code, none, 9, false, 4, 70, 0, [])
def mr_248 : MRow := (⟨"PointerAnalyzerModel", "unified", "(I)J"⟩, prog_13_method_76_code, (some .long), 9, false, 6, 121, 0, [])
def mr_249 : MRow := (⟨"PointerAnalyzerModel", "unifiedTargets", "(I)J"⟩, prog_13_method_77_code, (some .long), 9, false, 7, 146, 0, [])
def mr_250 : MRow := (⟨"PointerAnalyzerModel", "areUnified", "(II)Z"⟩, prog_13_method_78_code, (some .boolean), 9, false, 6, 121, 0, [])
def mr_251 : MRow := (⟨"PointerAnalyzerModel", "unifiedClasses", "()I"⟩, prog_13_method_79_code, (some .int), 9, false, 6, 121, 0, [])
def mr_252 : MRow := (⟨"PointerAnalyzerModel", "called", "(I)I"⟩, prog_13_method_80_code, (some .int), 9, false, 1, 0, 0, [])
def mr_253 : MRow := (⟨"PointerAnalyzerModel", "modifies", "(I)J"⟩, prog_13_method_81_code, (some .long), 9, false, 7, 145, 0, [])
def mr_254 : MRow := (⟨"PointerAnalyzerModel", "isReachable", "(I)Z"⟩, prog_13_method_82_code, (some .boolean), 9, false, 6, 121, 0, [])
def mr_255 : MRow := (⟨"PointerAnalyzerModel", "isRecursive", "(I)Z"⟩, prog_13_method_83_code, (some .boolean), 9, false, 2, 25, 0, [])
def mr_256 : MRow := (⟨"PointerAnalyzerModel", "led", "(IZ)I"⟩, prog_13_method_84_code, (some .int), 9, false, 2, 23, 0, [])
def mr_257 : MRow := (⟨"PointerAnalyzerModel", "edge", "(IIIZ)I"⟩, prog_13_method_85_code, (some .int), 9, true, 1, 0, 0, [])
def mr_258 : MRow := (⟨"PointerAnalyzerModel", "cycleOf", "(I)I"⟩, prog_13_method_86_code, (some .int), 9, false, 3, 50, 0, [])
def mr_259 : MRow := (⟨"PointerAnalyzerModel", "forgets", "()V"⟩, prog_13_method_87_code, none, 9, false, 1, 0, 0, [])
def mr_260 : MRow := (⟨"PointerAnalyzerModel", "assigns", "(II)V"⟩, prog_13_method_88_code, none, 9, false, 1, 0, 0, [])
def mr_261 : MRow := (⟨"PointerAnalyzerModel", "placeIn", "(I)I"⟩, prog_13_method_89_code, (some .int), 9, false, 1, 0, 0, [])
def mr_262 : MRow := (⟨"PointerAnalyzerModel", "opens", "(I)V"⟩, prog_13_method_90_code, none, 9, false, 1, 0, 0, [])
def mr_263 : MRow := (⟨"PointerAnalyzerModel", "makesObject", "(I)I"⟩, prog_13_method_91_code, (some .int), 9, false, 1, 0, 0, [])
def mr_264 : MRow := (⟨"PointerAnalyzerModel", "offsets", "(III)V"⟩, prog_13_method_92_code, none, 9, false, 2, 22, 0, [])
def mr_265 : MRow := (⟨"PointerAnalyzerModel", "executes", "(I)V"⟩, prog_13_method_93_code, none, 9, false, 3, 46, 0, [])
def mr_266 : MRow := (⟨"PointerAnalyzerModel", "closes", "()V"⟩, prog_13_method_94_code, none, 9, false, 2, 22, 0, [])
def mr_267 : MRow := (⟨"PointerAnalyzerModel", "run", "()I"⟩, prog_13_method_95_code, (some .int), 9, false, 4, 69, 0, [])
def mr_268 : MRow := (⟨"PointerAnalyzerModel", "observed", "(I)J"⟩, prog_13_method_96_code, (some .long), 9, false, 2, 21, 0, [])
def mr_269 : MRow := (⟨"PointerAnalyzerModel", "fieldObserved", "(II)J"⟩, prog_13_method_97_code, (some .long), 9, false, 4, 67, 0, [])
def mr_270 : MRow := (⟨"PointerAnalyzerModel", "faults", "()I"⟩, prog_13_method_98_code, (some .int), 9, false, 1, 0, 0, [])
def mr_271 : MRow := (⟨"PointerAnalyzerModel", "objects", "()I"⟩, prog_13_method_99_code, (some .int), 9, false, 1, 0, 0, [])
def mr_272 : MRow := (⟨"PointerAnalyzerModel", "precision", "()D"⟩, prog_13_method_100_code, (some .double), 9, false, 7, 146, 0, [])
def mr_273 : MRow := (⟨"PointerAnalyzerModel", "averageTargets", "()F"⟩, prog_13_method_101_code, (some .float), 9, false, 7, 145, 0, [])
def mr_274 : MRow := (⟨"PointerAnalyzerModel", "passes", "(I)I"⟩, prog_13_method_102_code, (some .int), 9, false, 1, 0, 0, [])
def mr_275 : MRow := (⟨"PointerAnalyzerModel", "passState", "(Z)V"⟩, prog_13_method_103_code, none, 9, false, 2, 22, 0, [])
def mr_276 : MRow := (⟨"PointerAnalyzerModel", "save", "()V"⟩, prog_13_method_104_code, none, 9, false, 3, 44, 0, [])
def mr_277 : MRow := (⟨"PointerAnalyzerModel", "restore", "()V"⟩, prog_13_method_105_code, none, 9, false, 3, 44, 0, [])
def mr_278 : MRow := (⟨"java/lang/Long", "bitCount", "(J)I"⟩, prog_21_method_50_code, (some .int), 13, true, 1, 0, 0, [])
def mr_279 : MRow := (⟨"PointerAnalyzerLaw", "appendCharacter", "(LPointerAnalyzer;I[J)I"⟩, method_3_code, (some .int), 12, true, 8, 111, 2, [(0, 9, 12, 13), (0, 9, 15, 15)])
def mr_280 : MRow := (⟨"PointerAnalyzerLaw", "setBody", "(LPointerAnalyzer;I[J)I"⟩, method_4_code, (some .int), 12, true, 9, 159, 3, [(0, 9, 12, 20), (0, 9, 15, 13), (0, 9, 18, 15)])
def mr_281 : MRow := (⟨"PointerAnalyzerLaw", "kind", "(LPointerAnalyzer;I[J)I"⟩, method_5_code, (some .int), 12, true, 9, 132, 1, [(0, 9, 12, 20)])
def mr_282 : MRow := (⟨"PointerAnalyzerLaw", "functionOf", "(LPointerAnalyzer;I[J)I"⟩, method_6_code, (some .int), 12, true, 9, 132, 1, [(0, 9, 12, 20)])
def mr_283 : MRow := (⟨"PointerAnalyzerLaw", "setLimit", "(LPointerAnalyzer;I[J)I"⟩, method_7_code, (some .int), 12, true, 8, 112, 1, [(0, 9, 12, 13)])
def mr_284 : MRow := (⟨"PointerAnalyzerLaw", "contextCount", "(LPointerAnalyzer;I[J)I"⟩, method_8_code, (some .int), 12, true, 9, 174, 1, [(0, 9, 12, 20)])
def mr_285 : MRow := (⟨"PointerAnalyzerLaw", "contextLength", "(LPointerAnalyzer;II[J)I"⟩, method_9_code, (some .int), 12, true, 10, 175, 2, [(0, 10, 13, 20)])
def mr_286 : MRow := (⟨"PointerAnalyzerLaw", "contextCall", "(LPointerAnalyzer;III[J)I"⟩, method_10_code, (some .int), 12, true, 10, 176, 3, [(0, 12, 15, 20)])
def mr_287 : MRow := (⟨"PointerAnalyzerLaw", "pointsTo", "(LPointerAnalyzer;I[J)I"⟩, method_11_code, (some .int), 12, true, 9, 174, 1, [(0, 8, 11, 20)])
def mr_288 : MRow := (⟨"PointerAnalyzerLaw", "pointsToIn", "(LPointerAnalyzer;II[J)I"⟩, method_12_code, (some .int), 12, true, 10, 175, 4, [(0, 9, 12, 20)])
def mr_289 : MRow := (⟨"PointerAnalyzerLaw", "fieldPointsTo", "(LPointerAnalyzer;II[J)I"⟩, method_13_code, (some .int), 12, true, 9, 175, 1, [(0, 9, 12, 20)])
def mr_290 : MRow := (⟨"PointerAnalyzerLaw", "mayAlias", "(LPointerAnalyzer;II[J)I"⟩, method_14_code, (some .int), 12, true, 9, 175, 2, [(0, 17, 20, 20)])
def mr_291 : MRow := (⟨"PointerAnalyzerLaw", "reach", "(LPointerAnalyzer;I[J)I"⟩, method_15_code, (some .int), 12, true, 9, 174, 1, [(0, 8, 11, 20)])
def mr_292 : MRow := (⟨"PointerAnalyzerLaw", "rank", "(LPointerAnalyzer;II[J)I"⟩, method_16_code, (some .int), 12, true, 10, 175, 3, [(0, 10, 13, 20), (0, 10, 17, 63)])
def mr_293 : MRow := (⟨"PointerAnalyzerLaw", "reason", "(LPointerAnalyzer;II[J)I"⟩, method_17_code, (some .int), 12, true, 10, 175, 3, [(0, 10, 13, 20), (0, 10, 17, 63)])
def mr_294 : MRow := (⟨"PointerAnalyzerLaw", "unifiedTargets", "(LPointerAnalyzer;I[J)I"⟩, method_18_code, (some .int), 12, true, 9, 139, 1, [(0, 8, 11, 20)])
def mr_295 : MRow := (⟨"PointerAnalyzerLaw", "areUnified", "(LPointerAnalyzer;II[J)I"⟩, method_19_code, (some .int), 12, true, 9, 140, 2, [(0, 17, 20, 20)])
def mr_296 : MRow := (⟨"PointerAnalyzerLaw", "modifies", "(LPointerAnalyzer;I[J)I"⟩, method_20_code, (some .int), 12, true, 9, 179, 1, [(0, 8, 11, 20)])
def mr_297 : MRow := (⟨"PointerAnalyzerLaw", "isReachable", "(LPointerAnalyzer;I[J)I"⟩, method_21_code, (some .int), 12, true, 9, 174, 1, [(0, 16, 19, 20)])
def mr_298 : MRow := (⟨"PointerAnalyzerLaw", "isRecursive", "(LPointerAnalyzer;I[J)I"⟩, method_22_code, (some .int), 12, true, 9, 132, 1, [(0, 16, 19, 20)])
def mr_299 : MRow := (⟨"PointerAnalyzerLaw", "cycleOf", "(LPointerAnalyzer;I[J)I"⟩, method_23_code, (some .int), 12, true, 9, 136, 1, [(0, 9, 12, 20)])
def mr_300 : MRow := (⟨"PointerAnalyzerLaw", "observed", "(LPointerAnalyzer;I[J)I"⟩, method_24_code, (some .int), 12, true, 9, 132, 1, [(0, 8, 11, 20)])
def mr_301 : MRow := (⟨"PointerAnalyzerLaw", "fieldObserved", "(LPointerAnalyzer;II[J)I"⟩, method_25_code, (some .int), 12, true, 9, 134, 1, [(0, 9, 12, 20)])
def mr_302 : MRow := (⟨"PointerAnalyzerLaw", "precision", "(LPointerAnalyzer;[D)I"⟩, method_26_code, (some .int), 12, true, 8, 176, 1, [(0, 7, 10, 97)])
def mr_303 : MRow := (⟨"PointerAnalyzerLaw", "averageTargets", "(LPointerAnalyzer;[D)I"⟩, method_27_code, (some .int), 12, true, 8, 177, 1, [(0, 8, 11, 97)])
def mr_304 : MRow := (⟨"PointerAnalyzerLaw", "restore", "(LPointerAnalyzer;)I"⟩, method_28_code, (some .int), 12, true, 8, 110, 1, [(0, 4, 7, 15)])
def mr_305 : MRow := (⟨"PointerAnalyzerLaw", "law", "([I)Z"⟩, code, (some .boolean), 12, true, 20, 10832, 3000, [])
def mT : List MRow := [mr_0, mr_1, mr_2, mr_3, mr_4, mr_5, mr_6, mr_7, mr_8, mr_9, mr_10, mr_11, mr_12, mr_13, mr_14, mr_15, mr_16, mr_17, mr_18, mr_19, mr_20, mr_21, mr_22, mr_23, mr_24, mr_25, mr_26, mr_27, mr_28, mr_29, mr_30, mr_31, mr_32, mr_33, mr_34, mr_35, mr_36, mr_37, mr_38, mr_39, mr_40, mr_41, mr_42, mr_43, mr_44, mr_45, mr_46, mr_47, mr_48, mr_49, mr_50, mr_51, mr_52, mr_53, mr_54, mr_55, mr_56, mr_57, mr_58, mr_59, mr_60, mr_61, mr_62, mr_63, mr_64, mr_65, mr_66, mr_67, mr_68, mr_69, mr_70, mr_71, mr_72, mr_73, mr_74, mr_75, mr_76, mr_77, mr_78, mr_79, mr_80, mr_81, mr_82, mr_83, mr_84, mr_85, mr_86, mr_87, mr_88, mr_89, mr_90, mr_91, mr_92, mr_93, mr_94, mr_95, mr_96, mr_97, mr_98, mr_99, mr_100, mr_101, mr_102, mr_103, mr_104, mr_105, mr_106, mr_107, mr_108, mr_109, mr_110, mr_111, mr_112, mr_113, mr_114, mr_115, mr_116, mr_117, mr_118, mr_119, mr_120, mr_121, mr_122, mr_123, mr_124, mr_125, mr_126, mr_127, mr_128, mr_129, mr_130, mr_131, mr_132, mr_133, mr_134, mr_135, mr_136, mr_137, mr_138, mr_139, mr_140, mr_141, mr_142, mr_143, mr_144, mr_145, mr_146, mr_147, mr_148, mr_149, mr_150, mr_151, mr_152, mr_153, mr_154, mr_155, mr_156, mr_157, mr_158, mr_159, mr_160, mr_161, mr_162, mr_163, mr_164, mr_165, mr_166, mr_167, mr_168, mr_169, mr_170, mr_171, mr_172, mr_173, mr_174, mr_175, mr_176, mr_177, mr_178, mr_179, mr_180, mr_181, mr_182, mr_183, mr_184, mr_185, mr_186, mr_187, mr_188, mr_189, mr_190, mr_191, mr_192, mr_193, mr_194, mr_195, mr_196, mr_197, mr_198, mr_199, mr_200, mr_201, mr_202, mr_203, mr_204, mr_205, mr_206, mr_207, mr_208, mr_209, mr_210, mr_211, mr_212, mr_213, mr_214, mr_215, mr_216, mr_217, mr_218, mr_219, mr_220, mr_221, mr_222, mr_223, mr_224, mr_225, mr_226, mr_227, mr_228, mr_229, mr_230, mr_231, mr_232, mr_233, mr_234, mr_235, mr_236, mr_237, mr_238, mr_239, mr_240, mr_241, mr_242, mr_243, mr_244, mr_245, mr_246, mr_247, mr_248, mr_249, mr_250, mr_251, mr_252, mr_253, mr_254, mr_255, mr_256, mr_257, mr_258, mr_259, mr_260, mr_261, mr_262, mr_263, mr_264, mr_265, mr_266, mr_267, mr_268, mr_269, mr_270, mr_271, mr_272, mr_273, mr_274, mr_275, mr_276, mr_277, mr_278, mr_279, mr_280, mr_281, mr_282, mr_283, mr_284, mr_285, mr_286, mr_287, mr_288, mr_289, mr_290, mr_291, mr_292, mr_293, mr_294, mr_295, mr_296, mr_297, mr_298, mr_299, mr_300, mr_301, mr_302, mr_303, mr_304, mr_305]
def mrw (mi : Nat) : MRow := mT.getD mi mr_0
abbrev mY (mi : Nat) : MethodName := (mrw mi).1
abbrev mB (mi : Nat) : ByteArray := (mrw mi).2.1
abbrev mR (mi : Nat) : Option FieldType := (mrw mi).2.2.1
abbrev mC (mi : Nat) : Nat := (mrw mi).2.2.2.1
abbrev mS (mi : Nat) : Bool := (mrw mi).2.2.2.2.1
abbrev mFr (mi : Nat) : Nat := (mrw mi).2.2.2.2.2.1
abbrev mLo (mi : Nat) : Nat := (mrw mi).2.2.2.2.2.2.1
abbrev mBu (mi : Nat) : Nat := (mrw mi).2.2.2.2.2.2.2.1
abbrev mH (mi : Nat) : List (Nat × Nat × Nat × Nat) := (mrw mi).2.2.2.2.2.2.2.2
def cdW (mi : Nat) : Cond := if (mH mi).isEmpty then .code (mY mi) (mB mi) (mL mi) (mR mi) else .codeWith (mY mi) (mB mi) (mL mi) (mR mi) (mH mi)
abbrev hostN : String := "PointerAnalyzer"
def LF : List (Nat × (Nat × (Nat × Nat))) := [(0, 11, 0, 153), (0, 15, 1, 154), (0, 29, 3, 156), (0, 32, 2, 155), (1, 11, 0, 229), (1, 15, 1, 230), (1, 18, 3, 232), (1, 22, 2, 231), (2, 9, 0, 173), (2, 15, 1, 174), (2, 19, 2, 175), (2, 22, 3, 176), (3, 9, 0, 305), (4, 14, 0, 242), (4, 18, 1, 243), (4, 22, 2, 244), (4, 25, 3, 245), (4, 29, 4, 246), (4, 32, 5, 247), (4, 35, 6, 248), (4, 38, 7, 249), (4, 41, 8, 250), (4, 52, 9, 251), (4, 56, 11, 253), (4, 81, 12, 254), (4, 87, 10, 252), (5, 11, 0, 315), (5, 15, 1, 316), (5, 18, 2, 317), (5, 22, 3, 318), (5, 25, 4, 319), (5, 28, 5, 320), (5, 31, 6, 321), (5, 35, 7, 322), (5, 38, 8, 323), (5, 41, 9, 324), (5, 44, 10, 325), (6, 9, 0, 192), (6, 15, 1, 193), (6, 18, 3, 195), (6, 21, 4, 196), (6, 24, 5, 197), (6, 27, 6, 198), (6, 30, 2, 194), (6, 74, 7, 199), (7, 11, 0, 289), (7, 15, 1, 290), (7, 18, 2, 291), (8, 12, 0, 349), (8, 19, 1, 350), (8, 26, 2, 351), (8, 30, 3, 352), (8, 36, 4, 353), (8, 40, 5, 354), (8, 46, 6, 355), (8, 53, 7, 356), (8, 60, 8, 357), (8, 64, 9, 358), (8, 68, 10, 359), (9, 7, 1, 1382), (9, 13, 2, 1383), (9, 16, 3, 1384), (9, 19, 4, 1385), (9, 22, 5, 1386), (9, 25, 7, 1388), (9, 28, 10, 1391), (9, 32, 14, 1394), (9, 35, 15, 1395), (9, 38, 17, 1397), (9, 42, 18, 1398), (9, 45, 21, 1401), (9, 48, 22, 1402), (9, 51, 24, 1404), (9, 54, 25, 1405), (9, 57, 26, 1406), (9, 60, 27, 1407), (9, 63, 30, 1410), (9, 66, 31, 1411), (9, 69, 32, 1412), (9, 72, 33, 1413), (9, 75, 34, 1414), (9, 78, 35, 1415), (9, 81, 41, 1421), (9, 84, 0, 1381), (9, 101, 8, 1389), (9, 104, 9, 1390), (9, 111, 12, 1392), (9, 114, 13, 1393), (9, 155, 19, 1399), (9, 171, 6, 1387), (9, 174, 16, 1396), (9, 191, 20, 1400), (9, 219, 23, 1403), (9, 278, 28, 1408), (9, 287, 29, 1409), (9, 313, 39, 1419), (9, 316, 38, 1418), (9, 319, 36, 1416), (9, 322, 37, 1417), (9, 338, 40, 1420), (9, 350, 43, 1423), (9, 353, 44, 1424), (9, 359, 42, 1422)]
def LM : List (Nat × (Nat × (Nat × Nat))) := [(0, 19, 98, 906), (0, 35, 30, 960), (0, 40, 4, 964), (0, 44, 9, 968), (0, 48, 5, 976), (0, 51, 11, 980), (0, 55, 6, 988), (0, 59, 31, 992), (0, 63, 7, 1000), (0, 67, 8, 1008), (0, 70, 10, 1004), (0, 73, 13, 972), (0, 76, 12, 984), (1, 25, 18, 426), (1, 29, 96, 434), (1, 35, 15, 438), (1, 39, 20, 468), (1, 42, 21, 472), (1, 46, 98, 435), (1, 50, 88, 442), (1, 55, 89, 443), (1, 58, 90, 447), (1, 61, 93, 454), (1, 64, 16, 461), (1, 68, 17, 465), (1, 71, 19, 430), (1, 74, 24, 1131), (1, 77, 26, 580), (2, 25, 103, 996), (2, 31, 98, 999), (2, 37, 96, 1052), (3, 15, 100, 604), (3, 21, 38, 624), (3, 25, 99, 613), (3, 29, 40, 618), (3, 37, 97, 622), (4, 45, 14, 422), (4, 49, 43, 476), (4, 59, 102, 495), (4, 65, 22, 498), (4, 69, 25, 487), (4, 73, 88, 502), (4, 78, 89, 503), (4, 84, 45, 504), (4, 90, 100, 480), (4, 94, 44, 483), (4, 97, 98, 494), (4, 104, 91, 508), (4, 107, 46, 515), (4, 111, 92, 518), (4, 114, 93, 525), (4, 117, 90, 526), (4, 120, 51, 527), (4, 124, 47, 546), (4, 127, 48, 562), (4, 130, 95, 566), (4, 133, 50, 570), (4, 137, 29, 576), (4, 141, 52, 558), (4, 147, 49, 550), (4, 150, 96, 542), (4, 154, 54, 554), (4, 166, 53, 531), (4, 170, 97, 535), (4, 175, 99, 539), (4, 182, 24, 1174), (5, 47, 100, 708), (5, 53, 62, 704), (5, 56, 64, 709), (5, 60, 65, 714), (5, 64, 96, 720), (5, 68, 89, 721), (5, 74, 98, 713), (5, 78, 67, 722), (5, 81, 66, 761), (5, 85, 88, 718), (5, 94, 72, 727), (5, 97, 73, 738), (5, 100, 91, 726), (5, 103, 74, 733), (5, 107, 92, 731), (5, 110, 90, 732), (5, 113, 68, 742), (5, 116, 69, 746), (5, 119, 95, 750), (5, 125, 93, 752), (5, 128, 70, 753), (5, 132, 71, 757), (5, 136, 99, 737), (5, 140, 97, 1321), (6, 34, 32, 1021), (6, 40, 33, 1025), (6, 43, 82, 1029), (6, 47, 34, 1039), (6, 50, 86, 1033), (6, 51, 90, 1034), (6, 55, 94, 1035), (6, 58, 35, 1048), (6, 61, 98, 801), (6, 67, 85, 797), (6, 70, 101, 794), (6, 77, 96, 399), (6, 80, 104, 451), (6, 85, 88, 395), (6, 88, 105, 512), (6, 91, 106, 522), (6, 94, 107, 458), (7, 22, 110, 649), (7, 25, 86, 660), (7, 31, 114, 661), (7, 35, 98, 653), (7, 41, 111, 654), (7, 45, 112, 657), (7, 48, 91, 665), (7, 51, 92, 666), (7, 54, 93, 667), (7, 57, 90, 668), (7, 60, 115, 669), (7, 64, 95, 678), (7, 67, 113, 679), (7, 76, 116, 673), (7, 79, 96, 677), (7, 87, 120, 688), (7, 91, 117, 692), (8, 79, 0, 882), (8, 88, 1, 902), (8, 92, 162, 938), (8, 96, 3, 955), (8, 100, 2, 1012), (8, 105, 81, 1017), (8, 111, 83, 1044), (8, 115, 158, 1053), (8, 118, 32, 1066), (8, 122, 86, 391), (8, 123, 164, 1074), (8, 126, 90, 1079), (8, 129, 94, 1087), (8, 132, 87, 406), (8, 137, 79, 414), (8, 140, 80, 1096), (8, 143, 41, 1057), (8, 146, 42, 418), (8, 150, 55, 1107), (8, 154, 23, 1111), (8, 159, 163, 1122), (8, 163, 27, 1127), (8, 172, 28, 1143), (8, 176, 165, 1154), (8, 179, 58, 605), (8, 183, 170, 1166), (8, 188, 59, 1169), (8, 192, 166, 1182), (8, 195, 171, 630), (8, 198, 56, 588), (8, 201, 159, 596), (8, 204, 40, 625), (8, 207, 172, 626), (8, 210, 167, 1209), (8, 213, 60, 1231), (8, 216, 61, 1242), (8, 219, 57, 637), (8, 222, 109, 645), (8, 225, 118, 1253), (8, 227, 117, 1265), (8, 231, 119, 684), (8, 234, 160, 1273), (8, 237, 173, 1214), (8, 241, 91, 1282), (8, 244, 161, 1304), (8, 247, 63, 700), (8, 250, 75, 766), (8, 253, 78, 1317), (8, 256, 76, 774), (8, 259, 77, 782), (8, 262, 278, 1350), (8, 275, 84, 790), (8, 280, 108, 1061), (8, 281, 62, 1065), (8, 284, 36, 600), (8, 285, 38, 609), (8, 289, 39, 614), (8, 292, 93, 1277), (8, 295, 37, 1278), (8, 298, 92, 1308), (8, 301, 168, 587), (8, 304, 169, 1309), (9, 87, 183, 1646), (9, 91, 182, 1606), (9, 94, 177, 1524), (9, 98, 175, 1527), (9, 107, 187, 1550), (9, 117, 189, 1558), (9, 120, 188, 1546), (9, 124, 191, 1562), (9, 128, 190, 1570), (9, 131, 192, 1554), (9, 134, 193, 1566), (9, 138, 194, 1542), (9, 141, 179, 1535), (9, 144, 195, 1538), (9, 147, 184, 1574), (9, 151, 196, 1578), (9, 159, 259, 1582), (9, 162, 181, 1594), (9, 165, 200, 1602), (9, 168, 203, 1618), (9, 177, 208, 1642), (9, 180, 207, 1650), (9, 184, 206, 1653), (9, 187, 210, 1672), (9, 196, 211, 1665), (9, 199, 213, 1668), (9, 202, 214, 1675), (9, 206, 185, 1680), (9, 209, 212, 1688), (9, 212, 209, 1638), (9, 216, 216, 1657), (9, 222, 215, 1661), (9, 226, 217, 1684), (9, 229, 218, 1634), (9, 232, 247, 1692), (9, 235, 219, 1630), (9, 238, 221, 1716), (9, 241, 220, 1728), (9, 244, 223, 1724), (9, 247, 226, 1747), (9, 251, 180, 1740), (9, 254, 227, 1743), (9, 257, 230, 1759), (9, 260, 178, 1767), (9, 264, 176, 1774), (9, 267, 234, 1782), (9, 272, 237, 1799), (9, 275, 238, 1795), (9, 281, 242, 1704), (9, 284, 243, 1696), (9, 290, 244, 1700), (9, 293, 245, 1712), (9, 296, 246, 1708), (9, 299, 248, 1815), (9, 302, 252, 1831), (9, 305, 257, 1851), (9, 309, 256, 1847), (9, 325, 260, 1870), (9, 328, 261, 1866), (9, 331, 263, 1878), (9, 334, 264, 1882), (9, 341, 262, 1858), (9, 344, 266, 1862), (9, 347, 265, 1874), (9, 356, 274, 1918), (9, 362, 275, 1914), (12, 7, 121, 807), (12, 17, 122, 934), (12, 22, 125, 1070), (12, 25, 126, 1083), (12, 28, 128, 1091), (12, 31, 129, 1103), (12, 34, 130, 1118), (12, 38, 131, 1138), (12, 42, 132, 1150), (12, 46, 133, 1162), (12, 50, 134, 1178), (12, 53, 136, 1190), (12, 57, 137, 1197), (12, 60, 139, 1205), (12, 65, 140, 1238), (12, 68, 142, 1249), (12, 71, 143, 1261), (12, 74, 145, 1269), (12, 77, 146, 1286), (12, 81, 147, 1293), (12, 84, 148, 1300), (12, 87, 150, 1313), (12, 90, 151, 1325), (12, 93, 154, 1346), (12, 99, 155, 1362), (12, 103, 157, 1370), (12, 110, 279, 802), (12, 115, 186, 1520), (12, 116, 174, 1516), (12, 120, 280, 907), (12, 122, 197, 1531), (12, 123, 123, 383), (12, 126, 198, 1586), (12, 127, 124, 387), (12, 130, 199, 1590), (12, 131, 281, 1067), (12, 133, 201, 1598), (12, 134, 282, 1080), (12, 136, 202, 1610), (12, 137, 127, 402), (12, 140, 204, 1614), (12, 141, 283, 1088), (12, 143, 205, 1622), (12, 144, 284, 1100), (12, 146, 222, 1626), (12, 147, 285, 1115), (12, 150, 224, 1720), (12, 151, 286, 1135), (12, 154, 225, 1732), (12, 155, 287, 1147), (12, 157, 228, 1736), (12, 158, 288, 1159), (12, 160, 229, 1751), (12, 161, 289, 1175), (12, 163, 231, 1755), (12, 164, 135, 410), (12, 167, 232, 1763), (12, 168, 290, 1187), (12, 170, 233, 1770), (12, 171, 291, 1194), (12, 173, 235, 1778), (12, 174, 138, 592), (12, 177, 236, 1786), (12, 178, 292, 1201), (12, 180, 239, 1791), (12, 181, 293, 1235), (12, 183, 240, 1803), (12, 184, 141, 633), (12, 187, 241, 1807), (12, 188, 294, 1246), (12, 190, 249, 1811), (12, 191, 295, 1258), (12, 193, 250, 1819), (12, 194, 144, 641), (12, 197, 251, 1823), (12, 198, 296, 1266), (12, 200, 253, 1827), (12, 201, 297, 1283), (12, 203, 254, 1835), (12, 204, 298, 1290), (12, 206, 255, 1839), (12, 207, 299, 1297), (12, 209, 258, 1843), (12, 210, 149, 696), (12, 213, 267, 1854), (12, 214, 300, 1310), (12, 216, 268, 1886), (12, 217, 301, 1322), (12, 219, 269, 1890), (12, 220, 152, 770), (12, 223, 270, 1894), (12, 224, 153, 778), (12, 227, 271, 1898), (12, 228, 302, 1329), (12, 231, 272, 1902), (12, 232, 303, 1359), (12, 234, 273, 1906), (12, 235, 156, 786), (12, 238, 276, 1910), (12, 239, 304, 1367), (12, 242, 277, 1922)]
def LN : List (Nat × (Nat × (Nat × Nat))) := [(0, 25, 168, 959), (3, 33, 173, 623), (4, 101, 168, 491), (4, 144, 169, 584), (4, 158, 173, 543), (4, 179, 170, 1173), (5, 88, 168, 719), (5, 91, 169, 765), (5, 122, 171, 751), (7, 70, 168, 682), (7, 73, 169, 683), (7, 83, 172, 1257)]
def LL : List (Nat × (Nat × (Int × Nat))) := [(4, 162, 7190235, 574), (4, 164, 2396745, 575), (4, 173, -1, 538), (8, 322, 7, 629), (9, 194, -1, 1679), (9, 270, 7, 1790), (13, 314, 6148914691236517205, 1353), (13, 316, 3689348814741910323, 1354), (13, 318, 1085102592571150095, 1355)]
def TG : List Cond := lw_tbl.filter goodWord
theorem tg_mem {i : Nat} {w : Cond} (h : lw_tbl[i]? = some w) (g : goodWord w = true) : w ∈ TG := List.mem_filter.mpr ⟨List.mem_of_getElem? h, g⟩
theorem tg_good {w : Cond} (h : w ∈ TG) : (w.onTables && w.keeps) = true ∨ ∃ ty, w = .arrayClass ty := good_of_word (List.mem_filter.mp h).2
def wLF (e : Nat × (Nat × (Nat × Nat))) : Cond := .fieldLink (cN e.1) e.2.1 (cN e.1) (fT e.1 e.2.2.1).2.1 (fT e.1 e.2.2.1).2.2.1
theorem LF_ok : LF.all (fun e => decide (lw_tbl[e.2.2.2]? = some (wLF e))) = true := by decide +kernel
def wLM (e : Nat × (Nat × (Nat × Nat))) : Cond := .methodLink (cN e.1) e.2.1 (mY e.2.2.1)
theorem LM_ok : LM.all (fun e => decide (lw_tbl[e.2.2.2]? = some (wLM e))) = true := by decide +kernel
def wLN (e : Nat × (Nat × (Nat × Nat))) : Cond := .methodLinkNest (cN e.1) e.2.1 (mY e.2.2.1) hostN
theorem LN_ok : LN.all (fun e => decide (lw_tbl[e.2.2.2]? = some (wLN e))) = true := by decide +kernel
def wLL (e : Nat × (Nat × (Int × Nat))) : Cond := .constantLong (cN e.1) e.2.1 (Int64.ofInt e.2.2.1)
theorem LL_ok : LL.all (fun e => decide (lw_tbl[e.2.2.2]? = some (wLL e))) = true := by decide +kernel
def okLW (e : Nat × (Nat × (Nat × (Nat × Nat)))) : Bool := decide (lw_tbl[e.2.1]? = some (cdW e.1)) && (goodWord (cdW e.1) && (decide (lw_tbl[e.2.2.2.2]? = some (.initialized (mY e.1).cls)) && (if mS e.1 then decide (lw_tbl[e.2.2.1]? = some (.static (mY e.1))) else decide (lw_tbl[e.2.2.1]? = some (.instanceMethod (mY e.1))) && (decide (lw_tbl[e.2.2.2.1]? = some (.selects (mY e.1).cls (mY e.1) (mY e.1)))))))
theorem lw_0 : okLW (0, 885, 883, 884, 117) = true := by decide +kernel
theorem lw_1 : okLW (1, 905, 903, 904, 117) = true := by decide +kernel
theorem lw_2 : okLW (2, 1015, 1013, 1014, 117) = true := by decide +kernel
theorem lw_3 : okLW (3, 958, 956, 957, 117) = true := by decide +kernel
theorem lw_4 : okLW (4, 967, 966, 38, 117) = true := by decide +kernel
theorem lw_5 : okLW (5, 979, 978, 41, 117) = true := by decide +kernel
theorem lw_6 : okLW (6, 991, 990, 44, 117) = true := by decide +kernel
theorem lw_7 : okLW (7, 1003, 1002, 45, 117) = true := by decide +kernel
theorem lw_8 : okLW (8, 1011, 1010, 47, 117) = true := by decide +kernel
theorem lw_9 : okLW (9, 971, 970, 39, 117) = true := by decide +kernel
theorem lw_10 : okLW (10, 1007, 1006, 46, 117) = true := by decide +kernel
theorem lw_11 : okLW (11, 983, 982, 42, 117) = true := by decide +kernel
theorem lw_12 : okLW (12, 987, 986, 43, 117) = true := by decide +kernel
theorem lw_13 : okLW (13, 975, 974, 40, 117) = true := by decide +kernel
theorem lw_14 : okLW (14, 425, 423, 424, 121) = true := by decide +kernel
theorem lw_15 : okLW (15, 441, 440, 2, 121) = true := by decide +kernel
theorem lw_16 : okLW (16, 464, 463, 3, 121) = true := by decide +kernel
theorem lw_17 : okLW (17, 467, 466, 0, 121) = true := by decide +kernel
theorem lw_18 : okLW (18, 429, 428, 0, 121) = true := by decide +kernel
theorem lw_19 : okLW (19, 433, 432, 1, 121) = true := by decide +kernel
theorem lw_20 : okLW (20, 471, 470, 4, 121) = true := by decide +kernel
theorem lw_21 : okLW (21, 475, 474, 5, 121) = true := by decide +kernel
theorem lw_22 : okLW (22, 501, 499, 500, 121) = true := by decide +kernel
theorem lw_23 : okLW (23, 1114, 1112, 1113, 121) = true := by decide +kernel
theorem lw_24 : okLW (24, 1134, 1132, 1133, 121) = true := by decide +kernel
theorem lw_25 : okLW (25, 490, 488, 489, 121) = true := by decide +kernel
theorem lw_26 : okLW (26, 583, 582, 17, 121) = true := by decide +kernel
theorem lw_27 : okLW (27, 1130, 1128, 1129, 121) = true := by decide +kernel
theorem lw_28 : okLW (28, 1146, 1144, 1145, 121) = true := by decide +kernel
theorem lw_29 : okLW (29, 579, 577, 578, 121) = true := by decide +kernel
theorem lw_30 : okLW (30, 963, 961, 962, 118) = true := by decide +kernel
theorem lw_31 : okLW (31, 995, 993, 994, 118) = true := by decide +kernel
theorem lw_32 : okLW (32, 1024, 1022, 1023, 118) = true := by decide +kernel
theorem lw_33 : okLW (33, 1028, 1026, 1027, 118) = true := by decide +kernel
theorem lw_34 : okLW (34, 1042, 1040, 1041, 118) = true := by decide +kernel
theorem lw_35 : okLW (35, 1051, 1049, 1050, 118) = true := by decide +kernel
theorem lw_36 : okLW (36, 603, 601, 602, 123) = true := by decide +kernel
theorem lw_37 : okLW (37, 1281, 1279, 1280, 123) = true := by decide +kernel
theorem lw_38 : okLW (38, 612, 610, 611, 123) = true := by decide +kernel
theorem lw_39 : okLW (39, 617, 615, 616, 123) = true := by decide +kernel
theorem lw_40 : okLW (40, 621, 619, 620, 123) = true := by decide +kernel
theorem lw_41 : okLW (41, 1060, 1058, 1059, 120) = true := by decide +kernel
theorem lw_42 : okLW (42, 421, 419, 420, 120) = true := by decide +kernel
theorem lw_43 : okLW (43, 479, 478, 6, 120) = true := by decide +kernel
theorem lw_44 : okLW (44, 486, 485, 7, 120) = true := by decide +kernel
theorem lw_45 : okLW (45, 507, 506, 8, 120) = true := by decide +kernel
theorem lw_46 : okLW (46, 517, 516, 0, 120) = true := by decide +kernel
theorem lw_47 : okLW (47, 549, 548, 11, 120) = true := by decide +kernel
theorem lw_48 : okLW (48, 565, 564, 15, 120) = true := by decide +kernel
theorem lw_49 : okLW (49, 553, 552, 12, 120) = true := by decide +kernel
theorem lw_50 : okLW (50, 573, 572, 16, 120) = true := by decide +kernel
theorem lw_51 : okLW (51, 530, 529, 9, 120) = true := by decide +kernel
theorem lw_52 : okLW (52, 561, 560, 14, 120) = true := by decide +kernel
theorem lw_53 : okLW (53, 534, 533, 10, 120) = true := by decide +kernel
theorem lw_54 : okLW (54, 557, 556, 13, 120) = true := by decide +kernel
theorem lw_55 : okLW (55, 1110, 1108, 1109, 120) = true := by decide +kernel
theorem lw_56 : okLW (56, 591, 589, 590, 120) = true := by decide +kernel
theorem lw_57 : okLW (57, 640, 638, 639, 120) = true := by decide +kernel
theorem lw_58 : okLW (58, 608, 606, 607, 120) = true := by decide +kernel
theorem lw_59 : okLW (59, 1172, 1170, 1171, 120) = true := by decide +kernel
theorem lw_60 : okLW (60, 1234, 1232, 1233, 120) = true := by decide +kernel
theorem lw_61 : okLW (61, 1245, 1243, 1244, 120) = true := by decide +kernel
theorem lw_62 : okLW (62, 707, 705, 706, 124) = true := by decide +kernel
theorem lw_63 : okLW (63, 703, 701, 702, 124) = true := by decide +kernel
theorem lw_64 : okLW (64, 712, 711, 24, 124) = true := by decide +kernel
theorem lw_65 : okLW (65, 717, 716, 25, 124) = true := by decide +kernel
theorem lw_66 : okLW (66, 764, 763, 34, 124) = true := by decide +kernel
theorem lw_67 : okLW (67, 725, 724, 26, 124) = true := by decide +kernel
theorem lw_68 : okLW (68, 745, 744, 30, 124) = true := by decide +kernel
theorem lw_69 : okLW (69, 749, 748, 31, 124) = true := by decide +kernel
theorem lw_70 : okLW (70, 756, 755, 32, 124) = true := by decide +kernel
theorem lw_71 : okLW (71, 760, 759, 33, 124) = true := by decide +kernel
theorem lw_72 : okLW (72, 730, 729, 27, 124) = true := by decide +kernel
theorem lw_73 : okLW (73, 741, 740, 29, 124) = true := by decide +kernel
theorem lw_74 : okLW (74, 736, 735, 28, 124) = true := by decide +kernel
theorem lw_75 : okLW (75, 769, 767, 768, 124) = true := by decide +kernel
theorem lw_76 : okLW (76, 777, 775, 776, 124) = true := by decide +kernel
theorem lw_77 : okLW (77, 785, 783, 784, 124) = true := by decide +kernel
theorem lw_78 : okLW (78, 1320, 1318, 1319, 124) = true := by decide +kernel
theorem lw_79 : okLW (79, 417, 415, 416, 119) = true := by decide +kernel
theorem lw_80 : okLW (80, 1099, 1097, 1098, 119) = true := by decide +kernel
theorem lw_81 : okLW (81, 1020, 1018, 1019, 119) = true := by decide +kernel
theorem lw_82 : okLW (82, 1032, 1031, 48, 119) = true := by decide +kernel
theorem lw_83 : okLW (83, 1047, 1045, 1046, 119) = true := by decide +kernel
theorem lw_84 : okLW (84, 793, 791, 792, 119) = true := by decide +kernel
theorem lw_85 : okLW (85, 800, 799, 35, 119) = true := by decide +kernel
theorem lw_86 : okLW (86, 394, 392, 393, 119) = true := by decide +kernel
theorem lw_87 : okLW (87, 409, 407, 408, 119) = true := by decide +kernel
theorem lw_88 : okLW (88, 398, 396, 397, 119) = true := by decide +kernel
theorem lw_89 : okLW (89, 446, 444, 445, 119) = true := by decide +kernel
theorem lw_90 : okLW (90, 450, 448, 449, 119) = true := by decide +kernel
theorem lw_91 : okLW (91, 511, 509, 510, 119) = true := by decide +kernel
theorem lw_92 : okLW (92, 521, 519, 520, 119) = true := by decide +kernel
theorem lw_93 : okLW (93, 457, 455, 456, 119) = true := by decide +kernel
theorem lw_94 : okLW (94, 1038, 1036, 1037, 119) = true := by decide +kernel
theorem lw_95 : okLW (95, 569, 567, 568, 119) = true := by decide +kernel
theorem lw_96 : okLW (96, 401, 400, 0, 131) = true := by decide +kernel
theorem lw_97 : okLW (97, 537, 536, 0, 131) = true := by decide +kernel
theorem lw_98 : okLW (98, 437, 436, 0, 131) = true := by decide +kernel
theorem lw_99 : okLW (99, 541, 540, 0, 131) = true := by decide +kernel
theorem lw_100 : okLW (100, 482, 481, 0, 131) = true := by decide +kernel
theorem lw_101 : okLW (101, 796, 795, 0, 131) = true := by decide +kernel
theorem lw_102 : okLW (102, 497, 496, 0, 131) = true := by decide +kernel
theorem lw_103 : okLW (103, 998, 997, 0, 135) = true := by decide +kernel
theorem lw_104 : okLW (104, 453, 452, 0, 135) = true := by decide +kernel
theorem lw_105 : okLW (105, 514, 513, 0, 135) = true := by decide +kernel
theorem lw_106 : okLW (106, 524, 523, 0, 135) = true := by decide +kernel
theorem lw_107 : okLW (107, 460, 459, 0, 135) = true := by decide +kernel
theorem lw_108 : okLW (108, 1064, 1062, 1063, 122) = true := by decide +kernel
theorem lw_109 : okLW (109, 648, 646, 647, 122) = true := by decide +kernel
theorem lw_110 : okLW (110, 652, 651, 19, 122) = true := by decide +kernel
theorem lw_111 : okLW (111, 656, 655, 0, 122) = true := by decide +kernel
theorem lw_112 : okLW (112, 659, 658, 0, 122) = true := by decide +kernel
theorem lw_113 : okLW (113, 681, 680, 0, 122) = true := by decide +kernel
theorem lw_114 : okLW (114, 664, 663, 20, 122) = true := by decide +kernel
theorem lw_115 : okLW (115, 672, 671, 21, 122) = true := by decide +kernel
theorem lw_116 : okLW (116, 676, 675, 22, 122) = true := by decide +kernel
theorem lw_117 : okLW (117, 695, 693, 694, 122) = true := by decide +kernel
theorem lw_118 : okLW (118, 1256, 1254, 1255, 122) = true := by decide +kernel
theorem lw_119 : okLW (119, 687, 685, 686, 122) = true := by decide +kernel
theorem lw_120 : okLW (120, 691, 690, 23, 122) = true := by decide +kernel
theorem lw_121 : okLW (121, 810, 808, 809, 116) = true := by decide +kernel
theorem lw_122 : okLW (122, 937, 935, 936, 116) = true := by decide +kernel
theorem lw_123 : okLW (123, 386, 384, 385, 116) = true := by decide +kernel
theorem lw_124 : okLW (124, 390, 388, 389, 116) = true := by decide +kernel
theorem lw_125 : okLW (125, 1073, 1071, 1072, 116) = true := by decide +kernel
theorem lw_126 : okLW (126, 1086, 1084, 1085, 116) = true := by decide +kernel
theorem lw_127 : okLW (127, 405, 403, 404, 116) = true := by decide +kernel
theorem lw_128 : okLW (128, 1094, 1092, 1093, 116) = true := by decide +kernel
theorem lw_129 : okLW (129, 1106, 1104, 1105, 116) = true := by decide +kernel
theorem lw_130 : okLW (130, 1121, 1119, 1120, 116) = true := by decide +kernel
theorem lw_131 : okLW (131, 1141, 1139, 1140, 116) = true := by decide +kernel
theorem lw_132 : okLW (132, 1153, 1151, 1152, 116) = true := by decide +kernel
theorem lw_133 : okLW (133, 1165, 1163, 1164, 116) = true := by decide +kernel
theorem lw_134 : okLW (134, 1181, 1179, 1180, 116) = true := by decide +kernel
theorem lw_135 : okLW (135, 413, 411, 412, 116) = true := by decide +kernel
theorem lw_136 : okLW (136, 1193, 1191, 1192, 116) = true := by decide +kernel
theorem lw_137 : okLW (137, 1200, 1198, 1199, 116) = true := by decide +kernel
theorem lw_138 : okLW (138, 595, 593, 594, 116) = true := by decide +kernel
theorem lw_139 : okLW (139, 1208, 1206, 1207, 116) = true := by decide +kernel
theorem lw_140 : okLW (140, 1241, 1239, 1240, 116) = true := by decide +kernel
theorem lw_141 : okLW (141, 636, 634, 635, 116) = true := by decide +kernel
theorem lw_142 : okLW (142, 1252, 1250, 1251, 116) = true := by decide +kernel
theorem lw_143 : okLW (143, 1264, 1262, 1263, 116) = true := by decide +kernel
theorem lw_144 : okLW (144, 644, 642, 643, 116) = true := by decide +kernel
theorem lw_145 : okLW (145, 1272, 1270, 1271, 116) = true := by decide +kernel
theorem lw_146 : okLW (146, 1289, 1287, 1288, 116) = true := by decide +kernel
theorem lw_147 : okLW (147, 1296, 1294, 1295, 116) = true := by decide +kernel
theorem lw_148 : okLW (148, 1303, 1301, 1302, 116) = true := by decide +kernel
theorem lw_149 : okLW (149, 699, 697, 698, 116) = true := by decide +kernel
theorem lw_150 : okLW (150, 1316, 1314, 1315, 116) = true := by decide +kernel
theorem lw_151 : okLW (151, 1328, 1326, 1327, 116) = true := by decide +kernel
theorem lw_152 : okLW (152, 773, 771, 772, 116) = true := by decide +kernel
theorem lw_153 : okLW (153, 781, 779, 780, 116) = true := by decide +kernel
theorem lw_154 : okLW (154, 1349, 1347, 1348, 116) = true := by decide +kernel
theorem lw_155 : okLW (155, 1365, 1363, 1364, 116) = true := by decide +kernel
theorem lw_156 : okLW (156, 789, 787, 788, 116) = true := by decide +kernel
theorem lw_157 : okLW (157, 1373, 1371, 1372, 116) = true := by decide +kernel
theorem lw_158 : okLW (158, 1056, 1055, 49, 116) = true := by decide +kernel
theorem lw_159 : okLW (159, 599, 598, 18, 116) = true := by decide +kernel
theorem lw_160 : okLW (160, 1276, 1275, 55, 116) = true := by decide +kernel
theorem lw_161 : okLW (161, 1307, 1306, 56, 116) = true := by decide +kernel
theorem lw_162 : okLW (162, 941, 940, 37, 116) = true := by decide +kernel
theorem lw_163 : okLW (163, 1125, 1124, 51, 116) = true := by decide +kernel
theorem lw_164 : okLW (164, 1077, 1076, 50, 116) = true := by decide +kernel
theorem lw_165 : okLW (165, 1157, 1156, 52, 116) = true := by decide +kernel
theorem lw_166 : okLW (166, 1185, 1184, 53, 116) = true := by decide +kernel
theorem lw_167 : okLW (167, 1212, 1211, 54, 116) = true := by decide +kernel
theorem lw_168 : okLW (168, 493, 492, 0, 116) = true := by decide +kernel
theorem lw_169 : okLW (169, 586, 585, 0, 116) = true := by decide +kernel
theorem lw_170 : okLW (170, 1168, 1167, 0, 116) = true := by decide +kernel
theorem lw_171 : okLW (171, 632, 631, 0, 116) = true := by decide +kernel
theorem lw_172 : okLW (172, 628, 627, 0, 116) = true := by decide +kernel
theorem lw_173 : okLW (173, 545, 544, 0, 116) = true := by decide +kernel
theorem lw_174 : okLW (174, 1519, 1517, 1518, 125) = true := by decide +kernel
theorem lw_175 : okLW (175, 1530, 1529, 57, 125) = true := by decide +kernel
theorem lw_176 : okLW (176, 1777, 1776, 99, 125) = true := by decide +kernel
theorem lw_177 : okLW (177, 1526, 1525, 0, 125) = true := by decide +kernel
theorem lw_178 : okLW (178, 1769, 1768, 0, 125) = true := by decide +kernel
theorem lw_179 : okLW (179, 1537, 1536, 0, 125) = true := by decide +kernel
theorem lw_180 : okLW (180, 1742, 1741, 0, 125) = true := by decide +kernel
theorem lw_181 : okLW (181, 1597, 1596, 70, 125) = true := by decide +kernel
theorem lw_182 : okLW (182, 1609, 1608, 72, 125) = true := by decide +kernel
theorem lw_183 : okLW (183, 1649, 1648, 78, 125) = true := by decide +kernel
theorem lw_184 : okLW (184, 1577, 1576, 67, 125) = true := by decide +kernel
theorem lw_185 : okLW (185, 1683, 1682, 84, 125) = true := by decide +kernel
theorem lw_186 : okLW (186, 1523, 1521, 1522, 125) = true := by decide +kernel
theorem lw_187 : okLW (187, 1553, 1552, 61, 125) = true := by decide +kernel
theorem lw_188 : okLW (188, 1549, 1548, 60, 125) = true := by decide +kernel
theorem lw_189 : okLW (189, 1561, 1560, 63, 125) = true := by decide +kernel
theorem lw_190 : okLW (190, 1573, 1572, 66, 125) = true := by decide +kernel
theorem lw_191 : okLW (191, 1565, 1564, 64, 125) = true := by decide +kernel
theorem lw_192 : okLW (192, 1557, 1556, 62, 125) = true := by decide +kernel
theorem lw_193 : okLW (193, 1569, 1568, 65, 125) = true := by decide +kernel
theorem lw_194 : okLW (194, 1545, 1544, 59, 125) = true := by decide +kernel
theorem lw_195 : okLW (195, 1541, 1540, 58, 125) = true := by decide +kernel
theorem lw_196 : okLW (196, 1581, 1580, 68, 125) = true := by decide +kernel
theorem lw_197 : okLW (197, 1534, 1532, 1533, 125) = true := by decide +kernel
theorem lw_198 : okLW (198, 1589, 1587, 1588, 125) = true := by decide +kernel
theorem lw_199 : okLW (199, 1593, 1591, 1592, 125) = true := by decide +kernel
theorem lw_200 : okLW (200, 1605, 1604, 71, 125) = true := by decide +kernel
theorem lw_201 : okLW (201, 1601, 1599, 1600, 125) = true := by decide +kernel
theorem lw_202 : okLW (202, 1613, 1611, 1612, 125) = true := by decide +kernel
theorem lw_203 : okLW (203, 1621, 1620, 73, 125) = true := by decide +kernel
theorem lw_204 : okLW (204, 1617, 1615, 1616, 125) = true := by decide +kernel
theorem lw_205 : okLW (205, 1625, 1623, 1624, 125) = true := by decide +kernel
theorem lw_206 : okLW (206, 1656, 1655, 79, 125) = true := by decide +kernel
theorem lw_207 : okLW (207, 1652, 1651, 0, 125) = true := by decide +kernel
theorem lw_208 : okLW (208, 1645, 1644, 77, 125) = true := by decide +kernel
theorem lw_209 : okLW (209, 1641, 1640, 76, 125) = true := by decide +kernel
theorem lw_210 : okLW (210, 1674, 1673, 0, 125) = true := by decide +kernel
theorem lw_211 : okLW (211, 1667, 1666, 0, 125) = true := by decide +kernel
theorem lw_212 : okLW (212, 1691, 1690, 86, 125) = true := by decide +kernel
theorem lw_213 : okLW (213, 1671, 1670, 82, 125) = true := by decide +kernel
theorem lw_214 : okLW (214, 1678, 1677, 83, 125) = true := by decide +kernel
theorem lw_215 : okLW (215, 1664, 1663, 81, 125) = true := by decide +kernel
theorem lw_216 : okLW (216, 1660, 1659, 80, 125) = true := by decide +kernel
theorem lw_217 : okLW (217, 1687, 1686, 85, 125) = true := by decide +kernel
theorem lw_218 : okLW (218, 1637, 1636, 75, 125) = true := by decide +kernel
theorem lw_219 : okLW (219, 1633, 1632, 74, 125) = true := by decide +kernel
theorem lw_220 : okLW (220, 1731, 1730, 95, 125) = true := by decide +kernel
theorem lw_221 : okLW (221, 1719, 1718, 93, 125) = true := by decide +kernel
theorem lw_222 : okLW (222, 1629, 1627, 1628, 125) = true := by decide +kernel
theorem lw_223 : okLW (223, 1727, 1726, 94, 125) = true := by decide +kernel
theorem lw_224 : okLW (224, 1723, 1721, 1722, 125) = true := by decide +kernel
theorem lw_225 : okLW (225, 1735, 1733, 1734, 125) = true := by decide +kernel
theorem lw_226 : okLW (226, 1750, 1749, 97, 125) = true := by decide +kernel
theorem lw_227 : okLW (227, 1746, 1745, 96, 125) = true := by decide +kernel
theorem lw_228 : okLW (228, 1739, 1737, 1738, 125) = true := by decide +kernel
theorem lw_229 : okLW (229, 1754, 1752, 1753, 125) = true := by decide +kernel
theorem lw_230 : okLW (230, 1762, 1761, 98, 125) = true := by decide +kernel
theorem lw_231 : okLW (231, 1758, 1756, 1757, 125) = true := by decide +kernel
theorem lw_232 : okLW (232, 1766, 1764, 1765, 125) = true := by decide +kernel
theorem lw_233 : okLW (233, 1773, 1771, 1772, 125) = true := by decide +kernel
theorem lw_234 : okLW (234, 1785, 1784, 100, 125) = true := by decide +kernel
theorem lw_235 : okLW (235, 1781, 1779, 1780, 125) = true := by decide +kernel
theorem lw_236 : okLW (236, 1789, 1787, 1788, 125) = true := by decide +kernel
theorem lw_237 : okLW (237, 1802, 1801, 102, 125) = true := by decide +kernel
theorem lw_238 : okLW (238, 1798, 1797, 101, 125) = true := by decide +kernel
theorem lw_239 : okLW (239, 1794, 1792, 1793, 125) = true := by decide +kernel
theorem lw_240 : okLW (240, 1806, 1804, 1805, 125) = true := by decide +kernel
theorem lw_241 : okLW (241, 1810, 1808, 1809, 125) = true := by decide +kernel
theorem lw_242 : okLW (242, 1707, 1706, 90, 125) = true := by decide +kernel
theorem lw_243 : okLW (243, 1699, 1698, 88, 125) = true := by decide +kernel
theorem lw_244 : okLW (244, 1703, 1702, 89, 125) = true := by decide +kernel
theorem lw_245 : okLW (245, 1715, 1714, 92, 125) = true := by decide +kernel
theorem lw_246 : okLW (246, 1711, 1710, 91, 125) = true := by decide +kernel
theorem lw_247 : okLW (247, 1695, 1694, 87, 125) = true := by decide +kernel
theorem lw_248 : okLW (248, 1818, 1817, 103, 125) = true := by decide +kernel
theorem lw_249 : okLW (249, 1814, 1812, 1813, 125) = true := by decide +kernel
theorem lw_250 : okLW (250, 1822, 1820, 1821, 125) = true := by decide +kernel
theorem lw_251 : okLW (251, 1826, 1824, 1825, 125) = true := by decide +kernel
theorem lw_252 : okLW (252, 1834, 1833, 104, 125) = true := by decide +kernel
theorem lw_253 : okLW (253, 1830, 1828, 1829, 125) = true := by decide +kernel
theorem lw_254 : okLW (254, 1838, 1836, 1837, 125) = true := by decide +kernel
theorem lw_255 : okLW (255, 1842, 1840, 1841, 125) = true := by decide +kernel
theorem lw_256 : okLW (256, 1850, 1849, 105, 125) = true := by decide +kernel
theorem lw_257 : okLW (257, 1853, 1852, 0, 125) = true := by decide +kernel
theorem lw_258 : okLW (258, 1846, 1844, 1845, 125) = true := by decide +kernel
theorem lw_259 : okLW (259, 1585, 1584, 69, 125) = true := by decide +kernel
theorem lw_260 : okLW (260, 1873, 1872, 109, 125) = true := by decide +kernel
theorem lw_261 : okLW (261, 1869, 1868, 108, 125) = true := by decide +kernel
theorem lw_262 : okLW (262, 1861, 1860, 106, 125) = true := by decide +kernel
theorem lw_263 : okLW (263, 1881, 1880, 111, 125) = true := by decide +kernel
theorem lw_264 : okLW (264, 1885, 1884, 112, 125) = true := by decide +kernel
theorem lw_265 : okLW (265, 1877, 1876, 110, 125) = true := by decide +kernel
theorem lw_266 : okLW (266, 1865, 1864, 107, 125) = true := by decide +kernel
theorem lw_267 : okLW (267, 1857, 1855, 1856, 125) = true := by decide +kernel
theorem lw_268 : okLW (268, 1889, 1887, 1888, 125) = true := by decide +kernel
theorem lw_269 : okLW (269, 1893, 1891, 1892, 125) = true := by decide +kernel
theorem lw_270 : okLW (270, 1897, 1895, 1896, 125) = true := by decide +kernel
theorem lw_271 : okLW (271, 1901, 1899, 1900, 125) = true := by decide +kernel
theorem lw_272 : okLW (272, 1905, 1903, 1904, 125) = true := by decide +kernel
theorem lw_273 : okLW (273, 1909, 1907, 1908, 125) = true := by decide +kernel
theorem lw_274 : okLW (274, 1921, 1920, 114, 125) = true := by decide +kernel
theorem lw_275 : okLW (275, 1917, 1916, 113, 125) = true := by decide +kernel
theorem lw_276 : okLW (276, 1913, 1911, 1912, 125) = true := by decide +kernel
theorem lw_277 : okLW (277, 1925, 1923, 1924, 125) = true := by decide +kernel
theorem lw_278 : okLW (278, 1352, 1351, 0, 138) = true := by decide +kernel
theorem lw_279 : okLW (279, 804, 803, 0, 115) = true := by decide +kernel
theorem lw_280 : okLW (280, 909, 908, 0, 115) = true := by decide +kernel
theorem lw_281 : okLW (281, 1069, 1068, 0, 115) = true := by decide +kernel
theorem lw_282 : okLW (282, 1082, 1081, 0, 115) = true := by decide +kernel
theorem lw_283 : okLW (283, 1090, 1089, 0, 115) = true := by decide +kernel
theorem lw_284 : okLW (284, 1102, 1101, 0, 115) = true := by decide +kernel
theorem lw_285 : okLW (285, 1117, 1116, 0, 115) = true := by decide +kernel
theorem lw_286 : okLW (286, 1137, 1136, 0, 115) = true := by decide +kernel
theorem lw_287 : okLW (287, 1149, 1148, 0, 115) = true := by decide +kernel
theorem lw_288 : okLW (288, 1161, 1160, 0, 115) = true := by decide +kernel
theorem lw_289 : okLW (289, 1177, 1176, 0, 115) = true := by decide +kernel
theorem lw_290 : okLW (290, 1189, 1188, 0, 115) = true := by decide +kernel
theorem lw_291 : okLW (291, 1196, 1195, 0, 115) = true := by decide +kernel
theorem lw_292 : okLW (292, 1203, 1202, 0, 115) = true := by decide +kernel
theorem lw_293 : okLW (293, 1237, 1236, 0, 115) = true := by decide +kernel
theorem lw_294 : okLW (294, 1248, 1247, 0, 115) = true := by decide +kernel
theorem lw_295 : okLW (295, 1260, 1259, 0, 115) = true := by decide +kernel
theorem lw_296 : okLW (296, 1268, 1267, 0, 115) = true := by decide +kernel
theorem lw_297 : okLW (297, 1285, 1284, 0, 115) = true := by decide +kernel
theorem lw_298 : okLW (298, 1292, 1291, 0, 115) = true := by decide +kernel
theorem lw_299 : okLW (299, 1299, 1298, 0, 115) = true := by decide +kernel
theorem lw_300 : okLW (300, 1312, 1311, 0, 115) = true := by decide +kernel
theorem lw_301 : okLW (301, 1324, 1323, 0, 115) = true := by decide +kernel
theorem lw_302 : okLW (302, 1331, 1330, 0, 115) = true := by decide +kernel
theorem lw_303 : okLW (303, 1361, 1360, 0, 115) = true := by decide +kernel
theorem lw_304 : okLW (304, 1369, 1368, 0, 115) = true := by decide +kernel
def LW_0 : List (Nat × (Nat × (Nat × (Nat × Nat)))) := [(0, 885, 883, 884, 117), (1, 905, 903, 904, 117), (2, 1015, 1013, 1014, 117), (3, 958, 956, 957, 117), (4, 967, 966, 38, 117), (5, 979, 978, 41, 117), (6, 991, 990, 44, 117), (7, 1003, 1002, 45, 117), (8, 1011, 1010, 47, 117), (9, 971, 970, 39, 117), (10, 1007, 1006, 46, 117), (11, 983, 982, 42, 117), (12, 987, 986, 43, 117), (13, 975, 974, 40, 117), (14, 425, 423, 424, 121), (15, 441, 440, 2, 121), (16, 464, 463, 3, 121), (17, 467, 466, 0, 121), (18, 429, 428, 0, 121), (19, 433, 432, 1, 121)]
theorem LW_r0 : ∀ e ∈ LW_0, okLW e = true := List.forall_mem_cons.mpr ⟨lw_0, List.forall_mem_cons.mpr ⟨lw_1, List.forall_mem_cons.mpr ⟨lw_2, List.forall_mem_cons.mpr ⟨lw_3, List.forall_mem_cons.mpr ⟨lw_4, List.forall_mem_cons.mpr ⟨lw_5, List.forall_mem_cons.mpr ⟨lw_6, List.forall_mem_cons.mpr ⟨lw_7, List.forall_mem_cons.mpr ⟨lw_8, List.forall_mem_cons.mpr ⟨lw_9, List.forall_mem_cons.mpr ⟨lw_10, List.forall_mem_cons.mpr ⟨lw_11, List.forall_mem_cons.mpr ⟨lw_12, List.forall_mem_cons.mpr ⟨lw_13, List.forall_mem_cons.mpr ⟨lw_14, List.forall_mem_cons.mpr ⟨lw_15, List.forall_mem_cons.mpr ⟨lw_16, List.forall_mem_cons.mpr ⟨lw_17, List.forall_mem_cons.mpr ⟨lw_18, List.forall_mem_cons.mpr ⟨lw_19, fun _ h => absurd h List.not_mem_nil⟩⟩⟩⟩⟩⟩⟩⟩⟩⟩⟩⟩⟩⟩⟩⟩⟩⟩⟩⟩
def LW_1 : List (Nat × (Nat × (Nat × (Nat × Nat)))) := [(20, 471, 470, 4, 121), (21, 475, 474, 5, 121), (22, 501, 499, 500, 121), (23, 1114, 1112, 1113, 121), (24, 1134, 1132, 1133, 121), (25, 490, 488, 489, 121), (26, 583, 582, 17, 121), (27, 1130, 1128, 1129, 121), (28, 1146, 1144, 1145, 121), (29, 579, 577, 578, 121), (30, 963, 961, 962, 118), (31, 995, 993, 994, 118), (32, 1024, 1022, 1023, 118), (33, 1028, 1026, 1027, 118), (34, 1042, 1040, 1041, 118), (35, 1051, 1049, 1050, 118), (36, 603, 601, 602, 123), (37, 1281, 1279, 1280, 123), (38, 612, 610, 611, 123), (39, 617, 615, 616, 123)]
theorem LW_r1 : ∀ e ∈ LW_1, okLW e = true := List.forall_mem_cons.mpr ⟨lw_20, List.forall_mem_cons.mpr ⟨lw_21, List.forall_mem_cons.mpr ⟨lw_22, List.forall_mem_cons.mpr ⟨lw_23, List.forall_mem_cons.mpr ⟨lw_24, List.forall_mem_cons.mpr ⟨lw_25, List.forall_mem_cons.mpr ⟨lw_26, List.forall_mem_cons.mpr ⟨lw_27, List.forall_mem_cons.mpr ⟨lw_28, List.forall_mem_cons.mpr ⟨lw_29, List.forall_mem_cons.mpr ⟨lw_30, List.forall_mem_cons.mpr ⟨lw_31, List.forall_mem_cons.mpr ⟨lw_32, List.forall_mem_cons.mpr ⟨lw_33, List.forall_mem_cons.mpr ⟨lw_34, List.forall_mem_cons.mpr ⟨lw_35, List.forall_mem_cons.mpr ⟨lw_36, List.forall_mem_cons.mpr ⟨lw_37, List.forall_mem_cons.mpr ⟨lw_38, List.forall_mem_cons.mpr ⟨lw_39, fun _ h => absurd h List.not_mem_nil⟩⟩⟩⟩⟩⟩⟩⟩⟩⟩⟩⟩⟩⟩⟩⟩⟩⟩⟩⟩
def LW_2 : List (Nat × (Nat × (Nat × (Nat × Nat)))) := [(40, 621, 619, 620, 123), (41, 1060, 1058, 1059, 120), (42, 421, 419, 420, 120), (43, 479, 478, 6, 120), (44, 486, 485, 7, 120), (45, 507, 506, 8, 120), (46, 517, 516, 0, 120), (47, 549, 548, 11, 120), (48, 565, 564, 15, 120), (49, 553, 552, 12, 120), (50, 573, 572, 16, 120), (51, 530, 529, 9, 120), (52, 561, 560, 14, 120), (53, 534, 533, 10, 120), (54, 557, 556, 13, 120), (55, 1110, 1108, 1109, 120), (56, 591, 589, 590, 120), (57, 640, 638, 639, 120), (58, 608, 606, 607, 120), (59, 1172, 1170, 1171, 120)]
theorem LW_r2 : ∀ e ∈ LW_2, okLW e = true := List.forall_mem_cons.mpr ⟨lw_40, List.forall_mem_cons.mpr ⟨lw_41, List.forall_mem_cons.mpr ⟨lw_42, List.forall_mem_cons.mpr ⟨lw_43, List.forall_mem_cons.mpr ⟨lw_44, List.forall_mem_cons.mpr ⟨lw_45, List.forall_mem_cons.mpr ⟨lw_46, List.forall_mem_cons.mpr ⟨lw_47, List.forall_mem_cons.mpr ⟨lw_48, List.forall_mem_cons.mpr ⟨lw_49, List.forall_mem_cons.mpr ⟨lw_50, List.forall_mem_cons.mpr ⟨lw_51, List.forall_mem_cons.mpr ⟨lw_52, List.forall_mem_cons.mpr ⟨lw_53, List.forall_mem_cons.mpr ⟨lw_54, List.forall_mem_cons.mpr ⟨lw_55, List.forall_mem_cons.mpr ⟨lw_56, List.forall_mem_cons.mpr ⟨lw_57, List.forall_mem_cons.mpr ⟨lw_58, List.forall_mem_cons.mpr ⟨lw_59, fun _ h => absurd h List.not_mem_nil⟩⟩⟩⟩⟩⟩⟩⟩⟩⟩⟩⟩⟩⟩⟩⟩⟩⟩⟩⟩
def LW_3 : List (Nat × (Nat × (Nat × (Nat × Nat)))) := [(60, 1234, 1232, 1233, 120), (61, 1245, 1243, 1244, 120), (62, 707, 705, 706, 124), (63, 703, 701, 702, 124), (64, 712, 711, 24, 124), (65, 717, 716, 25, 124), (66, 764, 763, 34, 124), (67, 725, 724, 26, 124), (68, 745, 744, 30, 124), (69, 749, 748, 31, 124), (70, 756, 755, 32, 124), (71, 760, 759, 33, 124), (72, 730, 729, 27, 124), (73, 741, 740, 29, 124), (74, 736, 735, 28, 124), (75, 769, 767, 768, 124), (76, 777, 775, 776, 124), (77, 785, 783, 784, 124), (78, 1320, 1318, 1319, 124), (79, 417, 415, 416, 119)]
theorem LW_r3 : ∀ e ∈ LW_3, okLW e = true := List.forall_mem_cons.mpr ⟨lw_60, List.forall_mem_cons.mpr ⟨lw_61, List.forall_mem_cons.mpr ⟨lw_62, List.forall_mem_cons.mpr ⟨lw_63, List.forall_mem_cons.mpr ⟨lw_64, List.forall_mem_cons.mpr ⟨lw_65, List.forall_mem_cons.mpr ⟨lw_66, List.forall_mem_cons.mpr ⟨lw_67, List.forall_mem_cons.mpr ⟨lw_68, List.forall_mem_cons.mpr ⟨lw_69, List.forall_mem_cons.mpr ⟨lw_70, List.forall_mem_cons.mpr ⟨lw_71, List.forall_mem_cons.mpr ⟨lw_72, List.forall_mem_cons.mpr ⟨lw_73, List.forall_mem_cons.mpr ⟨lw_74, List.forall_mem_cons.mpr ⟨lw_75, List.forall_mem_cons.mpr ⟨lw_76, List.forall_mem_cons.mpr ⟨lw_77, List.forall_mem_cons.mpr ⟨lw_78, List.forall_mem_cons.mpr ⟨lw_79, fun _ h => absurd h List.not_mem_nil⟩⟩⟩⟩⟩⟩⟩⟩⟩⟩⟩⟩⟩⟩⟩⟩⟩⟩⟩⟩
def LW_4 : List (Nat × (Nat × (Nat × (Nat × Nat)))) := [(80, 1099, 1097, 1098, 119), (81, 1020, 1018, 1019, 119), (82, 1032, 1031, 48, 119), (83, 1047, 1045, 1046, 119), (84, 793, 791, 792, 119), (85, 800, 799, 35, 119), (86, 394, 392, 393, 119), (87, 409, 407, 408, 119), (88, 398, 396, 397, 119), (89, 446, 444, 445, 119), (90, 450, 448, 449, 119), (91, 511, 509, 510, 119), (92, 521, 519, 520, 119), (93, 457, 455, 456, 119), (94, 1038, 1036, 1037, 119), (95, 569, 567, 568, 119), (96, 401, 400, 0, 131), (97, 537, 536, 0, 131), (98, 437, 436, 0, 131), (99, 541, 540, 0, 131)]
theorem LW_r4 : ∀ e ∈ LW_4, okLW e = true := List.forall_mem_cons.mpr ⟨lw_80, List.forall_mem_cons.mpr ⟨lw_81, List.forall_mem_cons.mpr ⟨lw_82, List.forall_mem_cons.mpr ⟨lw_83, List.forall_mem_cons.mpr ⟨lw_84, List.forall_mem_cons.mpr ⟨lw_85, List.forall_mem_cons.mpr ⟨lw_86, List.forall_mem_cons.mpr ⟨lw_87, List.forall_mem_cons.mpr ⟨lw_88, List.forall_mem_cons.mpr ⟨lw_89, List.forall_mem_cons.mpr ⟨lw_90, List.forall_mem_cons.mpr ⟨lw_91, List.forall_mem_cons.mpr ⟨lw_92, List.forall_mem_cons.mpr ⟨lw_93, List.forall_mem_cons.mpr ⟨lw_94, List.forall_mem_cons.mpr ⟨lw_95, List.forall_mem_cons.mpr ⟨lw_96, List.forall_mem_cons.mpr ⟨lw_97, List.forall_mem_cons.mpr ⟨lw_98, List.forall_mem_cons.mpr ⟨lw_99, fun _ h => absurd h List.not_mem_nil⟩⟩⟩⟩⟩⟩⟩⟩⟩⟩⟩⟩⟩⟩⟩⟩⟩⟩⟩⟩
def LW_5 : List (Nat × (Nat × (Nat × (Nat × Nat)))) := [(100, 482, 481, 0, 131), (101, 796, 795, 0, 131), (102, 497, 496, 0, 131), (103, 998, 997, 0, 135), (104, 453, 452, 0, 135), (105, 514, 513, 0, 135), (106, 524, 523, 0, 135), (107, 460, 459, 0, 135), (108, 1064, 1062, 1063, 122), (109, 648, 646, 647, 122), (110, 652, 651, 19, 122), (111, 656, 655, 0, 122), (112, 659, 658, 0, 122), (113, 681, 680, 0, 122), (114, 664, 663, 20, 122), (115, 672, 671, 21, 122), (116, 676, 675, 22, 122), (117, 695, 693, 694, 122), (118, 1256, 1254, 1255, 122), (119, 687, 685, 686, 122)]
theorem LW_r5 : ∀ e ∈ LW_5, okLW e = true := List.forall_mem_cons.mpr ⟨lw_100, List.forall_mem_cons.mpr ⟨lw_101, List.forall_mem_cons.mpr ⟨lw_102, List.forall_mem_cons.mpr ⟨lw_103, List.forall_mem_cons.mpr ⟨lw_104, List.forall_mem_cons.mpr ⟨lw_105, List.forall_mem_cons.mpr ⟨lw_106, List.forall_mem_cons.mpr ⟨lw_107, List.forall_mem_cons.mpr ⟨lw_108, List.forall_mem_cons.mpr ⟨lw_109, List.forall_mem_cons.mpr ⟨lw_110, List.forall_mem_cons.mpr ⟨lw_111, List.forall_mem_cons.mpr ⟨lw_112, List.forall_mem_cons.mpr ⟨lw_113, List.forall_mem_cons.mpr ⟨lw_114, List.forall_mem_cons.mpr ⟨lw_115, List.forall_mem_cons.mpr ⟨lw_116, List.forall_mem_cons.mpr ⟨lw_117, List.forall_mem_cons.mpr ⟨lw_118, List.forall_mem_cons.mpr ⟨lw_119, fun _ h => absurd h List.not_mem_nil⟩⟩⟩⟩⟩⟩⟩⟩⟩⟩⟩⟩⟩⟩⟩⟩⟩⟩⟩⟩
def LW_6 : List (Nat × (Nat × (Nat × (Nat × Nat)))) := [(120, 691, 690, 23, 122), (121, 810, 808, 809, 116), (122, 937, 935, 936, 116), (123, 386, 384, 385, 116), (124, 390, 388, 389, 116), (125, 1073, 1071, 1072, 116), (126, 1086, 1084, 1085, 116), (127, 405, 403, 404, 116), (128, 1094, 1092, 1093, 116), (129, 1106, 1104, 1105, 116), (130, 1121, 1119, 1120, 116), (131, 1141, 1139, 1140, 116), (132, 1153, 1151, 1152, 116), (133, 1165, 1163, 1164, 116), (134, 1181, 1179, 1180, 116), (135, 413, 411, 412, 116), (136, 1193, 1191, 1192, 116), (137, 1200, 1198, 1199, 116), (138, 595, 593, 594, 116), (139, 1208, 1206, 1207, 116)]
theorem LW_r6 : ∀ e ∈ LW_6, okLW e = true := List.forall_mem_cons.mpr ⟨lw_120, List.forall_mem_cons.mpr ⟨lw_121, List.forall_mem_cons.mpr ⟨lw_122, List.forall_mem_cons.mpr ⟨lw_123, List.forall_mem_cons.mpr ⟨lw_124, List.forall_mem_cons.mpr ⟨lw_125, List.forall_mem_cons.mpr ⟨lw_126, List.forall_mem_cons.mpr ⟨lw_127, List.forall_mem_cons.mpr ⟨lw_128, List.forall_mem_cons.mpr ⟨lw_129, List.forall_mem_cons.mpr ⟨lw_130, List.forall_mem_cons.mpr ⟨lw_131, List.forall_mem_cons.mpr ⟨lw_132, List.forall_mem_cons.mpr ⟨lw_133, List.forall_mem_cons.mpr ⟨lw_134, List.forall_mem_cons.mpr ⟨lw_135, List.forall_mem_cons.mpr ⟨lw_136, List.forall_mem_cons.mpr ⟨lw_137, List.forall_mem_cons.mpr ⟨lw_138, List.forall_mem_cons.mpr ⟨lw_139, fun _ h => absurd h List.not_mem_nil⟩⟩⟩⟩⟩⟩⟩⟩⟩⟩⟩⟩⟩⟩⟩⟩⟩⟩⟩⟩
def LW_7 : List (Nat × (Nat × (Nat × (Nat × Nat)))) := [(140, 1241, 1239, 1240, 116), (141, 636, 634, 635, 116), (142, 1252, 1250, 1251, 116), (143, 1264, 1262, 1263, 116), (144, 644, 642, 643, 116), (145, 1272, 1270, 1271, 116), (146, 1289, 1287, 1288, 116), (147, 1296, 1294, 1295, 116), (148, 1303, 1301, 1302, 116), (149, 699, 697, 698, 116), (150, 1316, 1314, 1315, 116), (151, 1328, 1326, 1327, 116), (152, 773, 771, 772, 116), (153, 781, 779, 780, 116), (154, 1349, 1347, 1348, 116), (155, 1365, 1363, 1364, 116), (156, 789, 787, 788, 116), (157, 1373, 1371, 1372, 116), (158, 1056, 1055, 49, 116), (159, 599, 598, 18, 116)]
theorem LW_r7 : ∀ e ∈ LW_7, okLW e = true := List.forall_mem_cons.mpr ⟨lw_140, List.forall_mem_cons.mpr ⟨lw_141, List.forall_mem_cons.mpr ⟨lw_142, List.forall_mem_cons.mpr ⟨lw_143, List.forall_mem_cons.mpr ⟨lw_144, List.forall_mem_cons.mpr ⟨lw_145, List.forall_mem_cons.mpr ⟨lw_146, List.forall_mem_cons.mpr ⟨lw_147, List.forall_mem_cons.mpr ⟨lw_148, List.forall_mem_cons.mpr ⟨lw_149, List.forall_mem_cons.mpr ⟨lw_150, List.forall_mem_cons.mpr ⟨lw_151, List.forall_mem_cons.mpr ⟨lw_152, List.forall_mem_cons.mpr ⟨lw_153, List.forall_mem_cons.mpr ⟨lw_154, List.forall_mem_cons.mpr ⟨lw_155, List.forall_mem_cons.mpr ⟨lw_156, List.forall_mem_cons.mpr ⟨lw_157, List.forall_mem_cons.mpr ⟨lw_158, List.forall_mem_cons.mpr ⟨lw_159, fun _ h => absurd h List.not_mem_nil⟩⟩⟩⟩⟩⟩⟩⟩⟩⟩⟩⟩⟩⟩⟩⟩⟩⟩⟩⟩
def LW_8 : List (Nat × (Nat × (Nat × (Nat × Nat)))) := [(160, 1276, 1275, 55, 116), (161, 1307, 1306, 56, 116), (162, 941, 940, 37, 116), (163, 1125, 1124, 51, 116), (164, 1077, 1076, 50, 116), (165, 1157, 1156, 52, 116), (166, 1185, 1184, 53, 116), (167, 1212, 1211, 54, 116), (168, 493, 492, 0, 116), (169, 586, 585, 0, 116), (170, 1168, 1167, 0, 116), (171, 632, 631, 0, 116), (172, 628, 627, 0, 116), (173, 545, 544, 0, 116), (174, 1519, 1517, 1518, 125), (175, 1530, 1529, 57, 125), (176, 1777, 1776, 99, 125), (177, 1526, 1525, 0, 125), (178, 1769, 1768, 0, 125), (179, 1537, 1536, 0, 125)]
theorem LW_r8 : ∀ e ∈ LW_8, okLW e = true := List.forall_mem_cons.mpr ⟨lw_160, List.forall_mem_cons.mpr ⟨lw_161, List.forall_mem_cons.mpr ⟨lw_162, List.forall_mem_cons.mpr ⟨lw_163, List.forall_mem_cons.mpr ⟨lw_164, List.forall_mem_cons.mpr ⟨lw_165, List.forall_mem_cons.mpr ⟨lw_166, List.forall_mem_cons.mpr ⟨lw_167, List.forall_mem_cons.mpr ⟨lw_168, List.forall_mem_cons.mpr ⟨lw_169, List.forall_mem_cons.mpr ⟨lw_170, List.forall_mem_cons.mpr ⟨lw_171, List.forall_mem_cons.mpr ⟨lw_172, List.forall_mem_cons.mpr ⟨lw_173, List.forall_mem_cons.mpr ⟨lw_174, List.forall_mem_cons.mpr ⟨lw_175, List.forall_mem_cons.mpr ⟨lw_176, List.forall_mem_cons.mpr ⟨lw_177, List.forall_mem_cons.mpr ⟨lw_178, List.forall_mem_cons.mpr ⟨lw_179, fun _ h => absurd h List.not_mem_nil⟩⟩⟩⟩⟩⟩⟩⟩⟩⟩⟩⟩⟩⟩⟩⟩⟩⟩⟩⟩
def LW_9 : List (Nat × (Nat × (Nat × (Nat × Nat)))) := [(180, 1742, 1741, 0, 125), (181, 1597, 1596, 70, 125), (182, 1609, 1608, 72, 125), (183, 1649, 1648, 78, 125), (184, 1577, 1576, 67, 125), (185, 1683, 1682, 84, 125), (186, 1523, 1521, 1522, 125), (187, 1553, 1552, 61, 125), (188, 1549, 1548, 60, 125), (189, 1561, 1560, 63, 125), (190, 1573, 1572, 66, 125), (191, 1565, 1564, 64, 125), (192, 1557, 1556, 62, 125), (193, 1569, 1568, 65, 125), (194, 1545, 1544, 59, 125), (195, 1541, 1540, 58, 125), (196, 1581, 1580, 68, 125), (197, 1534, 1532, 1533, 125), (198, 1589, 1587, 1588, 125), (199, 1593, 1591, 1592, 125)]
theorem LW_r9 : ∀ e ∈ LW_9, okLW e = true := List.forall_mem_cons.mpr ⟨lw_180, List.forall_mem_cons.mpr ⟨lw_181, List.forall_mem_cons.mpr ⟨lw_182, List.forall_mem_cons.mpr ⟨lw_183, List.forall_mem_cons.mpr ⟨lw_184, List.forall_mem_cons.mpr ⟨lw_185, List.forall_mem_cons.mpr ⟨lw_186, List.forall_mem_cons.mpr ⟨lw_187, List.forall_mem_cons.mpr ⟨lw_188, List.forall_mem_cons.mpr ⟨lw_189, List.forall_mem_cons.mpr ⟨lw_190, List.forall_mem_cons.mpr ⟨lw_191, List.forall_mem_cons.mpr ⟨lw_192, List.forall_mem_cons.mpr ⟨lw_193, List.forall_mem_cons.mpr ⟨lw_194, List.forall_mem_cons.mpr ⟨lw_195, List.forall_mem_cons.mpr ⟨lw_196, List.forall_mem_cons.mpr ⟨lw_197, List.forall_mem_cons.mpr ⟨lw_198, List.forall_mem_cons.mpr ⟨lw_199, fun _ h => absurd h List.not_mem_nil⟩⟩⟩⟩⟩⟩⟩⟩⟩⟩⟩⟩⟩⟩⟩⟩⟩⟩⟩⟩
def LW_10 : List (Nat × (Nat × (Nat × (Nat × Nat)))) := [(200, 1605, 1604, 71, 125), (201, 1601, 1599, 1600, 125), (202, 1613, 1611, 1612, 125), (203, 1621, 1620, 73, 125), (204, 1617, 1615, 1616, 125), (205, 1625, 1623, 1624, 125), (206, 1656, 1655, 79, 125), (207, 1652, 1651, 0, 125), (208, 1645, 1644, 77, 125), (209, 1641, 1640, 76, 125), (210, 1674, 1673, 0, 125), (211, 1667, 1666, 0, 125), (212, 1691, 1690, 86, 125), (213, 1671, 1670, 82, 125), (214, 1678, 1677, 83, 125), (215, 1664, 1663, 81, 125), (216, 1660, 1659, 80, 125), (217, 1687, 1686, 85, 125), (218, 1637, 1636, 75, 125), (219, 1633, 1632, 74, 125)]
theorem LW_r10 : ∀ e ∈ LW_10, okLW e = true := List.forall_mem_cons.mpr ⟨lw_200, List.forall_mem_cons.mpr ⟨lw_201, List.forall_mem_cons.mpr ⟨lw_202, List.forall_mem_cons.mpr ⟨lw_203, List.forall_mem_cons.mpr ⟨lw_204, List.forall_mem_cons.mpr ⟨lw_205, List.forall_mem_cons.mpr ⟨lw_206, List.forall_mem_cons.mpr ⟨lw_207, List.forall_mem_cons.mpr ⟨lw_208, List.forall_mem_cons.mpr ⟨lw_209, List.forall_mem_cons.mpr ⟨lw_210, List.forall_mem_cons.mpr ⟨lw_211, List.forall_mem_cons.mpr ⟨lw_212, List.forall_mem_cons.mpr ⟨lw_213, List.forall_mem_cons.mpr ⟨lw_214, List.forall_mem_cons.mpr ⟨lw_215, List.forall_mem_cons.mpr ⟨lw_216, List.forall_mem_cons.mpr ⟨lw_217, List.forall_mem_cons.mpr ⟨lw_218, List.forall_mem_cons.mpr ⟨lw_219, fun _ h => absurd h List.not_mem_nil⟩⟩⟩⟩⟩⟩⟩⟩⟩⟩⟩⟩⟩⟩⟩⟩⟩⟩⟩⟩
def LW_11 : List (Nat × (Nat × (Nat × (Nat × Nat)))) := [(220, 1731, 1730, 95, 125), (221, 1719, 1718, 93, 125), (222, 1629, 1627, 1628, 125), (223, 1727, 1726, 94, 125), (224, 1723, 1721, 1722, 125), (225, 1735, 1733, 1734, 125), (226, 1750, 1749, 97, 125), (227, 1746, 1745, 96, 125), (228, 1739, 1737, 1738, 125), (229, 1754, 1752, 1753, 125), (230, 1762, 1761, 98, 125), (231, 1758, 1756, 1757, 125), (232, 1766, 1764, 1765, 125), (233, 1773, 1771, 1772, 125), (234, 1785, 1784, 100, 125), (235, 1781, 1779, 1780, 125), (236, 1789, 1787, 1788, 125), (237, 1802, 1801, 102, 125), (238, 1798, 1797, 101, 125), (239, 1794, 1792, 1793, 125)]
theorem LW_r11 : ∀ e ∈ LW_11, okLW e = true := List.forall_mem_cons.mpr ⟨lw_220, List.forall_mem_cons.mpr ⟨lw_221, List.forall_mem_cons.mpr ⟨lw_222, List.forall_mem_cons.mpr ⟨lw_223, List.forall_mem_cons.mpr ⟨lw_224, List.forall_mem_cons.mpr ⟨lw_225, List.forall_mem_cons.mpr ⟨lw_226, List.forall_mem_cons.mpr ⟨lw_227, List.forall_mem_cons.mpr ⟨lw_228, List.forall_mem_cons.mpr ⟨lw_229, List.forall_mem_cons.mpr ⟨lw_230, List.forall_mem_cons.mpr ⟨lw_231, List.forall_mem_cons.mpr ⟨lw_232, List.forall_mem_cons.mpr ⟨lw_233, List.forall_mem_cons.mpr ⟨lw_234, List.forall_mem_cons.mpr ⟨lw_235, List.forall_mem_cons.mpr ⟨lw_236, List.forall_mem_cons.mpr ⟨lw_237, List.forall_mem_cons.mpr ⟨lw_238, List.forall_mem_cons.mpr ⟨lw_239, fun _ h => absurd h List.not_mem_nil⟩⟩⟩⟩⟩⟩⟩⟩⟩⟩⟩⟩⟩⟩⟩⟩⟩⟩⟩⟩
def LW_12 : List (Nat × (Nat × (Nat × (Nat × Nat)))) := [(240, 1806, 1804, 1805, 125), (241, 1810, 1808, 1809, 125), (242, 1707, 1706, 90, 125), (243, 1699, 1698, 88, 125), (244, 1703, 1702, 89, 125), (245, 1715, 1714, 92, 125), (246, 1711, 1710, 91, 125), (247, 1695, 1694, 87, 125), (248, 1818, 1817, 103, 125), (249, 1814, 1812, 1813, 125), (250, 1822, 1820, 1821, 125), (251, 1826, 1824, 1825, 125), (252, 1834, 1833, 104, 125), (253, 1830, 1828, 1829, 125), (254, 1838, 1836, 1837, 125), (255, 1842, 1840, 1841, 125), (256, 1850, 1849, 105, 125), (257, 1853, 1852, 0, 125), (258, 1846, 1844, 1845, 125), (259, 1585, 1584, 69, 125)]
theorem LW_r12 : ∀ e ∈ LW_12, okLW e = true := List.forall_mem_cons.mpr ⟨lw_240, List.forall_mem_cons.mpr ⟨lw_241, List.forall_mem_cons.mpr ⟨lw_242, List.forall_mem_cons.mpr ⟨lw_243, List.forall_mem_cons.mpr ⟨lw_244, List.forall_mem_cons.mpr ⟨lw_245, List.forall_mem_cons.mpr ⟨lw_246, List.forall_mem_cons.mpr ⟨lw_247, List.forall_mem_cons.mpr ⟨lw_248, List.forall_mem_cons.mpr ⟨lw_249, List.forall_mem_cons.mpr ⟨lw_250, List.forall_mem_cons.mpr ⟨lw_251, List.forall_mem_cons.mpr ⟨lw_252, List.forall_mem_cons.mpr ⟨lw_253, List.forall_mem_cons.mpr ⟨lw_254, List.forall_mem_cons.mpr ⟨lw_255, List.forall_mem_cons.mpr ⟨lw_256, List.forall_mem_cons.mpr ⟨lw_257, List.forall_mem_cons.mpr ⟨lw_258, List.forall_mem_cons.mpr ⟨lw_259, fun _ h => absurd h List.not_mem_nil⟩⟩⟩⟩⟩⟩⟩⟩⟩⟩⟩⟩⟩⟩⟩⟩⟩⟩⟩⟩
def LW_13 : List (Nat × (Nat × (Nat × (Nat × Nat)))) := [(260, 1873, 1872, 109, 125), (261, 1869, 1868, 108, 125), (262, 1861, 1860, 106, 125), (263, 1881, 1880, 111, 125), (264, 1885, 1884, 112, 125), (265, 1877, 1876, 110, 125), (266, 1865, 1864, 107, 125), (267, 1857, 1855, 1856, 125), (268, 1889, 1887, 1888, 125), (269, 1893, 1891, 1892, 125), (270, 1897, 1895, 1896, 125), (271, 1901, 1899, 1900, 125), (272, 1905, 1903, 1904, 125), (273, 1909, 1907, 1908, 125), (274, 1921, 1920, 114, 125), (275, 1917, 1916, 113, 125), (276, 1913, 1911, 1912, 125), (277, 1925, 1923, 1924, 125), (278, 1352, 1351, 0, 138), (279, 804, 803, 0, 115)]
theorem LW_r13 : ∀ e ∈ LW_13, okLW e = true := List.forall_mem_cons.mpr ⟨lw_260, List.forall_mem_cons.mpr ⟨lw_261, List.forall_mem_cons.mpr ⟨lw_262, List.forall_mem_cons.mpr ⟨lw_263, List.forall_mem_cons.mpr ⟨lw_264, List.forall_mem_cons.mpr ⟨lw_265, List.forall_mem_cons.mpr ⟨lw_266, List.forall_mem_cons.mpr ⟨lw_267, List.forall_mem_cons.mpr ⟨lw_268, List.forall_mem_cons.mpr ⟨lw_269, List.forall_mem_cons.mpr ⟨lw_270, List.forall_mem_cons.mpr ⟨lw_271, List.forall_mem_cons.mpr ⟨lw_272, List.forall_mem_cons.mpr ⟨lw_273, List.forall_mem_cons.mpr ⟨lw_274, List.forall_mem_cons.mpr ⟨lw_275, List.forall_mem_cons.mpr ⟨lw_276, List.forall_mem_cons.mpr ⟨lw_277, List.forall_mem_cons.mpr ⟨lw_278, List.forall_mem_cons.mpr ⟨lw_279, fun _ h => absurd h List.not_mem_nil⟩⟩⟩⟩⟩⟩⟩⟩⟩⟩⟩⟩⟩⟩⟩⟩⟩⟩⟩⟩
def LW_14 : List (Nat × (Nat × (Nat × (Nat × Nat)))) := [(280, 909, 908, 0, 115), (281, 1069, 1068, 0, 115), (282, 1082, 1081, 0, 115), (283, 1090, 1089, 0, 115), (284, 1102, 1101, 0, 115), (285, 1117, 1116, 0, 115), (286, 1137, 1136, 0, 115), (287, 1149, 1148, 0, 115), (288, 1161, 1160, 0, 115), (289, 1177, 1176, 0, 115), (290, 1189, 1188, 0, 115), (291, 1196, 1195, 0, 115), (292, 1203, 1202, 0, 115), (293, 1237, 1236, 0, 115), (294, 1248, 1247, 0, 115), (295, 1260, 1259, 0, 115), (296, 1268, 1267, 0, 115), (297, 1285, 1284, 0, 115), (298, 1292, 1291, 0, 115), (299, 1299, 1298, 0, 115)]
theorem LW_r14 : ∀ e ∈ LW_14, okLW e = true := List.forall_mem_cons.mpr ⟨lw_280, List.forall_mem_cons.mpr ⟨lw_281, List.forall_mem_cons.mpr ⟨lw_282, List.forall_mem_cons.mpr ⟨lw_283, List.forall_mem_cons.mpr ⟨lw_284, List.forall_mem_cons.mpr ⟨lw_285, List.forall_mem_cons.mpr ⟨lw_286, List.forall_mem_cons.mpr ⟨lw_287, List.forall_mem_cons.mpr ⟨lw_288, List.forall_mem_cons.mpr ⟨lw_289, List.forall_mem_cons.mpr ⟨lw_290, List.forall_mem_cons.mpr ⟨lw_291, List.forall_mem_cons.mpr ⟨lw_292, List.forall_mem_cons.mpr ⟨lw_293, List.forall_mem_cons.mpr ⟨lw_294, List.forall_mem_cons.mpr ⟨lw_295, List.forall_mem_cons.mpr ⟨lw_296, List.forall_mem_cons.mpr ⟨lw_297, List.forall_mem_cons.mpr ⟨lw_298, List.forall_mem_cons.mpr ⟨lw_299, fun _ h => absurd h List.not_mem_nil⟩⟩⟩⟩⟩⟩⟩⟩⟩⟩⟩⟩⟩⟩⟩⟩⟩⟩⟩⟩
def LW_15 : List (Nat × (Nat × (Nat × (Nat × Nat)))) := [(300, 1312, 1311, 0, 115), (301, 1324, 1323, 0, 115), (302, 1331, 1330, 0, 115), (303, 1361, 1360, 0, 115), (304, 1369, 1368, 0, 115)]
theorem LW_r15 : ∀ e ∈ LW_15, okLW e = true := List.forall_mem_cons.mpr ⟨lw_300, List.forall_mem_cons.mpr ⟨lw_301, List.forall_mem_cons.mpr ⟨lw_302, List.forall_mem_cons.mpr ⟨lw_303, List.forall_mem_cons.mpr ⟨lw_304, fun _ h => absurd h List.not_mem_nil⟩⟩⟩⟩⟩
def LW : List (Nat × (Nat × (Nat × (Nat × Nat)))) := LW_0 ++ (LW_1 ++ (LW_2 ++ (LW_3 ++ (LW_4 ++ (LW_5 ++ (LW_6 ++ (LW_7 ++ (LW_8 ++ (LW_9 ++ (LW_10 ++ (LW_11 ++ (LW_12 ++ (LW_13 ++ (LW_14 ++ (LW_15)))))))))))))))
theorem LW_ok : ∀ e ∈ LW, okLW e = true := List.forall_mem_append.mpr ⟨LW_r0, List.forall_mem_append.mpr ⟨LW_r1, List.forall_mem_append.mpr ⟨LW_r2, List.forall_mem_append.mpr ⟨LW_r3, List.forall_mem_append.mpr ⟨LW_r4, List.forall_mem_append.mpr ⟨LW_r5, List.forall_mem_append.mpr ⟨LW_r6, List.forall_mem_append.mpr ⟨LW_r7, List.forall_mem_append.mpr ⟨LW_r8, List.forall_mem_append.mpr ⟨LW_r9, List.forall_mem_append.mpr ⟨LW_r10, List.forall_mem_append.mpr ⟨LW_r11, List.forall_mem_append.mpr ⟨LW_r12, List.forall_mem_append.mpr ⟨LW_r13, List.forall_mem_append.mpr ⟨LW_r14, LW_r15⟩⟩⟩⟩⟩⟩⟩⟩⟩⟩⟩⟩⟩⟩⟩
end
section
/-! every table entry is checked: it is the code's, its links stand in the words -/
def lenI (i : Jvm.ClassFile.Instr) : Nat := match i with
  | .bipush _ => 2 | .sipush _ => 3 | .ldc2_w _ => 3 | .iload _ => 2 | .lload _ => 2 | .dload _ => 2 | .fload _ => 2 | .aload _ => 2
  | .istore _ => 2 | .lstore _ => 2 | .dstore _ => 2 | .fstore _ => 2 | .astore _ => 2 | .iinc _ _ => 3 | .goto _ => 3 | .if_icmp _ _ => 3 | .ifCond _ _ => 3
  | .getfield _ => 3 | .putfield _ => 3 | .invokevirtual _ => 3 | .invokestatic _ => 3 | .new _ => 3 | .tableswitch _ _ _ _ => 0 | .ldc _ => 0 | .ldc_w _ => 0 | .invokespecial _ => 0 | .newarray _ => 0 | _ => 1
def eqN (a b : Nat) : Bool := Nat.beq a b
def ltN (a b : Nat) : Bool := Nat.blt a b
def inLF (ci i x : Nat) : Bool := LF.any (fun e => eqN e.1 ci && (eqN e.2.1 i && eqN e.2.2.1 x))
def inLM (ci i x : Nat) : Bool := LM.any (fun e => eqN e.1 ci && (eqN e.2.1 i && eqN e.2.2.1 x))
def inLN (ci i x : Nat) : Bool := LN.any (fun e => eqN e.1 ci && (eqN e.2.1 i && eqN e.2.2.1 x))
def inLL (ci i : Nat) (z : Int) : Bool := LL.any (fun e => eqN e.1 ci && (eqN e.2.1 i && decide (e.2.2.1 = z)))
def THS : List (Nat × (Nat × (Nat × (Nat × (Nat × (Nat × (Nat × (Nat × String)))))))) := [(121, 12, 1, 72, 74, 76, 0, 0, "the character is not from 33 to 126"), (121, 32, 2, 83, 85, 87, 0, 1, "the text has 80 characters"), (122, 35, 1, 72, 103, 76, 0, 0, "the text is not a body text"), (122, 60, 2, 83, 109, 87, 0, 1, "too many statements, allocations or calls"), (128, 9, 1, 72, 135, 76, 0, 0, "the limit is not from 0 to 2"), (131, 44, 3, 167, 169, 171, 0, 2, "no such position"), (133, 44, 3, 167, 186, 171, 0, 2, "no such context"), (154, 86, 5, 268, 270, 272, 1, 3, "no variable has a target by the unification analysis"), (155, 71, 5, 268, 273, 272, 1, 3, "no variable points to a target"), (157, 7, 2, 83, 278, 87, 1, 1, "nothing was saved"), (162, 9, 3, 167, 307, 171, 1, 2, "no such function"), (163, 24, 3, 167, 186, 171, 0, 2, "no such context"), (164, 15, 3, 167, 309, 171, 1, 2, "no such statement"), (165, 10, 3, 167, 311, 171, 1, 2, "no such variable"), (166, 24, 3, 167, 313, 171, 1, 2, "no such site or field"), (167, 24, 3, 167, 315, 171, 1, 2, "no such target"), (167, 50, 4, 317, 319, 321, 1, 4, "no such fact with the limit 0")]
def inTH (mi q i x : Nat) : Bool := THS.any (fun e => eqN e.1 mi && (eqN e.2.1 q && (eqN e.2.2.2.1 i && eqN e.2.2.1 x)))
def inLW (x : Nat) : Bool := LW.any (fun e => eqN e.1 x)
def okC (mi : Nat) (y : Nat × (Nat × (Nat × Int))) : Bool :=
  inLW y.1 && (decide (y.2.2.2 = (mBu y.1 : Nat)) && (Nat.ble (mFr y.1 + 1) (mFr mi) && (Nat.ble (8 + (mL y.1 + 11) + mLo y.1) (mLo mi))))
def okI (mi q : Nat) (i : Jvm.ClassFile.Instr) (y : Nat × (Nat × (Nat × Int))) : Bool := match i with
  | .bipush n => decide ((Int8.ofInt n).toInt32 = Int32.ofInt n)
  | .sipush n => decide ((Int16.ofInt n).toInt32 = Int32.ofInt n)
  | .ldc2_w i => inLL (mC mi) i y.2.2.2
  | .istore_n j => ltN j.val (mL mi) | .istore j => ltN j (mL mi) | .fstore j => ltN j (mL mi) | .astore_n j => ltN j.val (mL mi) | .astore j => ltN j (mL mi) | .iinc j _ => ltN j (mL mi)
  | .lstore_n j => ltN (j.val + 1) (mL mi) | .lstore j => ltN (j + 1) (mL mi) | .dstore j => ltN (j + 1) (mL mi)
  | .goto off => decide ((q : Int) + off = (y.1 : Int)) | .if_icmp _ off => decide ((q : Int) + off = (y.1 : Int)) | .ifCond _ off => decide ((q : Int) + off = (y.1 : Int))
  | .tableswitch d lo hi offs => decide (0 ≤ (q : Int) + d) && (offs.toList.all (fun o => decide (0 ≤ (q : Int) + o)) && (decide ((hi - lo + 1).toNat ≤ offs.size) && (decide (inR lo) && decide (inR hi))))
  | .getfield i => inLF (mC mi) i y.1 && (ltN y.1 (nf (mC mi)) && (eqN y.2.1 (mC mi) && ltN (mC mi) 10))
  | .putfield i => inLF (mC mi) i y.1 && (ltN y.1 (nf (mC mi)) && (eqN y.2.1 (mC mi) && (ltN (mC mi) 10 && !(fT (mC mi) y.1).2.2.2)))
  | .ireturn => decide (mR mi = some .int ∨ (mR mi = some .boolean ∧ y.1 = 1))
  | .lreturn => decide (mR mi = some .long) | .dreturn => decide (mR mi = some .double) | .freturn => decide (mR mi = some .float) | .return_ => decide (mR mi = none)
  | .areturn => decide (mR mi = some (.object "PointerAnalyzer$Contexts"))
  | .invokestatic i => okC mi y && (mS y.1 && (decide ((parseMethodDescriptor (mY y.1).desc).map (fun d => d.parameters.length) = some y.2.1) && (inLM (mC mi) i y.1 || (inLN (mC mi) i y.1 && (mH y.1).isEmpty))))
  | .invokevirtual i => okC mi y && (!mS y.1 && (decide ((parseMethodDescriptor (mY y.1).desc).map (fun d => d.parameters.length + 1) = some y.2.1) && (inLM (mC mi) i y.1 && ((mH y.1).isEmpty && (eqN y.2.2.1 (mC y.1) && ltN (mC y.1) 10)))))
  | .new i => if y.2.1 = 1 then inTH mi q i y.1 else true
  | _ => true
def okB (mi q : Nat) (en : Ent) : Bool := decide (decode (mB mi) q = .ok (en.1, en.2.1)) && ((eqN en.2.1 (lenI en.1) || eqN (lenI en.1) 0) && okI mi q en.1 en.2.2)
theorem lkp_ok {mi : Nat} : ∀ (k : List (Nat × Ent)) (q : Nat) (en : Ent), (k.all (fun e => okB mi e.1 e.2)) = true → lkp k q = some en → okB mi q en = true
  | [], _, _, _, h => by cases h
  | e :: r, q, en, h1, h => by
    rw [List.all_cons, Bool.and_eq_true] at h1
    unfold lkp at h
    cases hq : Nat.beq e.1 q with
    | true =>
      rw [hq] at h
      have := Nat.eq_of_beq_eq_true hq
      subst this
      cases h
      exact h1.1
    | false => rw [hq] at h; exact lkp_ok r q en h1.2 h
theorem bif_lt {a b : Nat} {x y : Option Ent} {en : Ent} {P : Prop} (h : (bif Nat.blt a b then x else y) = some en) (h1 : a < b → x = some en → P) (h2 : b ≤ a → y = some en → P) : P := by
  cases hc : Nat.blt a b with
  | true => rw [hc] at h; exact h1 (by simpa [Nat.blt_eq] using hc) h
  | false =>
    rw [hc] at h
    refine h2 (Nat.le_of_not_lt fun hlt => ?_) h
    have : Nat.blt a b = true := by simpa [Nat.blt_eq] using hlt
    rw [this] at hc; cases hc

theorem ok_0 : (k_0.all (fun e => okB 0 e.1 e.2)) = true := by decide +kernel
theorem okk_0 {q : Nat} {en : Ent} (h : kk_0 q = some en) : okB 0 q en = true := lkp_ok _ _ _ ok_0 h
theorem ok_1 : (k_1.all (fun e => okB 1 e.1 e.2)) = true := by decide +kernel
theorem okk_1 {q : Nat} {en : Ent} (h : kk_1 q = some en) : okB 1 q en = true := lkp_ok _ _ _ ok_1 h
theorem ok_2 : (k_2.all (fun e => okB 2 e.1 e.2)) = true := by decide +kernel
theorem okk_2 {q : Nat} {en : Ent} (h : kk_2 q = some en) : okB 2 q en = true := lkp_ok _ _ _ ok_2 h
theorem ok_3 : (k_3.all (fun e => okB 3 e.1 e.2)) = true := by decide +kernel
theorem okk_3 {q : Nat} {en : Ent} (h : kk_3 q = some en) : okB 3 q en = true := lkp_ok _ _ _ ok_3 h
theorem ok_4 : (k_4.all (fun e => okB 4 e.1 e.2)) = true := by decide +kernel
theorem okk_4 {q : Nat} {en : Ent} (h : kk_4 q = some en) : okB 4 q en = true := lkp_ok _ _ _ ok_4 h
theorem ok_5 : (k_5.all (fun e => okB 5 e.1 e.2)) = true := by decide +kernel
theorem okk_5 {q : Nat} {en : Ent} (h : kk_5 q = some en) : okB 5 q en = true := lkp_ok _ _ _ ok_5 h
theorem ok_6 : (k_6.all (fun e => okB 6 e.1 e.2)) = true := by decide +kernel
theorem okk_6 {q : Nat} {en : Ent} (h : kk_6 q = some en) : okB 6 q en = true := lkp_ok _ _ _ ok_6 h
theorem ok_7 : (k_7.all (fun e => okB 7 e.1 e.2)) = true := by decide +kernel
theorem okk_7 {q : Nat} {en : Ent} (h : kk_7 q = some en) : okB 7 q en = true := lkp_ok _ _ _ ok_7 h
theorem ok_8 : (k_8.all (fun e => okB 8 e.1 e.2)) = true := by decide +kernel
theorem okk_8 {q : Nat} {en : Ent} (h : kk_8 q = some en) : okB 8 q en = true := lkp_ok _ _ _ ok_8 h
theorem ok_9 : (k_9.all (fun e => okB 9 e.1 e.2)) = true := by decide +kernel
theorem okk_9 {q : Nat} {en : Ent} (h : kk_9 q = some en) : okB 9 q en = true := lkp_ok _ _ _ ok_9 h
theorem ok_10 : (k_10.all (fun e => okB 10 e.1 e.2)) = true := by decide +kernel
theorem okk_10 {q : Nat} {en : Ent} (h : kk_10 q = some en) : okB 10 q en = true := lkp_ok _ _ _ ok_10 h
theorem ok_11 : (k_11.all (fun e => okB 11 e.1 e.2)) = true := by decide +kernel
theorem okk_11 {q : Nat} {en : Ent} (h : kk_11 q = some en) : okB 11 q en = true := lkp_ok _ _ _ ok_11 h
theorem ok_12 : (k_12.all (fun e => okB 12 e.1 e.2)) = true := by decide +kernel
theorem okk_12 {q : Nat} {en : Ent} (h : kk_12 q = some en) : okB 12 q en = true := lkp_ok _ _ _ ok_12 h
theorem ok_13 : (k_13.all (fun e => okB 13 e.1 e.2)) = true := by decide +kernel
theorem okk_13 {q : Nat} {en : Ent} (h : kk_13 q = some en) : okB 13 q en = true := lkp_ok _ _ _ ok_13 h
theorem ok_14 : (k_14.all (fun e => okB 14 e.1 e.2)) = true := by decide +kernel
theorem okk_14 {q : Nat} {en : Ent} (h : kk_14 q = some en) : okB 14 q en = true := lkp_ok _ _ _ ok_14 h
theorem ok_15 : (k_15.all (fun e => okB 15 e.1 e.2)) = true := by decide +kernel
theorem okk_15 {q : Nat} {en : Ent} (h : kk_15 q = some en) : okB 15 q en = true := lkp_ok _ _ _ ok_15 h
theorem ok_16 : (k_16.all (fun e => okB 16 e.1 e.2)) = true := by decide +kernel
theorem okk_16 {q : Nat} {en : Ent} (h : kk_16 q = some en) : okB 16 q en = true := lkp_ok _ _ _ ok_16 h
theorem ok_17 : (k_17.all (fun e => okB 17 e.1 e.2)) = true := by decide +kernel
theorem okk_17 {q : Nat} {en : Ent} (h : kk_17 q = some en) : okB 17 q en = true := lkp_ok _ _ _ ok_17 h
theorem ok_18 : (k_18.all (fun e => okB 18 e.1 e.2)) = true := by decide +kernel
theorem okk_18 {q : Nat} {en : Ent} (h : kk_18 q = some en) : okB 18 q en = true := lkp_ok _ _ _ ok_18 h
theorem ok_19 : (k_19.all (fun e => okB 19 e.1 e.2)) = true := by decide +kernel
theorem okk_19 {q : Nat} {en : Ent} (h : kk_19 q = some en) : okB 19 q en = true := lkp_ok _ _ _ ok_19 h
theorem ok_20 : (k_20.all (fun e => okB 20 e.1 e.2)) = true := by decide +kernel
theorem okk_20 {q : Nat} {en : Ent} (h : kk_20 q = some en) : okB 20 q en = true := lkp_ok _ _ _ ok_20 h
theorem ok_21 : (k_21.all (fun e => okB 21 e.1 e.2)) = true := by decide +kernel
theorem okk_21 {q : Nat} {en : Ent} (h : kk_21 q = some en) : okB 21 q en = true := lkp_ok _ _ _ ok_21 h
theorem ok_22 : (k_22.all (fun e => okB 22 e.1 e.2)) = true := by decide +kernel
theorem okk_22 {q : Nat} {en : Ent} (h : kk_22 q = some en) : okB 22 q en = true := lkp_ok _ _ _ ok_22 h
theorem ok_23 : (k_23.all (fun e => okB 23 e.1 e.2)) = true := by decide +kernel
theorem okk_23 {q : Nat} {en : Ent} (h : kk_23 q = some en) : okB 23 q en = true := lkp_ok _ _ _ ok_23 h
theorem ok_24 : (k_24.all (fun e => okB 24 e.1 e.2)) = true := by decide +kernel
theorem okk_24 {q : Nat} {en : Ent} (h : kk_24 q = some en) : okB 24 q en = true := lkp_ok _ _ _ ok_24 h
theorem ok_25 : (k_25.all (fun e => okB 25 e.1 e.2)) = true := by decide +kernel
theorem okk_25 {q : Nat} {en : Ent} (h : kk_25 q = some en) : okB 25 q en = true := lkp_ok _ _ _ ok_25 h
theorem ok_26 : (k_26.all (fun e => okB 26 e.1 e.2)) = true := by decide +kernel
theorem okk_26 {q : Nat} {en : Ent} (h : kk_26 q = some en) : okB 26 q en = true := lkp_ok _ _ _ ok_26 h
theorem ok_27 : (k_27.all (fun e => okB 27 e.1 e.2)) = true := by decide +kernel
theorem okk_27 {q : Nat} {en : Ent} (h : kk_27 q = some en) : okB 27 q en = true := lkp_ok _ _ _ ok_27 h
theorem ok_28 : (k_28.all (fun e => okB 28 e.1 e.2)) = true := by decide +kernel
theorem okk_28 {q : Nat} {en : Ent} (h : kk_28 q = some en) : okB 28 q en = true := lkp_ok _ _ _ ok_28 h
theorem ok_29 : (k_29.all (fun e => okB 29 e.1 e.2)) = true := by decide +kernel
theorem okk_29 {q : Nat} {en : Ent} (h : kk_29 q = some en) : okB 29 q en = true := lkp_ok _ _ _ ok_29 h
theorem ok_30 : (k_30.all (fun e => okB 30 e.1 e.2)) = true := by decide +kernel
theorem okk_30 {q : Nat} {en : Ent} (h : kk_30 q = some en) : okB 30 q en = true := lkp_ok _ _ _ ok_30 h
theorem ok_31 : (k_31.all (fun e => okB 31 e.1 e.2)) = true := by decide +kernel
theorem okk_31 {q : Nat} {en : Ent} (h : kk_31 q = some en) : okB 31 q en = true := lkp_ok _ _ _ ok_31 h
theorem ok_32 : (k_32.all (fun e => okB 32 e.1 e.2)) = true := by decide +kernel
theorem okk_32 {q : Nat} {en : Ent} (h : kk_32 q = some en) : okB 32 q en = true := lkp_ok _ _ _ ok_32 h
theorem ok_33 : (k_33.all (fun e => okB 33 e.1 e.2)) = true := by decide +kernel
theorem okk_33 {q : Nat} {en : Ent} (h : kk_33 q = some en) : okB 33 q en = true := lkp_ok _ _ _ ok_33 h
theorem ok_34 : (k_34.all (fun e => okB 34 e.1 e.2)) = true := by decide +kernel
theorem okk_34 {q : Nat} {en : Ent} (h : kk_34 q = some en) : okB 34 q en = true := lkp_ok _ _ _ ok_34 h
theorem ok_35 : (k_35.all (fun e => okB 35 e.1 e.2)) = true := by decide +kernel
theorem okk_35 {q : Nat} {en : Ent} (h : kk_35 q = some en) : okB 35 q en = true := lkp_ok _ _ _ ok_35 h
theorem ok_36 : (k_36.all (fun e => okB 36 e.1 e.2)) = true := by decide +kernel
theorem okk_36 {q : Nat} {en : Ent} (h : kk_36 q = some en) : okB 36 q en = true := lkp_ok _ _ _ ok_36 h
theorem ok_37 : (k_37.all (fun e => okB 37 e.1 e.2)) = true := by decide +kernel
theorem okk_37 {q : Nat} {en : Ent} (h : kk_37 q = some en) : okB 37 q en = true := lkp_ok _ _ _ ok_37 h
theorem ok_38 : (k_38.all (fun e => okB 38 e.1 e.2)) = true := by decide +kernel
theorem okk_38 {q : Nat} {en : Ent} (h : kk_38 q = some en) : okB 38 q en = true := lkp_ok _ _ _ ok_38 h
theorem ok_39 : (k_39.all (fun e => okB 39 e.1 e.2)) = true := by decide +kernel
theorem okk_39 {q : Nat} {en : Ent} (h : kk_39 q = some en) : okB 39 q en = true := lkp_ok _ _ _ ok_39 h
theorem ok_40 : (k_40.all (fun e => okB 40 e.1 e.2)) = true := by decide +kernel
theorem okk_40 {q : Nat} {en : Ent} (h : kk_40 q = some en) : okB 40 q en = true := lkp_ok _ _ _ ok_40 h
theorem ok_41 : (k_41.all (fun e => okB 41 e.1 e.2)) = true := by decide +kernel
theorem okk_41 {q : Nat} {en : Ent} (h : kk_41 q = some en) : okB 41 q en = true := lkp_ok _ _ _ ok_41 h
theorem ok_42 : (k_42.all (fun e => okB 42 e.1 e.2)) = true := by decide +kernel
theorem okk_42 {q : Nat} {en : Ent} (h : kk_42 q = some en) : okB 42 q en = true := lkp_ok _ _ _ ok_42 h
theorem ok_43 : (k_43.all (fun e => okB 43 e.1 e.2)) = true := by decide +kernel
theorem okk_43 {q : Nat} {en : Ent} (h : kk_43 q = some en) : okB 43 q en = true := lkp_ok _ _ _ ok_43 h
theorem ok_44 : (k_44.all (fun e => okB 44 e.1 e.2)) = true := by decide +kernel
theorem okk_44 {q : Nat} {en : Ent} (h : kk_44 q = some en) : okB 44 q en = true := lkp_ok _ _ _ ok_44 h
theorem ok_45 : (k_45.all (fun e => okB 45 e.1 e.2)) = true := by decide +kernel
theorem okk_45 {q : Nat} {en : Ent} (h : kk_45 q = some en) : okB 45 q en = true := lkp_ok _ _ _ ok_45 h
theorem ok_46 : (k_46.all (fun e => okB 46 e.1 e.2)) = true := by decide +kernel
theorem okk_46 {q : Nat} {en : Ent} (h : kk_46 q = some en) : okB 46 q en = true := lkp_ok _ _ _ ok_46 h
theorem ok_47 : (k_47.all (fun e => okB 47 e.1 e.2)) = true := by decide +kernel
theorem okk_47 {q : Nat} {en : Ent} (h : kk_47 q = some en) : okB 47 q en = true := lkp_ok _ _ _ ok_47 h
theorem ok_48 : (k_48.all (fun e => okB 48 e.1 e.2)) = true := by decide +kernel
theorem okk_48 {q : Nat} {en : Ent} (h : kk_48 q = some en) : okB 48 q en = true := lkp_ok _ _ _ ok_48 h
theorem ok_49 : (k_49.all (fun e => okB 49 e.1 e.2)) = true := by decide +kernel
theorem okk_49 {q : Nat} {en : Ent} (h : kk_49 q = some en) : okB 49 q en = true := lkp_ok _ _ _ ok_49 h
theorem ok_50 : (k_50.all (fun e => okB 50 e.1 e.2)) = true := by decide +kernel
theorem okk_50 {q : Nat} {en : Ent} (h : kk_50 q = some en) : okB 50 q en = true := lkp_ok _ _ _ ok_50 h
theorem ok_51 : (k_51.all (fun e => okB 51 e.1 e.2)) = true := by decide +kernel
theorem okk_51 {q : Nat} {en : Ent} (h : kk_51 q = some en) : okB 51 q en = true := lkp_ok _ _ _ ok_51 h
theorem ok_52 : (k_52.all (fun e => okB 52 e.1 e.2)) = true := by decide +kernel
theorem okk_52 {q : Nat} {en : Ent} (h : kk_52 q = some en) : okB 52 q en = true := lkp_ok _ _ _ ok_52 h
theorem ok_53 : (k_53.all (fun e => okB 53 e.1 e.2)) = true := by decide +kernel
theorem okk_53 {q : Nat} {en : Ent} (h : kk_53 q = some en) : okB 53 q en = true := lkp_ok _ _ _ ok_53 h
theorem ok_54 : (k_54.all (fun e => okB 54 e.1 e.2)) = true := by decide +kernel
theorem okk_54 {q : Nat} {en : Ent} (h : kk_54 q = some en) : okB 54 q en = true := lkp_ok _ _ _ ok_54 h
theorem ok_55 : (k_55.all (fun e => okB 55 e.1 e.2)) = true := by decide +kernel
theorem okk_55 {q : Nat} {en : Ent} (h : kk_55 q = some en) : okB 55 q en = true := lkp_ok _ _ _ ok_55 h
theorem ok_56 : (k_56.all (fun e => okB 56 e.1 e.2)) = true := by decide +kernel
theorem okk_56 {q : Nat} {en : Ent} (h : kk_56 q = some en) : okB 56 q en = true := lkp_ok _ _ _ ok_56 h
theorem ok_57 : (k_57.all (fun e => okB 57 e.1 e.2)) = true := by decide +kernel
theorem okk_57 {q : Nat} {en : Ent} (h : kk_57 q = some en) : okB 57 q en = true := lkp_ok _ _ _ ok_57 h
theorem ok_58 : (k_58.all (fun e => okB 58 e.1 e.2)) = true := by decide +kernel
theorem okk_58 {q : Nat} {en : Ent} (h : kk_58 q = some en) : okB 58 q en = true := lkp_ok _ _ _ ok_58 h
theorem ok_59 : (k_59.all (fun e => okB 59 e.1 e.2)) = true := by decide +kernel
theorem okk_59 {q : Nat} {en : Ent} (h : kk_59 q = some en) : okB 59 q en = true := lkp_ok _ _ _ ok_59 h
theorem ok_60 : (k_60.all (fun e => okB 60 e.1 e.2)) = true := by decide +kernel
theorem okk_60 {q : Nat} {en : Ent} (h : kk_60 q = some en) : okB 60 q en = true := lkp_ok _ _ _ ok_60 h
theorem ok_61 : (k_61.all (fun e => okB 61 e.1 e.2)) = true := by decide +kernel
theorem okk_61 {q : Nat} {en : Ent} (h : kk_61 q = some en) : okB 61 q en = true := lkp_ok _ _ _ ok_61 h
theorem ok_62 : (k_62.all (fun e => okB 62 e.1 e.2)) = true := by decide +kernel
theorem okk_62 {q : Nat} {en : Ent} (h : kk_62 q = some en) : okB 62 q en = true := lkp_ok _ _ _ ok_62 h
theorem ok_63 : (k_63.all (fun e => okB 63 e.1 e.2)) = true := by decide +kernel
theorem okk_63 {q : Nat} {en : Ent} (h : kk_63 q = some en) : okB 63 q en = true := lkp_ok _ _ _ ok_63 h
theorem ok_64 : (k_64.all (fun e => okB 64 e.1 e.2)) = true := by decide +kernel
theorem okk_64 {q : Nat} {en : Ent} (h : kk_64 q = some en) : okB 64 q en = true := lkp_ok _ _ _ ok_64 h
theorem ok_65 : (k_65.all (fun e => okB 65 e.1 e.2)) = true := by decide +kernel
theorem okk_65 {q : Nat} {en : Ent} (h : kk_65 q = some en) : okB 65 q en = true := lkp_ok _ _ _ ok_65 h
theorem ok_66 : (k_66.all (fun e => okB 66 e.1 e.2)) = true := by decide +kernel
theorem okk_66 {q : Nat} {en : Ent} (h : kk_66 q = some en) : okB 66 q en = true := lkp_ok _ _ _ ok_66 h
theorem ok_67 : (k_67.all (fun e => okB 67 e.1 e.2)) = true := by decide +kernel
theorem okk_67 {q : Nat} {en : Ent} (h : kk_67 q = some en) : okB 67 q en = true := lkp_ok _ _ _ ok_67 h
theorem ok_68 : (k_68.all (fun e => okB 68 e.1 e.2)) = true := by decide +kernel
theorem okk_68 {q : Nat} {en : Ent} (h : kk_68 q = some en) : okB 68 q en = true := lkp_ok _ _ _ ok_68 h
theorem ok_69 : (k_69.all (fun e => okB 69 e.1 e.2)) = true := by decide +kernel
theorem okk_69 {q : Nat} {en : Ent} (h : kk_69 q = some en) : okB 69 q en = true := lkp_ok _ _ _ ok_69 h
theorem ok_70 : (k_70.all (fun e => okB 70 e.1 e.2)) = true := by decide +kernel
theorem okk_70 {q : Nat} {en : Ent} (h : kk_70 q = some en) : okB 70 q en = true := lkp_ok _ _ _ ok_70 h
theorem ok_71 : (k_71.all (fun e => okB 71 e.1 e.2)) = true := by decide +kernel
theorem okk_71 {q : Nat} {en : Ent} (h : kk_71 q = some en) : okB 71 q en = true := lkp_ok _ _ _ ok_71 h
theorem ok_72 : (k_72.all (fun e => okB 72 e.1 e.2)) = true := by decide +kernel
theorem okk_72 {q : Nat} {en : Ent} (h : kk_72 q = some en) : okB 72 q en = true := lkp_ok _ _ _ ok_72 h
theorem ok_73 : (k_73.all (fun e => okB 73 e.1 e.2)) = true := by decide +kernel
theorem okk_73 {q : Nat} {en : Ent} (h : kk_73 q = some en) : okB 73 q en = true := lkp_ok _ _ _ ok_73 h
theorem ok_74 : (k_74.all (fun e => okB 74 e.1 e.2)) = true := by decide +kernel
theorem okk_74 {q : Nat} {en : Ent} (h : kk_74 q = some en) : okB 74 q en = true := lkp_ok _ _ _ ok_74 h
theorem ok_75 : (k_75.all (fun e => okB 75 e.1 e.2)) = true := by decide +kernel
theorem okk_75 {q : Nat} {en : Ent} (h : kk_75 q = some en) : okB 75 q en = true := lkp_ok _ _ _ ok_75 h
theorem ok_76 : (k_76.all (fun e => okB 76 e.1 e.2)) = true := by decide +kernel
theorem okk_76 {q : Nat} {en : Ent} (h : kk_76 q = some en) : okB 76 q en = true := lkp_ok _ _ _ ok_76 h
theorem ok_77 : (k_77.all (fun e => okB 77 e.1 e.2)) = true := by decide +kernel
theorem okk_77 {q : Nat} {en : Ent} (h : kk_77 q = some en) : okB 77 q en = true := lkp_ok _ _ _ ok_77 h
theorem ok_78 : (k_78.all (fun e => okB 78 e.1 e.2)) = true := by decide +kernel
theorem okk_78 {q : Nat} {en : Ent} (h : kk_78 q = some en) : okB 78 q en = true := lkp_ok _ _ _ ok_78 h
theorem ok_79 : (k_79.all (fun e => okB 79 e.1 e.2)) = true := by decide +kernel
theorem okk_79 {q : Nat} {en : Ent} (h : kk_79 q = some en) : okB 79 q en = true := lkp_ok _ _ _ ok_79 h
theorem ok_80 : (k_80.all (fun e => okB 80 e.1 e.2)) = true := by decide +kernel
theorem okk_80 {q : Nat} {en : Ent} (h : kk_80 q = some en) : okB 80 q en = true := lkp_ok _ _ _ ok_80 h
theorem ok_81 : (k_81.all (fun e => okB 81 e.1 e.2)) = true := by decide +kernel
theorem okk_81 {q : Nat} {en : Ent} (h : kk_81 q = some en) : okB 81 q en = true := lkp_ok _ _ _ ok_81 h
theorem ok_82 : (k_82.all (fun e => okB 82 e.1 e.2)) = true := by decide +kernel
theorem okk_82 {q : Nat} {en : Ent} (h : kk_82 q = some en) : okB 82 q en = true := lkp_ok _ _ _ ok_82 h
theorem ok_83 : (k_83.all (fun e => okB 83 e.1 e.2)) = true := by decide +kernel
theorem okk_83 {q : Nat} {en : Ent} (h : kk_83 q = some en) : okB 83 q en = true := lkp_ok _ _ _ ok_83 h
theorem ok_84 : (k_84.all (fun e => okB 84 e.1 e.2)) = true := by decide +kernel
theorem okk_84 {q : Nat} {en : Ent} (h : kk_84 q = some en) : okB 84 q en = true := lkp_ok _ _ _ ok_84 h
theorem ok_85 : (k_85.all (fun e => okB 85 e.1 e.2)) = true := by decide +kernel
theorem okk_85 {q : Nat} {en : Ent} (h : kk_85 q = some en) : okB 85 q en = true := lkp_ok _ _ _ ok_85 h
theorem ok_86 : (k_86.all (fun e => okB 86 e.1 e.2)) = true := by decide +kernel
theorem okk_86 {q : Nat} {en : Ent} (h : kk_86 q = some en) : okB 86 q en = true := lkp_ok _ _ _ ok_86 h
theorem ok_87 : (k_87.all (fun e => okB 87 e.1 e.2)) = true := by decide +kernel
theorem okk_87 {q : Nat} {en : Ent} (h : kk_87 q = some en) : okB 87 q en = true := lkp_ok _ _ _ ok_87 h
theorem ok_88 : (k_88.all (fun e => okB 88 e.1 e.2)) = true := by decide +kernel
theorem okk_88 {q : Nat} {en : Ent} (h : kk_88 q = some en) : okB 88 q en = true := lkp_ok _ _ _ ok_88 h
theorem ok_89 : (k_89.all (fun e => okB 89 e.1 e.2)) = true := by decide +kernel
theorem okk_89 {q : Nat} {en : Ent} (h : kk_89 q = some en) : okB 89 q en = true := lkp_ok _ _ _ ok_89 h
theorem ok_90 : (k_90.all (fun e => okB 90 e.1 e.2)) = true := by decide +kernel
theorem okk_90 {q : Nat} {en : Ent} (h : kk_90 q = some en) : okB 90 q en = true := lkp_ok _ _ _ ok_90 h
theorem ok_91 : (k_91.all (fun e => okB 91 e.1 e.2)) = true := by decide +kernel
theorem okk_91 {q : Nat} {en : Ent} (h : kk_91 q = some en) : okB 91 q en = true := lkp_ok _ _ _ ok_91 h
theorem ok_92 : (k_92.all (fun e => okB 92 e.1 e.2)) = true := by decide +kernel
theorem okk_92 {q : Nat} {en : Ent} (h : kk_92 q = some en) : okB 92 q en = true := lkp_ok _ _ _ ok_92 h
theorem ok_93 : (k_93.all (fun e => okB 93 e.1 e.2)) = true := by decide +kernel
theorem okk_93 {q : Nat} {en : Ent} (h : kk_93 q = some en) : okB 93 q en = true := lkp_ok _ _ _ ok_93 h
theorem ok_94 : (k_94.all (fun e => okB 94 e.1 e.2)) = true := by decide +kernel
theorem okk_94 {q : Nat} {en : Ent} (h : kk_94 q = some en) : okB 94 q en = true := lkp_ok _ _ _ ok_94 h
theorem ok_95 : (k_95.all (fun e => okB 95 e.1 e.2)) = true := by decide +kernel
theorem okk_95 {q : Nat} {en : Ent} (h : kk_95 q = some en) : okB 95 q en = true := lkp_ok _ _ _ ok_95 h
theorem ok_96 : (k_96.all (fun e => okB 96 e.1 e.2)) = true := by decide +kernel
theorem okk_96 {q : Nat} {en : Ent} (h : kk_96 q = some en) : okB 96 q en = true := lkp_ok _ _ _ ok_96 h
theorem ok_97 : (k_97.all (fun e => okB 97 e.1 e.2)) = true := by decide +kernel
theorem okk_97 {q : Nat} {en : Ent} (h : kk_97 q = some en) : okB 97 q en = true := lkp_ok _ _ _ ok_97 h
theorem ok_98 : (k_98.all (fun e => okB 98 e.1 e.2)) = true := by decide +kernel
theorem okk_98 {q : Nat} {en : Ent} (h : kk_98 q = some en) : okB 98 q en = true := lkp_ok _ _ _ ok_98 h
theorem ok_99 : (k_99.all (fun e => okB 99 e.1 e.2)) = true := by decide +kernel
theorem okk_99 {q : Nat} {en : Ent} (h : kk_99 q = some en) : okB 99 q en = true := lkp_ok _ _ _ ok_99 h
theorem ok_100 : (k_100.all (fun e => okB 100 e.1 e.2)) = true := by decide +kernel
theorem okk_100 {q : Nat} {en : Ent} (h : kk_100 q = some en) : okB 100 q en = true := lkp_ok _ _ _ ok_100 h
theorem ok_101 : (k_101.all (fun e => okB 101 e.1 e.2)) = true := by decide +kernel
theorem okk_101 {q : Nat} {en : Ent} (h : kk_101 q = some en) : okB 101 q en = true := lkp_ok _ _ _ ok_101 h
theorem ok_102 : (k_102.all (fun e => okB 102 e.1 e.2)) = true := by decide +kernel
theorem okk_102 {q : Nat} {en : Ent} (h : kk_102 q = some en) : okB 102 q en = true := lkp_ok _ _ _ ok_102 h
theorem ok_103 : (k_103.all (fun e => okB 103 e.1 e.2)) = true := by decide +kernel
theorem okk_103 {q : Nat} {en : Ent} (h : kk_103 q = some en) : okB 103 q en = true := lkp_ok _ _ _ ok_103 h
theorem ok_104 : (k_104.all (fun e => okB 104 e.1 e.2)) = true := by decide +kernel
theorem okk_104 {q : Nat} {en : Ent} (h : kk_104 q = some en) : okB 104 q en = true := lkp_ok _ _ _ ok_104 h
theorem ok_105 : (k_105.all (fun e => okB 105 e.1 e.2)) = true := by decide +kernel
theorem okk_105 {q : Nat} {en : Ent} (h : kk_105 q = some en) : okB 105 q en = true := lkp_ok _ _ _ ok_105 h
theorem ok_106 : (k_106.all (fun e => okB 106 e.1 e.2)) = true := by decide +kernel
theorem okk_106 {q : Nat} {en : Ent} (h : kk_106 q = some en) : okB 106 q en = true := lkp_ok _ _ _ ok_106 h
theorem ok_107 : (k_107.all (fun e => okB 107 e.1 e.2)) = true := by decide +kernel
theorem okk_107 {q : Nat} {en : Ent} (h : kk_107 q = some en) : okB 107 q en = true := lkp_ok _ _ _ ok_107 h
theorem ok_108 : (k_108.all (fun e => okB 108 e.1 e.2)) = true := by decide +kernel
theorem okk_108 {q : Nat} {en : Ent} (h : kk_108 q = some en) : okB 108 q en = true := lkp_ok _ _ _ ok_108 h
theorem ok_109 : (k_109.all (fun e => okB 109 e.1 e.2)) = true := by decide +kernel
theorem okk_109 {q : Nat} {en : Ent} (h : kk_109 q = some en) : okB 109 q en = true := lkp_ok _ _ _ ok_109 h
theorem ok_110 : (k_110.all (fun e => okB 110 e.1 e.2)) = true := by decide +kernel
theorem okk_110 {q : Nat} {en : Ent} (h : kk_110 q = some en) : okB 110 q en = true := lkp_ok _ _ _ ok_110 h
theorem ok_111 : (k_111.all (fun e => okB 111 e.1 e.2)) = true := by decide +kernel
theorem okk_111 {q : Nat} {en : Ent} (h : kk_111 q = some en) : okB 111 q en = true := lkp_ok _ _ _ ok_111 h
theorem ok_112 : (k_112.all (fun e => okB 112 e.1 e.2)) = true := by decide +kernel
theorem okk_112 {q : Nat} {en : Ent} (h : kk_112 q = some en) : okB 112 q en = true := lkp_ok _ _ _ ok_112 h
theorem ok_113 : (k_113.all (fun e => okB 113 e.1 e.2)) = true := by decide +kernel
theorem okk_113 {q : Nat} {en : Ent} (h : kk_113 q = some en) : okB 113 q en = true := lkp_ok _ _ _ ok_113 h
theorem ok_114 : (k_114.all (fun e => okB 114 e.1 e.2)) = true := by decide +kernel
theorem okk_114 {q : Nat} {en : Ent} (h : kk_114 q = some en) : okB 114 q en = true := lkp_ok _ _ _ ok_114 h
theorem ok_115 : (k_115.all (fun e => okB 115 e.1 e.2)) = true := by decide +kernel
theorem okk_115 {q : Nat} {en : Ent} (h : kk_115 q = some en) : okB 115 q en = true := lkp_ok _ _ _ ok_115 h
theorem ok_116 : (k_116.all (fun e => okB 116 e.1 e.2)) = true := by decide +kernel
theorem okk_116 {q : Nat} {en : Ent} (h : kk_116 q = some en) : okB 116 q en = true := lkp_ok _ _ _ ok_116 h
theorem ok_117 : (k_117.all (fun e => okB 117 e.1 e.2)) = true := by decide +kernel
theorem okk_117 {q : Nat} {en : Ent} (h : kk_117 q = some en) : okB 117 q en = true := lkp_ok _ _ _ ok_117 h
theorem ok_118 : (k_118.all (fun e => okB 118 e.1 e.2)) = true := by decide +kernel
theorem okk_118 {q : Nat} {en : Ent} (h : kk_118 q = some en) : okB 118 q en = true := lkp_ok _ _ _ ok_118 h
theorem ok_119 : (k_119.all (fun e => okB 119 e.1 e.2)) = true := by decide +kernel
theorem okk_119 {q : Nat} {en : Ent} (h : kk_119 q = some en) : okB 119 q en = true := lkp_ok _ _ _ ok_119 h
theorem ok_120 : (k_120.all (fun e => okB 120 e.1 e.2)) = true := by decide +kernel
theorem okk_120 {q : Nat} {en : Ent} (h : kk_120 q = some en) : okB 120 q en = true := lkp_ok _ _ _ ok_120 h
theorem ok_121 : (k_121.all (fun e => okB 121 e.1 e.2)) = true := by decide +kernel
theorem okk_121 {q : Nat} {en : Ent} (h : kk_121 q = some en) : okB 121 q en = true := lkp_ok _ _ _ ok_121 h
theorem ok_122 : (k_122.all (fun e => okB 122 e.1 e.2)) = true := by decide +kernel
theorem okk_122 {q : Nat} {en : Ent} (h : kk_122 q = some en) : okB 122 q en = true := lkp_ok _ _ _ ok_122 h
theorem ok_123 : (k_123.all (fun e => okB 123 e.1 e.2)) = true := by decide +kernel
theorem okk_123 {q : Nat} {en : Ent} (h : kk_123 q = some en) : okB 123 q en = true := lkp_ok _ _ _ ok_123 h
theorem ok_124 : (k_124.all (fun e => okB 124 e.1 e.2)) = true := by decide +kernel
theorem okk_124 {q : Nat} {en : Ent} (h : kk_124 q = some en) : okB 124 q en = true := lkp_ok _ _ _ ok_124 h
theorem ok_125 : (k_125.all (fun e => okB 125 e.1 e.2)) = true := by decide +kernel
theorem okk_125 {q : Nat} {en : Ent} (h : kk_125 q = some en) : okB 125 q en = true := lkp_ok _ _ _ ok_125 h
theorem ok_126 : (k_126.all (fun e => okB 126 e.1 e.2)) = true := by decide +kernel
theorem okk_126 {q : Nat} {en : Ent} (h : kk_126 q = some en) : okB 126 q en = true := lkp_ok _ _ _ ok_126 h
theorem ok_127 : (k_127.all (fun e => okB 127 e.1 e.2)) = true := by decide +kernel
theorem okk_127 {q : Nat} {en : Ent} (h : kk_127 q = some en) : okB 127 q en = true := lkp_ok _ _ _ ok_127 h
theorem ok_128 : (k_128.all (fun e => okB 128 e.1 e.2)) = true := by decide +kernel
theorem okk_128 {q : Nat} {en : Ent} (h : kk_128 q = some en) : okB 128 q en = true := lkp_ok _ _ _ ok_128 h
theorem ok_129 : (k_129.all (fun e => okB 129 e.1 e.2)) = true := by decide +kernel
theorem okk_129 {q : Nat} {en : Ent} (h : kk_129 q = some en) : okB 129 q en = true := lkp_ok _ _ _ ok_129 h
theorem ok_130 : (k_130.all (fun e => okB 130 e.1 e.2)) = true := by decide +kernel
theorem okk_130 {q : Nat} {en : Ent} (h : kk_130 q = some en) : okB 130 q en = true := lkp_ok _ _ _ ok_130 h
theorem ok_131 : (k_131.all (fun e => okB 131 e.1 e.2)) = true := by decide +kernel
theorem okk_131 {q : Nat} {en : Ent} (h : kk_131 q = some en) : okB 131 q en = true := lkp_ok _ _ _ ok_131 h
theorem ok_132 : (k_132.all (fun e => okB 132 e.1 e.2)) = true := by decide +kernel
theorem okk_132 {q : Nat} {en : Ent} (h : kk_132 q = some en) : okB 132 q en = true := lkp_ok _ _ _ ok_132 h
theorem ok_133 : (k_133.all (fun e => okB 133 e.1 e.2)) = true := by decide +kernel
theorem okk_133 {q : Nat} {en : Ent} (h : kk_133 q = some en) : okB 133 q en = true := lkp_ok _ _ _ ok_133 h
theorem ok_134 : (k_134.all (fun e => okB 134 e.1 e.2)) = true := by decide +kernel
theorem okk_134 {q : Nat} {en : Ent} (h : kk_134 q = some en) : okB 134 q en = true := lkp_ok _ _ _ ok_134 h
theorem ok_135 : (k_135.all (fun e => okB 135 e.1 e.2)) = true := by decide +kernel
theorem okk_135 {q : Nat} {en : Ent} (h : kk_135 q = some en) : okB 135 q en = true := lkp_ok _ _ _ ok_135 h
theorem ok_136 : (k_136.all (fun e => okB 136 e.1 e.2)) = true := by decide +kernel
theorem okk_136 {q : Nat} {en : Ent} (h : kk_136 q = some en) : okB 136 q en = true := lkp_ok _ _ _ ok_136 h
theorem ok_137 : (k_137.all (fun e => okB 137 e.1 e.2)) = true := by decide +kernel
theorem okk_137 {q : Nat} {en : Ent} (h : kk_137 q = some en) : okB 137 q en = true := lkp_ok _ _ _ ok_137 h
theorem ok_138 : (k_138.all (fun e => okB 138 e.1 e.2)) = true := by decide +kernel
theorem okk_138 {q : Nat} {en : Ent} (h : kk_138 q = some en) : okB 138 q en = true := lkp_ok _ _ _ ok_138 h
theorem ok_139 : (k_139.all (fun e => okB 139 e.1 e.2)) = true := by decide +kernel
theorem okk_139 {q : Nat} {en : Ent} (h : kk_139 q = some en) : okB 139 q en = true := lkp_ok _ _ _ ok_139 h
theorem ok_140 : (k_140.all (fun e => okB 140 e.1 e.2)) = true := by decide +kernel
theorem okk_140 {q : Nat} {en : Ent} (h : kk_140 q = some en) : okB 140 q en = true := lkp_ok _ _ _ ok_140 h
theorem ok_141 : (k_141.all (fun e => okB 141 e.1 e.2)) = true := by decide +kernel
theorem okk_141 {q : Nat} {en : Ent} (h : kk_141 q = some en) : okB 141 q en = true := lkp_ok _ _ _ ok_141 h
theorem ok_142 : (k_142.all (fun e => okB 142 e.1 e.2)) = true := by decide +kernel
theorem okk_142 {q : Nat} {en : Ent} (h : kk_142 q = some en) : okB 142 q en = true := lkp_ok _ _ _ ok_142 h
theorem ok_143 : (k_143.all (fun e => okB 143 e.1 e.2)) = true := by decide +kernel
theorem okk_143 {q : Nat} {en : Ent} (h : kk_143 q = some en) : okB 143 q en = true := lkp_ok _ _ _ ok_143 h
theorem ok_144 : (k_144.all (fun e => okB 144 e.1 e.2)) = true := by decide +kernel
theorem okk_144 {q : Nat} {en : Ent} (h : kk_144 q = some en) : okB 144 q en = true := lkp_ok _ _ _ ok_144 h
theorem ok_145 : (k_145.all (fun e => okB 145 e.1 e.2)) = true := by decide +kernel
theorem okk_145 {q : Nat} {en : Ent} (h : kk_145 q = some en) : okB 145 q en = true := lkp_ok _ _ _ ok_145 h
theorem ok_146 : (k_146.all (fun e => okB 146 e.1 e.2)) = true := by decide +kernel
theorem okk_146 {q : Nat} {en : Ent} (h : kk_146 q = some en) : okB 146 q en = true := lkp_ok _ _ _ ok_146 h
theorem ok_147 : (k_147.all (fun e => okB 147 e.1 e.2)) = true := by decide +kernel
theorem okk_147 {q : Nat} {en : Ent} (h : kk_147 q = some en) : okB 147 q en = true := lkp_ok _ _ _ ok_147 h
theorem ok_148 : (k_148.all (fun e => okB 148 e.1 e.2)) = true := by decide +kernel
theorem okk_148 {q : Nat} {en : Ent} (h : kk_148 q = some en) : okB 148 q en = true := lkp_ok _ _ _ ok_148 h
theorem ok_149 : (k_149.all (fun e => okB 149 e.1 e.2)) = true := by decide +kernel
theorem okk_149 {q : Nat} {en : Ent} (h : kk_149 q = some en) : okB 149 q en = true := lkp_ok _ _ _ ok_149 h
theorem ok_150 : (k_150.all (fun e => okB 150 e.1 e.2)) = true := by decide +kernel
theorem okk_150 {q : Nat} {en : Ent} (h : kk_150 q = some en) : okB 150 q en = true := lkp_ok _ _ _ ok_150 h
theorem ok_151 : (k_151.all (fun e => okB 151 e.1 e.2)) = true := by decide +kernel
theorem okk_151 {q : Nat} {en : Ent} (h : kk_151 q = some en) : okB 151 q en = true := lkp_ok _ _ _ ok_151 h
theorem ok_152 : (k_152.all (fun e => okB 152 e.1 e.2)) = true := by decide +kernel
theorem okk_152 {q : Nat} {en : Ent} (h : kk_152 q = some en) : okB 152 q en = true := lkp_ok _ _ _ ok_152 h
theorem ok_153 : (k_153.all (fun e => okB 153 e.1 e.2)) = true := by decide +kernel
theorem okk_153 {q : Nat} {en : Ent} (h : kk_153 q = some en) : okB 153 q en = true := lkp_ok _ _ _ ok_153 h
theorem ok_154 : (k_154.all (fun e => okB 154 e.1 e.2)) = true := by decide +kernel
theorem okk_154 {q : Nat} {en : Ent} (h : kk_154 q = some en) : okB 154 q en = true := lkp_ok _ _ _ ok_154 h
theorem ok_155 : (k_155.all (fun e => okB 155 e.1 e.2)) = true := by decide +kernel
theorem okk_155 {q : Nat} {en : Ent} (h : kk_155 q = some en) : okB 155 q en = true := lkp_ok _ _ _ ok_155 h
theorem ok_156 : (k_156.all (fun e => okB 156 e.1 e.2)) = true := by decide +kernel
theorem okk_156 {q : Nat} {en : Ent} (h : kk_156 q = some en) : okB 156 q en = true := lkp_ok _ _ _ ok_156 h
theorem ok_157 : (k_157.all (fun e => okB 157 e.1 e.2)) = true := by decide +kernel
theorem okk_157 {q : Nat} {en : Ent} (h : kk_157 q = some en) : okB 157 q en = true := lkp_ok _ _ _ ok_157 h
theorem ok_158 : (k_158.all (fun e => okB 158 e.1 e.2)) = true := by decide +kernel
theorem okk_158 {q : Nat} {en : Ent} (h : kk_158 q = some en) : okB 158 q en = true := lkp_ok _ _ _ ok_158 h
theorem ok_159 : (k_159.all (fun e => okB 159 e.1 e.2)) = true := by decide +kernel
theorem okk_159 {q : Nat} {en : Ent} (h : kk_159 q = some en) : okB 159 q en = true := lkp_ok _ _ _ ok_159 h
theorem ok_160 : (k_160.all (fun e => okB 160 e.1 e.2)) = true := by decide +kernel
theorem okk_160 {q : Nat} {en : Ent} (h : kk_160 q = some en) : okB 160 q en = true := lkp_ok _ _ _ ok_160 h
theorem ok_161 : (k_161.all (fun e => okB 161 e.1 e.2)) = true := by decide +kernel
theorem okk_161 {q : Nat} {en : Ent} (h : kk_161 q = some en) : okB 161 q en = true := lkp_ok _ _ _ ok_161 h
theorem ok_162 : (k_162.all (fun e => okB 162 e.1 e.2)) = true := by decide +kernel
theorem okk_162 {q : Nat} {en : Ent} (h : kk_162 q = some en) : okB 162 q en = true := lkp_ok _ _ _ ok_162 h
theorem ok_163 : (k_163.all (fun e => okB 163 e.1 e.2)) = true := by decide +kernel
theorem okk_163 {q : Nat} {en : Ent} (h : kk_163 q = some en) : okB 163 q en = true := lkp_ok _ _ _ ok_163 h
theorem ok_164 : (k_164.all (fun e => okB 164 e.1 e.2)) = true := by decide +kernel
theorem okk_164 {q : Nat} {en : Ent} (h : kk_164 q = some en) : okB 164 q en = true := lkp_ok _ _ _ ok_164 h
theorem ok_165 : (k_165.all (fun e => okB 165 e.1 e.2)) = true := by decide +kernel
theorem okk_165 {q : Nat} {en : Ent} (h : kk_165 q = some en) : okB 165 q en = true := lkp_ok _ _ _ ok_165 h
theorem ok_166 : (k_166.all (fun e => okB 166 e.1 e.2)) = true := by decide +kernel
theorem okk_166 {q : Nat} {en : Ent} (h : kk_166 q = some en) : okB 166 q en = true := lkp_ok _ _ _ ok_166 h
theorem ok_167 : (k_167.all (fun e => okB 167 e.1 e.2)) = true := by decide +kernel
theorem okk_167 {q : Nat} {en : Ent} (h : kk_167 q = some en) : okB 167 q en = true := lkp_ok _ _ _ ok_167 h
theorem ok_168 : (k_168.all (fun e => okB 168 e.1 e.2)) = true := by decide +kernel
theorem okk_168 {q : Nat} {en : Ent} (h : kk_168 q = some en) : okB 168 q en = true := lkp_ok _ _ _ ok_168 h
theorem ok_169 : (k_169.all (fun e => okB 169 e.1 e.2)) = true := by decide +kernel
theorem okk_169 {q : Nat} {en : Ent} (h : kk_169 q = some en) : okB 169 q en = true := lkp_ok _ _ _ ok_169 h
theorem ok_170 : (k_170.all (fun e => okB 170 e.1 e.2)) = true := by decide +kernel
theorem okk_170 {q : Nat} {en : Ent} (h : kk_170 q = some en) : okB 170 q en = true := lkp_ok _ _ _ ok_170 h
theorem ok_171 : (k_171.all (fun e => okB 171 e.1 e.2)) = true := by decide +kernel
theorem okk_171 {q : Nat} {en : Ent} (h : kk_171 q = some en) : okB 171 q en = true := lkp_ok _ _ _ ok_171 h
theorem ok_172 : (k_172.all (fun e => okB 172 e.1 e.2)) = true := by decide +kernel
theorem okk_172 {q : Nat} {en : Ent} (h : kk_172 q = some en) : okB 172 q en = true := lkp_ok _ _ _ ok_172 h
theorem ok_173 : (k_173.all (fun e => okB 173 e.1 e.2)) = true := by decide +kernel
theorem okk_173 {q : Nat} {en : Ent} (h : kk_173 q = some en) : okB 173 q en = true := lkp_ok _ _ _ ok_173 h
theorem ok_174 : (k_174.all (fun e => okB 174 e.1 e.2)) = true := by decide +kernel
theorem okk_174 {q : Nat} {en : Ent} (h : kk_174 q = some en) : okB 174 q en = true := lkp_ok _ _ _ ok_174 h
theorem ok_175 : (k_175.all (fun e => okB 175 e.1 e.2)) = true := by decide +kernel
theorem okk_175 {q : Nat} {en : Ent} (h : kk_175 q = some en) : okB 175 q en = true := lkp_ok _ _ _ ok_175 h
theorem ok_176 : (k_176.all (fun e => okB 176 e.1 e.2)) = true := by decide +kernel
theorem okk_176 {q : Nat} {en : Ent} (h : kk_176 q = some en) : okB 176 q en = true := lkp_ok _ _ _ ok_176 h
theorem ok_177 : (k_177.all (fun e => okB 177 e.1 e.2)) = true := by decide +kernel
theorem okk_177 {q : Nat} {en : Ent} (h : kk_177 q = some en) : okB 177 q en = true := lkp_ok _ _ _ ok_177 h
theorem ok_178 : (k_178.all (fun e => okB 178 e.1 e.2)) = true := by decide +kernel
theorem okk_178 {q : Nat} {en : Ent} (h : kk_178 q = some en) : okB 178 q en = true := lkp_ok _ _ _ ok_178 h
theorem ok_179 : (k_179.all (fun e => okB 179 e.1 e.2)) = true := by decide +kernel
theorem okk_179 {q : Nat} {en : Ent} (h : kk_179 q = some en) : okB 179 q en = true := lkp_ok _ _ _ ok_179 h
theorem ok_180 : (k_180.all (fun e => okB 180 e.1 e.2)) = true := by decide +kernel
theorem okk_180 {q : Nat} {en : Ent} (h : kk_180 q = some en) : okB 180 q en = true := lkp_ok _ _ _ ok_180 h
theorem ok_181 : (k_181.all (fun e => okB 181 e.1 e.2)) = true := by decide +kernel
theorem okk_181 {q : Nat} {en : Ent} (h : kk_181 q = some en) : okB 181 q en = true := lkp_ok _ _ _ ok_181 h
theorem ok_182 : (k_182.all (fun e => okB 182 e.1 e.2)) = true := by decide +kernel
theorem okk_182 {q : Nat} {en : Ent} (h : kk_182 q = some en) : okB 182 q en = true := lkp_ok _ _ _ ok_182 h
theorem ok_183 : (k_183.all (fun e => okB 183 e.1 e.2)) = true := by decide +kernel
theorem okk_183 {q : Nat} {en : Ent} (h : kk_183 q = some en) : okB 183 q en = true := lkp_ok _ _ _ ok_183 h
theorem ok_184 : (k_184.all (fun e => okB 184 e.1 e.2)) = true := by decide +kernel
theorem okk_184 {q : Nat} {en : Ent} (h : kk_184 q = some en) : okB 184 q en = true := lkp_ok _ _ _ ok_184 h
theorem ok_185 : (k_185.all (fun e => okB 185 e.1 e.2)) = true := by decide +kernel
theorem okk_185 {q : Nat} {en : Ent} (h : kk_185 q = some en) : okB 185 q en = true := lkp_ok _ _ _ ok_185 h
theorem ok_186 : (k_186.all (fun e => okB 186 e.1 e.2)) = true := by decide +kernel
theorem okk_186 {q : Nat} {en : Ent} (h : kk_186 q = some en) : okB 186 q en = true := lkp_ok _ _ _ ok_186 h
theorem ok_187 : (k_187.all (fun e => okB 187 e.1 e.2)) = true := by decide +kernel
theorem okk_187 {q : Nat} {en : Ent} (h : kk_187 q = some en) : okB 187 q en = true := lkp_ok _ _ _ ok_187 h
theorem ok_188 : (k_188.all (fun e => okB 188 e.1 e.2)) = true := by decide +kernel
theorem okk_188 {q : Nat} {en : Ent} (h : kk_188 q = some en) : okB 188 q en = true := lkp_ok _ _ _ ok_188 h
theorem ok_189 : (k_189.all (fun e => okB 189 e.1 e.2)) = true := by decide +kernel
theorem okk_189 {q : Nat} {en : Ent} (h : kk_189 q = some en) : okB 189 q en = true := lkp_ok _ _ _ ok_189 h
theorem ok_190 : (k_190.all (fun e => okB 190 e.1 e.2)) = true := by decide +kernel
theorem okk_190 {q : Nat} {en : Ent} (h : kk_190 q = some en) : okB 190 q en = true := lkp_ok _ _ _ ok_190 h
theorem ok_191 : (k_191.all (fun e => okB 191 e.1 e.2)) = true := by decide +kernel
theorem okk_191 {q : Nat} {en : Ent} (h : kk_191 q = some en) : okB 191 q en = true := lkp_ok _ _ _ ok_191 h
theorem ok_192 : (k_192.all (fun e => okB 192 e.1 e.2)) = true := by decide +kernel
theorem okk_192 {q : Nat} {en : Ent} (h : kk_192 q = some en) : okB 192 q en = true := lkp_ok _ _ _ ok_192 h
theorem ok_193 : (k_193.all (fun e => okB 193 e.1 e.2)) = true := by decide +kernel
theorem okk_193 {q : Nat} {en : Ent} (h : kk_193 q = some en) : okB 193 q en = true := lkp_ok _ _ _ ok_193 h
theorem ok_194 : (k_194.all (fun e => okB 194 e.1 e.2)) = true := by decide +kernel
theorem okk_194 {q : Nat} {en : Ent} (h : kk_194 q = some en) : okB 194 q en = true := lkp_ok _ _ _ ok_194 h
theorem ok_195 : (k_195.all (fun e => okB 195 e.1 e.2)) = true := by decide +kernel
theorem okk_195 {q : Nat} {en : Ent} (h : kk_195 q = some en) : okB 195 q en = true := lkp_ok _ _ _ ok_195 h
theorem ok_196 : (k_196.all (fun e => okB 196 e.1 e.2)) = true := by decide +kernel
theorem okk_196 {q : Nat} {en : Ent} (h : kk_196 q = some en) : okB 196 q en = true := lkp_ok _ _ _ ok_196 h
theorem ok_197 : (k_197.all (fun e => okB 197 e.1 e.2)) = true := by decide +kernel
theorem okk_197 {q : Nat} {en : Ent} (h : kk_197 q = some en) : okB 197 q en = true := lkp_ok _ _ _ ok_197 h
theorem ok_198 : (k_198.all (fun e => okB 198 e.1 e.2)) = true := by decide +kernel
theorem okk_198 {q : Nat} {en : Ent} (h : kk_198 q = some en) : okB 198 q en = true := lkp_ok _ _ _ ok_198 h
theorem ok_199 : (k_199.all (fun e => okB 199 e.1 e.2)) = true := by decide +kernel
theorem okk_199 {q : Nat} {en : Ent} (h : kk_199 q = some en) : okB 199 q en = true := lkp_ok _ _ _ ok_199 h
theorem ok_200 : (k_200.all (fun e => okB 200 e.1 e.2)) = true := by decide +kernel
theorem okk_200 {q : Nat} {en : Ent} (h : kk_200 q = some en) : okB 200 q en = true := lkp_ok _ _ _ ok_200 h
theorem ok_201 : (k_201.all (fun e => okB 201 e.1 e.2)) = true := by decide +kernel
theorem okk_201 {q : Nat} {en : Ent} (h : kk_201 q = some en) : okB 201 q en = true := lkp_ok _ _ _ ok_201 h
theorem ok_202 : (k_202.all (fun e => okB 202 e.1 e.2)) = true := by decide +kernel
theorem okk_202 {q : Nat} {en : Ent} (h : kk_202 q = some en) : okB 202 q en = true := lkp_ok _ _ _ ok_202 h
theorem ok_203 : (k_203.all (fun e => okB 203 e.1 e.2)) = true := by decide +kernel
theorem okk_203 {q : Nat} {en : Ent} (h : kk_203 q = some en) : okB 203 q en = true := lkp_ok _ _ _ ok_203 h
theorem ok_204 : (k_204.all (fun e => okB 204 e.1 e.2)) = true := by decide +kernel
theorem okk_204 {q : Nat} {en : Ent} (h : kk_204 q = some en) : okB 204 q en = true := lkp_ok _ _ _ ok_204 h
theorem ok_205 : (k_205.all (fun e => okB 205 e.1 e.2)) = true := by decide +kernel
theorem okk_205 {q : Nat} {en : Ent} (h : kk_205 q = some en) : okB 205 q en = true := lkp_ok _ _ _ ok_205 h
theorem ok_206 : (k_206.all (fun e => okB 206 e.1 e.2)) = true := by decide +kernel
theorem okk_206 {q : Nat} {en : Ent} (h : kk_206 q = some en) : okB 206 q en = true := lkp_ok _ _ _ ok_206 h
theorem ok_207 : (k_207.all (fun e => okB 207 e.1 e.2)) = true := by decide +kernel
theorem okk_207 {q : Nat} {en : Ent} (h : kk_207 q = some en) : okB 207 q en = true := lkp_ok _ _ _ ok_207 h
theorem ok_208 : (k_208.all (fun e => okB 208 e.1 e.2)) = true := by decide +kernel
theorem okk_208 {q : Nat} {en : Ent} (h : kk_208 q = some en) : okB 208 q en = true := lkp_ok _ _ _ ok_208 h
theorem ok_209 : (k_209.all (fun e => okB 209 e.1 e.2)) = true := by decide +kernel
theorem okk_209 {q : Nat} {en : Ent} (h : kk_209 q = some en) : okB 209 q en = true := lkp_ok _ _ _ ok_209 h
theorem ok_210 : (k_210.all (fun e => okB 210 e.1 e.2)) = true := by decide +kernel
theorem okk_210 {q : Nat} {en : Ent} (h : kk_210 q = some en) : okB 210 q en = true := lkp_ok _ _ _ ok_210 h
theorem ok_211 : (k_211.all (fun e => okB 211 e.1 e.2)) = true := by decide +kernel
theorem okk_211 {q : Nat} {en : Ent} (h : kk_211 q = some en) : okB 211 q en = true := lkp_ok _ _ _ ok_211 h
theorem ok_212 : (k_212.all (fun e => okB 212 e.1 e.2)) = true := by decide +kernel
theorem okk_212 {q : Nat} {en : Ent} (h : kk_212 q = some en) : okB 212 q en = true := lkp_ok _ _ _ ok_212 h
theorem ok_213 : (k_213.all (fun e => okB 213 e.1 e.2)) = true := by decide +kernel
theorem okk_213 {q : Nat} {en : Ent} (h : kk_213 q = some en) : okB 213 q en = true := lkp_ok _ _ _ ok_213 h
theorem ok_214 : (k_214.all (fun e => okB 214 e.1 e.2)) = true := by decide +kernel
theorem okk_214 {q : Nat} {en : Ent} (h : kk_214 q = some en) : okB 214 q en = true := lkp_ok _ _ _ ok_214 h
theorem ok_215 : (k_215.all (fun e => okB 215 e.1 e.2)) = true := by decide +kernel
theorem okk_215 {q : Nat} {en : Ent} (h : kk_215 q = some en) : okB 215 q en = true := lkp_ok _ _ _ ok_215 h
theorem ok_216 : (k_216.all (fun e => okB 216 e.1 e.2)) = true := by decide +kernel
theorem okk_216 {q : Nat} {en : Ent} (h : kk_216 q = some en) : okB 216 q en = true := lkp_ok _ _ _ ok_216 h
theorem ok_217 : (k_217.all (fun e => okB 217 e.1 e.2)) = true := by decide +kernel
theorem okk_217 {q : Nat} {en : Ent} (h : kk_217 q = some en) : okB 217 q en = true := lkp_ok _ _ _ ok_217 h
theorem ok_218 : (k_218.all (fun e => okB 218 e.1 e.2)) = true := by decide +kernel
theorem okk_218 {q : Nat} {en : Ent} (h : kk_218 q = some en) : okB 218 q en = true := lkp_ok _ _ _ ok_218 h
theorem ok_219 : (k_219.all (fun e => okB 219 e.1 e.2)) = true := by decide +kernel
theorem okk_219 {q : Nat} {en : Ent} (h : kk_219 q = some en) : okB 219 q en = true := lkp_ok _ _ _ ok_219 h
theorem ok_220 : (k_220.all (fun e => okB 220 e.1 e.2)) = true := by decide +kernel
theorem okk_220 {q : Nat} {en : Ent} (h : kk_220 q = some en) : okB 220 q en = true := lkp_ok _ _ _ ok_220 h
theorem ok_221 : (k_221.all (fun e => okB 221 e.1 e.2)) = true := by decide +kernel
theorem okk_221 {q : Nat} {en : Ent} (h : kk_221 q = some en) : okB 221 q en = true := lkp_ok _ _ _ ok_221 h
theorem ok_222 : (k_222.all (fun e => okB 222 e.1 e.2)) = true := by decide +kernel
theorem okk_222 {q : Nat} {en : Ent} (h : kk_222 q = some en) : okB 222 q en = true := lkp_ok _ _ _ ok_222 h
theorem ok_223 : (k_223.all (fun e => okB 223 e.1 e.2)) = true := by decide +kernel
theorem okk_223 {q : Nat} {en : Ent} (h : kk_223 q = some en) : okB 223 q en = true := lkp_ok _ _ _ ok_223 h
theorem ok_224 : (k_224.all (fun e => okB 224 e.1 e.2)) = true := by decide +kernel
theorem okk_224 {q : Nat} {en : Ent} (h : kk_224 q = some en) : okB 224 q en = true := lkp_ok _ _ _ ok_224 h
theorem ok_225 : (k_225.all (fun e => okB 225 e.1 e.2)) = true := by decide +kernel
theorem okk_225 {q : Nat} {en : Ent} (h : kk_225 q = some en) : okB 225 q en = true := lkp_ok _ _ _ ok_225 h
theorem ok_226 : (k_226.all (fun e => okB 226 e.1 e.2)) = true := by decide +kernel
theorem okk_226 {q : Nat} {en : Ent} (h : kk_226 q = some en) : okB 226 q en = true := lkp_ok _ _ _ ok_226 h
theorem ok_227 : (k_227.all (fun e => okB 227 e.1 e.2)) = true := by decide +kernel
theorem okk_227 {q : Nat} {en : Ent} (h : kk_227 q = some en) : okB 227 q en = true := lkp_ok _ _ _ ok_227 h
theorem ok_228 : (k_228.all (fun e => okB 228 e.1 e.2)) = true := by decide +kernel
theorem okk_228 {q : Nat} {en : Ent} (h : kk_228 q = some en) : okB 228 q en = true := lkp_ok _ _ _ ok_228 h
theorem ok_229 : (k_229.all (fun e => okB 229 e.1 e.2)) = true := by decide +kernel
theorem okk_229 {q : Nat} {en : Ent} (h : kk_229 q = some en) : okB 229 q en = true := lkp_ok _ _ _ ok_229 h
theorem ok_230 : (k_230.all (fun e => okB 230 e.1 e.2)) = true := by decide +kernel
theorem okk_230 {q : Nat} {en : Ent} (h : kk_230 q = some en) : okB 230 q en = true := lkp_ok _ _ _ ok_230 h
theorem ok_231 : (k_231.all (fun e => okB 231 e.1 e.2)) = true := by decide +kernel
theorem okk_231 {q : Nat} {en : Ent} (h : kk_231 q = some en) : okB 231 q en = true := lkp_ok _ _ _ ok_231 h
theorem ok_232 : (k_232.all (fun e => okB 232 e.1 e.2)) = true := by decide +kernel
theorem okk_232 {q : Nat} {en : Ent} (h : kk_232 q = some en) : okB 232 q en = true := lkp_ok _ _ _ ok_232 h
theorem ok_233 : (k_233.all (fun e => okB 233 e.1 e.2)) = true := by decide +kernel
theorem okk_233 {q : Nat} {en : Ent} (h : kk_233 q = some en) : okB 233 q en = true := lkp_ok _ _ _ ok_233 h
theorem ok_234 : (k_234.all (fun e => okB 234 e.1 e.2)) = true := by decide +kernel
theorem okk_234 {q : Nat} {en : Ent} (h : kk_234 q = some en) : okB 234 q en = true := lkp_ok _ _ _ ok_234 h
theorem ok_235 : (k_235.all (fun e => okB 235 e.1 e.2)) = true := by decide +kernel
theorem okk_235 {q : Nat} {en : Ent} (h : kk_235 q = some en) : okB 235 q en = true := lkp_ok _ _ _ ok_235 h
theorem ok_236 : (k_236.all (fun e => okB 236 e.1 e.2)) = true := by decide +kernel
theorem okk_236 {q : Nat} {en : Ent} (h : kk_236 q = some en) : okB 236 q en = true := lkp_ok _ _ _ ok_236 h
theorem ok_237 : (k_237.all (fun e => okB 237 e.1 e.2)) = true := by decide +kernel
theorem okk_237 {q : Nat} {en : Ent} (h : kk_237 q = some en) : okB 237 q en = true := lkp_ok _ _ _ ok_237 h
theorem ok_238 : (k_238.all (fun e => okB 238 e.1 e.2)) = true := by decide +kernel
theorem okk_238 {q : Nat} {en : Ent} (h : kk_238 q = some en) : okB 238 q en = true := lkp_ok _ _ _ ok_238 h
theorem ok_239 : (k_239.all (fun e => okB 239 e.1 e.2)) = true := by decide +kernel
theorem okk_239 {q : Nat} {en : Ent} (h : kk_239 q = some en) : okB 239 q en = true := lkp_ok _ _ _ ok_239 h
theorem ok_240 : (k_240.all (fun e => okB 240 e.1 e.2)) = true := by decide +kernel
theorem okk_240 {q : Nat} {en : Ent} (h : kk_240 q = some en) : okB 240 q en = true := lkp_ok _ _ _ ok_240 h
theorem ok_241 : (k_241.all (fun e => okB 241 e.1 e.2)) = true := by decide +kernel
theorem okk_241 {q : Nat} {en : Ent} (h : kk_241 q = some en) : okB 241 q en = true := lkp_ok _ _ _ ok_241 h
theorem ok_242 : (k_242.all (fun e => okB 242 e.1 e.2)) = true := by decide +kernel
theorem okk_242 {q : Nat} {en : Ent} (h : kk_242 q = some en) : okB 242 q en = true := lkp_ok _ _ _ ok_242 h
theorem ok_243 : (k_243.all (fun e => okB 243 e.1 e.2)) = true := by decide +kernel
theorem okk_243 {q : Nat} {en : Ent} (h : kk_243 q = some en) : okB 243 q en = true := lkp_ok _ _ _ ok_243 h
theorem ok_244 : (k_244.all (fun e => okB 244 e.1 e.2)) = true := by decide +kernel
theorem okk_244 {q : Nat} {en : Ent} (h : kk_244 q = some en) : okB 244 q en = true := lkp_ok _ _ _ ok_244 h
theorem ok_245 : (k_245.all (fun e => okB 245 e.1 e.2)) = true := by decide +kernel
theorem okk_245 {q : Nat} {en : Ent} (h : kk_245 q = some en) : okB 245 q en = true := lkp_ok _ _ _ ok_245 h
theorem ok_246 : (k_246.all (fun e => okB 246 e.1 e.2)) = true := by decide +kernel
theorem okk_246 {q : Nat} {en : Ent} (h : kk_246 q = some en) : okB 246 q en = true := lkp_ok _ _ _ ok_246 h
theorem ok_247 : (k_247.all (fun e => okB 247 e.1 e.2)) = true := by decide +kernel
theorem okk_247 {q : Nat} {en : Ent} (h : kk_247 q = some en) : okB 247 q en = true := lkp_ok _ _ _ ok_247 h
theorem ok_248 : (k_248.all (fun e => okB 248 e.1 e.2)) = true := by decide +kernel
theorem okk_248 {q : Nat} {en : Ent} (h : kk_248 q = some en) : okB 248 q en = true := lkp_ok _ _ _ ok_248 h
theorem ok_249 : (k_249.all (fun e => okB 249 e.1 e.2)) = true := by decide +kernel
theorem okk_249 {q : Nat} {en : Ent} (h : kk_249 q = some en) : okB 249 q en = true := lkp_ok _ _ _ ok_249 h
theorem ok_250 : (k_250.all (fun e => okB 250 e.1 e.2)) = true := by decide +kernel
theorem okk_250 {q : Nat} {en : Ent} (h : kk_250 q = some en) : okB 250 q en = true := lkp_ok _ _ _ ok_250 h
theorem ok_251 : (k_251.all (fun e => okB 251 e.1 e.2)) = true := by decide +kernel
theorem okk_251 {q : Nat} {en : Ent} (h : kk_251 q = some en) : okB 251 q en = true := lkp_ok _ _ _ ok_251 h
theorem ok_252 : (k_252.all (fun e => okB 252 e.1 e.2)) = true := by decide +kernel
theorem okk_252 {q : Nat} {en : Ent} (h : kk_252 q = some en) : okB 252 q en = true := lkp_ok _ _ _ ok_252 h
theorem ok_253 : (k_253.all (fun e => okB 253 e.1 e.2)) = true := by decide +kernel
theorem okk_253 {q : Nat} {en : Ent} (h : kk_253 q = some en) : okB 253 q en = true := lkp_ok _ _ _ ok_253 h
theorem ok_254 : (k_254.all (fun e => okB 254 e.1 e.2)) = true := by decide +kernel
theorem okk_254 {q : Nat} {en : Ent} (h : kk_254 q = some en) : okB 254 q en = true := lkp_ok _ _ _ ok_254 h
theorem ok_255 : (k_255.all (fun e => okB 255 e.1 e.2)) = true := by decide +kernel
theorem okk_255 {q : Nat} {en : Ent} (h : kk_255 q = some en) : okB 255 q en = true := lkp_ok _ _ _ ok_255 h
theorem ok_256 : (k_256.all (fun e => okB 256 e.1 e.2)) = true := by decide +kernel
theorem okk_256 {q : Nat} {en : Ent} (h : kk_256 q = some en) : okB 256 q en = true := lkp_ok _ _ _ ok_256 h
theorem ok_257 : (k_257.all (fun e => okB 257 e.1 e.2)) = true := by decide +kernel
theorem okk_257 {q : Nat} {en : Ent} (h : kk_257 q = some en) : okB 257 q en = true := lkp_ok _ _ _ ok_257 h
theorem ok_258 : (k_258.all (fun e => okB 258 e.1 e.2)) = true := by decide +kernel
theorem okk_258 {q : Nat} {en : Ent} (h : kk_258 q = some en) : okB 258 q en = true := lkp_ok _ _ _ ok_258 h
theorem ok_259 : (k_259.all (fun e => okB 259 e.1 e.2)) = true := by decide +kernel
theorem okk_259 {q : Nat} {en : Ent} (h : kk_259 q = some en) : okB 259 q en = true := lkp_ok _ _ _ ok_259 h
theorem ok_260 : (k_260.all (fun e => okB 260 e.1 e.2)) = true := by decide +kernel
theorem okk_260 {q : Nat} {en : Ent} (h : kk_260 q = some en) : okB 260 q en = true := lkp_ok _ _ _ ok_260 h
theorem ok_261 : (k_261.all (fun e => okB 261 e.1 e.2)) = true := by decide +kernel
theorem okk_261 {q : Nat} {en : Ent} (h : kk_261 q = some en) : okB 261 q en = true := lkp_ok _ _ _ ok_261 h
theorem ok_262 : (k_262.all (fun e => okB 262 e.1 e.2)) = true := by decide +kernel
theorem okk_262 {q : Nat} {en : Ent} (h : kk_262 q = some en) : okB 262 q en = true := lkp_ok _ _ _ ok_262 h
theorem ok_263 : (k_263.all (fun e => okB 263 e.1 e.2)) = true := by decide +kernel
theorem okk_263 {q : Nat} {en : Ent} (h : kk_263 q = some en) : okB 263 q en = true := lkp_ok _ _ _ ok_263 h
theorem ok_264 : (k_264.all (fun e => okB 264 e.1 e.2)) = true := by decide +kernel
theorem okk_264 {q : Nat} {en : Ent} (h : kk_264 q = some en) : okB 264 q en = true := lkp_ok _ _ _ ok_264 h
theorem ok_265 : (k_265.all (fun e => okB 265 e.1 e.2)) = true := by decide +kernel
theorem okk_265 {q : Nat} {en : Ent} (h : kk_265 q = some en) : okB 265 q en = true := lkp_ok _ _ _ ok_265 h
theorem ok_266 : (k_266.all (fun e => okB 266 e.1 e.2)) = true := by decide +kernel
theorem okk_266 {q : Nat} {en : Ent} (h : kk_266 q = some en) : okB 266 q en = true := lkp_ok _ _ _ ok_266 h
theorem ok_267 : (k_267.all (fun e => okB 267 e.1 e.2)) = true := by decide +kernel
theorem okk_267 {q : Nat} {en : Ent} (h : kk_267 q = some en) : okB 267 q en = true := lkp_ok _ _ _ ok_267 h
theorem ok_268 : (k_268.all (fun e => okB 268 e.1 e.2)) = true := by decide +kernel
theorem okk_268 {q : Nat} {en : Ent} (h : kk_268 q = some en) : okB 268 q en = true := lkp_ok _ _ _ ok_268 h
theorem ok_269 : (k_269.all (fun e => okB 269 e.1 e.2)) = true := by decide +kernel
theorem okk_269 {q : Nat} {en : Ent} (h : kk_269 q = some en) : okB 269 q en = true := lkp_ok _ _ _ ok_269 h
theorem ok_270 : (k_270.all (fun e => okB 270 e.1 e.2)) = true := by decide +kernel
theorem okk_270 {q : Nat} {en : Ent} (h : kk_270 q = some en) : okB 270 q en = true := lkp_ok _ _ _ ok_270 h
theorem ok_271 : (k_271.all (fun e => okB 271 e.1 e.2)) = true := by decide +kernel
theorem okk_271 {q : Nat} {en : Ent} (h : kk_271 q = some en) : okB 271 q en = true := lkp_ok _ _ _ ok_271 h
theorem ok_272 : (k_272.all (fun e => okB 272 e.1 e.2)) = true := by decide +kernel
theorem okk_272 {q : Nat} {en : Ent} (h : kk_272 q = some en) : okB 272 q en = true := lkp_ok _ _ _ ok_272 h
theorem ok_273 : (k_273.all (fun e => okB 273 e.1 e.2)) = true := by decide +kernel
theorem okk_273 {q : Nat} {en : Ent} (h : kk_273 q = some en) : okB 273 q en = true := lkp_ok _ _ _ ok_273 h
theorem ok_274 : (k_274.all (fun e => okB 274 e.1 e.2)) = true := by decide +kernel
theorem okk_274 {q : Nat} {en : Ent} (h : kk_274 q = some en) : okB 274 q en = true := lkp_ok _ _ _ ok_274 h
theorem ok_275 : (k_275.all (fun e => okB 275 e.1 e.2)) = true := by decide +kernel
theorem okk_275 {q : Nat} {en : Ent} (h : kk_275 q = some en) : okB 275 q en = true := lkp_ok _ _ _ ok_275 h
theorem ok_276 : (k_276.all (fun e => okB 276 e.1 e.2)) = true := by decide +kernel
theorem okk_276 {q : Nat} {en : Ent} (h : kk_276 q = some en) : okB 276 q en = true := lkp_ok _ _ _ ok_276 h
theorem ok_277 : (k_277.all (fun e => okB 277 e.1 e.2)) = true := by decide +kernel
theorem okk_277 {q : Nat} {en : Ent} (h : kk_277 q = some en) : okB 277 q en = true := lkp_ok _ _ _ ok_277 h
theorem ok_278 : (k_278.all (fun e => okB 278 e.1 e.2)) = true := by decide +kernel
theorem okk_278 {q : Nat} {en : Ent} (h : kk_278 q = some en) : okB 278 q en = true := lkp_ok _ _ _ ok_278 h
theorem ok_279 : (k_279.all (fun e => okB 279 e.1 e.2)) = true := by decide +kernel
theorem okk_279 {q : Nat} {en : Ent} (h : kk_279 q = some en) : okB 279 q en = true := lkp_ok _ _ _ ok_279 h
theorem ok_280 : (k_280.all (fun e => okB 280 e.1 e.2)) = true := by decide +kernel
theorem okk_280 {q : Nat} {en : Ent} (h : kk_280 q = some en) : okB 280 q en = true := lkp_ok _ _ _ ok_280 h
theorem ok_281 : (k_281.all (fun e => okB 281 e.1 e.2)) = true := by decide +kernel
theorem okk_281 {q : Nat} {en : Ent} (h : kk_281 q = some en) : okB 281 q en = true := lkp_ok _ _ _ ok_281 h
theorem ok_282 : (k_282.all (fun e => okB 282 e.1 e.2)) = true := by decide +kernel
theorem okk_282 {q : Nat} {en : Ent} (h : kk_282 q = some en) : okB 282 q en = true := lkp_ok _ _ _ ok_282 h
theorem ok_283 : (k_283.all (fun e => okB 283 e.1 e.2)) = true := by decide +kernel
theorem okk_283 {q : Nat} {en : Ent} (h : kk_283 q = some en) : okB 283 q en = true := lkp_ok _ _ _ ok_283 h
theorem ok_284 : (k_284.all (fun e => okB 284 e.1 e.2)) = true := by decide +kernel
theorem okk_284 {q : Nat} {en : Ent} (h : kk_284 q = some en) : okB 284 q en = true := lkp_ok _ _ _ ok_284 h
theorem ok_285 : (k_285.all (fun e => okB 285 e.1 e.2)) = true := by decide +kernel
theorem okk_285 {q : Nat} {en : Ent} (h : kk_285 q = some en) : okB 285 q en = true := lkp_ok _ _ _ ok_285 h
theorem ok_286 : (k_286.all (fun e => okB 286 e.1 e.2)) = true := by decide +kernel
theorem okk_286 {q : Nat} {en : Ent} (h : kk_286 q = some en) : okB 286 q en = true := lkp_ok _ _ _ ok_286 h
theorem ok_287 : (k_287.all (fun e => okB 287 e.1 e.2)) = true := by decide +kernel
theorem okk_287 {q : Nat} {en : Ent} (h : kk_287 q = some en) : okB 287 q en = true := lkp_ok _ _ _ ok_287 h
theorem ok_288 : (k_288.all (fun e => okB 288 e.1 e.2)) = true := by decide +kernel
theorem okk_288 {q : Nat} {en : Ent} (h : kk_288 q = some en) : okB 288 q en = true := lkp_ok _ _ _ ok_288 h
theorem ok_289 : (k_289.all (fun e => okB 289 e.1 e.2)) = true := by decide +kernel
theorem okk_289 {q : Nat} {en : Ent} (h : kk_289 q = some en) : okB 289 q en = true := lkp_ok _ _ _ ok_289 h
theorem ok_290 : (k_290.all (fun e => okB 290 e.1 e.2)) = true := by decide +kernel
theorem okk_290 {q : Nat} {en : Ent} (h : kk_290 q = some en) : okB 290 q en = true := lkp_ok _ _ _ ok_290 h
theorem ok_291 : (k_291.all (fun e => okB 291 e.1 e.2)) = true := by decide +kernel
theorem okk_291 {q : Nat} {en : Ent} (h : kk_291 q = some en) : okB 291 q en = true := lkp_ok _ _ _ ok_291 h
theorem ok_292 : (k_292.all (fun e => okB 292 e.1 e.2)) = true := by decide +kernel
theorem okk_292 {q : Nat} {en : Ent} (h : kk_292 q = some en) : okB 292 q en = true := lkp_ok _ _ _ ok_292 h
theorem ok_293 : (k_293.all (fun e => okB 293 e.1 e.2)) = true := by decide +kernel
theorem okk_293 {q : Nat} {en : Ent} (h : kk_293 q = some en) : okB 293 q en = true := lkp_ok _ _ _ ok_293 h
theorem ok_294 : (k_294.all (fun e => okB 294 e.1 e.2)) = true := by decide +kernel
theorem okk_294 {q : Nat} {en : Ent} (h : kk_294 q = some en) : okB 294 q en = true := lkp_ok _ _ _ ok_294 h
theorem ok_295 : (k_295.all (fun e => okB 295 e.1 e.2)) = true := by decide +kernel
theorem okk_295 {q : Nat} {en : Ent} (h : kk_295 q = some en) : okB 295 q en = true := lkp_ok _ _ _ ok_295 h
theorem ok_296 : (k_296.all (fun e => okB 296 e.1 e.2)) = true := by decide +kernel
theorem okk_296 {q : Nat} {en : Ent} (h : kk_296 q = some en) : okB 296 q en = true := lkp_ok _ _ _ ok_296 h
theorem ok_297 : (k_297.all (fun e => okB 297 e.1 e.2)) = true := by decide +kernel
theorem okk_297 {q : Nat} {en : Ent} (h : kk_297 q = some en) : okB 297 q en = true := lkp_ok _ _ _ ok_297 h
theorem ok_298 : (k_298.all (fun e => okB 298 e.1 e.2)) = true := by decide +kernel
theorem okk_298 {q : Nat} {en : Ent} (h : kk_298 q = some en) : okB 298 q en = true := lkp_ok _ _ _ ok_298 h
theorem ok_299 : (k_299.all (fun e => okB 299 e.1 e.2)) = true := by decide +kernel
theorem okk_299 {q : Nat} {en : Ent} (h : kk_299 q = some en) : okB 299 q en = true := lkp_ok _ _ _ ok_299 h
theorem ok_300 : (k_300.all (fun e => okB 300 e.1 e.2)) = true := by decide +kernel
theorem okk_300 {q : Nat} {en : Ent} (h : kk_300 q = some en) : okB 300 q en = true := lkp_ok _ _ _ ok_300 h
theorem ok_301 : (k_301.all (fun e => okB 301 e.1 e.2)) = true := by decide +kernel
theorem okk_301 {q : Nat} {en : Ent} (h : kk_301 q = some en) : okB 301 q en = true := lkp_ok _ _ _ ok_301 h
theorem ok_302 : (k_302.all (fun e => okB 302 e.1 e.2)) = true := by decide +kernel
theorem okk_302 {q : Nat} {en : Ent} (h : kk_302 q = some en) : okB 302 q en = true := lkp_ok _ _ _ ok_302 h
theorem ok_303 : (k_303.all (fun e => okB 303 e.1 e.2)) = true := by decide +kernel
theorem okk_303 {q : Nat} {en : Ent} (h : kk_303 q = some en) : okB 303 q en = true := lkp_ok _ _ _ ok_303 h
theorem ok_304 : (k_304.all (fun e => okB 304 e.1 e.2)) = true := by decide +kernel
theorem okk_304 {q : Nat} {en : Ent} (h : kk_304 q = some en) : okB 304 q en = true := lkp_ok _ _ _ ok_304 h
theorem ok_305_0 : (k_305_0.all (fun e => okB 305 e.1 e.2)) = true := by decide +kernel
theorem ok_305_1 : (k_305_1.all (fun e => okB 305 e.1 e.2)) = true := by decide +kernel
theorem ok_305_2 : (k_305_2.all (fun e => okB 305 e.1 e.2)) = true := by decide +kernel
theorem ok_305_3 : (k_305_3.all (fun e => okB 305 e.1 e.2)) = true := by decide +kernel
theorem ok_305_4 : (k_305_4.all (fun e => okB 305 e.1 e.2)) = true := by decide +kernel
theorem ok_305_5 : (k_305_5.all (fun e => okB 305 e.1 e.2)) = true := by decide +kernel
theorem ok_305_6 : (k_305_6.all (fun e => okB 305 e.1 e.2)) = true := by decide +kernel
theorem ok_305_7 : (k_305_7.all (fun e => okB 305 e.1 e.2)) = true := by decide +kernel
theorem ok_305_8 : (k_305_8.all (fun e => okB 305 e.1 e.2)) = true := by decide +kernel
theorem ok_305_9 : (k_305_9.all (fun e => okB 305 e.1 e.2)) = true := by decide +kernel
theorem ok_305_10 : (k_305_10.all (fun e => okB 305 e.1 e.2)) = true := by decide +kernel
theorem ok_305_11 : (k_305_11.all (fun e => okB 305 e.1 e.2)) = true := by decide +kernel
theorem okk_305 {q : Nat} {en : Ent} (h : kk_305 q = some en) : okB 305 q en = true := bif_lt h (fun _ h => bif_lt h (fun _ h => bif_lt h (fun _ h => lkp_ok _ _ _ ok_305_0 h) (fun _ h => bif_lt h (fun _ h => lkp_ok _ _ _ ok_305_1 h) (fun _ h => lkp_ok _ _ _ ok_305_2 h))) (fun _ h => bif_lt h (fun _ h => lkp_ok _ _ _ ok_305_3 h) (fun _ h => bif_lt h (fun _ h => lkp_ok _ _ _ ok_305_4 h) (fun _ h => lkp_ok _ _ _ ok_305_5 h)))) (fun _ h => bif_lt h (fun _ h => bif_lt h (fun _ h => lkp_ok _ _ _ ok_305_6 h) (fun _ h => bif_lt h (fun _ h => lkp_ok _ _ _ ok_305_7 h) (fun _ h => lkp_ok _ _ _ ok_305_8 h))) (fun _ h => bif_lt h (fun _ h => lkp_ok _ _ _ ok_305_9 h) (fun _ h => bif_lt h (fun _ h => lkp_ok _ _ _ ok_305_10 h) (fun _ h => lkp_ok _ _ _ ok_305_11 h))))
theorem cd_ok {mi q : Nat} {en : Ent} (hm : mi < 306) (h : cd mi q = some en) : okB mi q en = true := bif_lt h (fun g153 h => bif_lt h (fun g76 h => bif_lt h (fun g38 h => bif_lt h (fun g19 h => bif_lt h (fun g9 h => bif_lt h (fun g4 h => bif_lt h (fun g2 h => bif_lt h (fun g1 h => (by have e : mi = 0 := Nat.le_antisymm (Nat.le_of_lt_succ g1) (Nat.zero_le _); subst e; exact okk_0 h)) (fun h1 h => (by have e : mi = 1 := Nat.le_antisymm (Nat.le_of_lt_succ g2) (h1); subst e; exact okk_1 h))) (fun h2 h => bif_lt h (fun g3 h => (by have e : mi = 2 := Nat.le_antisymm (Nat.le_of_lt_succ g3) (h2); subst e; exact okk_2 h)) (fun h3 h => (by have e : mi = 3 := Nat.le_antisymm (Nat.le_of_lt_succ g4) (h3); subst e; exact okk_3 h)))) (fun h4 h => bif_lt h (fun g6 h => bif_lt h (fun g5 h => (by have e : mi = 4 := Nat.le_antisymm (Nat.le_of_lt_succ g5) (h4); subst e; exact okk_4 h)) (fun h5 h => (by have e : mi = 5 := Nat.le_antisymm (Nat.le_of_lt_succ g6) (h5); subst e; exact okk_5 h))) (fun h6 h => bif_lt h (fun g7 h => (by have e : mi = 6 := Nat.le_antisymm (Nat.le_of_lt_succ g7) (h6); subst e; exact okk_6 h)) (fun h7 h => bif_lt h (fun g8 h => (by have e : mi = 7 := Nat.le_antisymm (Nat.le_of_lt_succ g8) (h7); subst e; exact okk_7 h)) (fun h8 h => (by have e : mi = 8 := Nat.le_antisymm (Nat.le_of_lt_succ g9) (h8); subst e; exact okk_8 h)))))) (fun h9 h => bif_lt h (fun g14 h => bif_lt h (fun g11 h => bif_lt h (fun g10 h => (by have e : mi = 9 := Nat.le_antisymm (Nat.le_of_lt_succ g10) (h9); subst e; exact okk_9 h)) (fun h10 h => (by have e : mi = 10 := Nat.le_antisymm (Nat.le_of_lt_succ g11) (h10); subst e; exact okk_10 h))) (fun h11 h => bif_lt h (fun g12 h => (by have e : mi = 11 := Nat.le_antisymm (Nat.le_of_lt_succ g12) (h11); subst e; exact okk_11 h)) (fun h12 h => bif_lt h (fun g13 h => (by have e : mi = 12 := Nat.le_antisymm (Nat.le_of_lt_succ g13) (h12); subst e; exact okk_12 h)) (fun h13 h => (by have e : mi = 13 := Nat.le_antisymm (Nat.le_of_lt_succ g14) (h13); subst e; exact okk_13 h))))) (fun h14 h => bif_lt h (fun g16 h => bif_lt h (fun g15 h => (by have e : mi = 14 := Nat.le_antisymm (Nat.le_of_lt_succ g15) (h14); subst e; exact okk_14 h)) (fun h15 h => (by have e : mi = 15 := Nat.le_antisymm (Nat.le_of_lt_succ g16) (h15); subst e; exact okk_15 h))) (fun h16 h => bif_lt h (fun g17 h => (by have e : mi = 16 := Nat.le_antisymm (Nat.le_of_lt_succ g17) (h16); subst e; exact okk_16 h)) (fun h17 h => bif_lt h (fun g18 h => (by have e : mi = 17 := Nat.le_antisymm (Nat.le_of_lt_succ g18) (h17); subst e; exact okk_17 h)) (fun h18 h => (by have e : mi = 18 := Nat.le_antisymm (Nat.le_of_lt_succ g19) (h18); subst e; exact okk_18 h))))))) (fun h19 h => bif_lt h (fun g28 h => bif_lt h (fun g23 h => bif_lt h (fun g21 h => bif_lt h (fun g20 h => (by have e : mi = 19 := Nat.le_antisymm (Nat.le_of_lt_succ g20) (h19); subst e; exact okk_19 h)) (fun h20 h => (by have e : mi = 20 := Nat.le_antisymm (Nat.le_of_lt_succ g21) (h20); subst e; exact okk_20 h))) (fun h21 h => bif_lt h (fun g22 h => (by have e : mi = 21 := Nat.le_antisymm (Nat.le_of_lt_succ g22) (h21); subst e; exact okk_21 h)) (fun h22 h => (by have e : mi = 22 := Nat.le_antisymm (Nat.le_of_lt_succ g23) (h22); subst e; exact okk_22 h)))) (fun h23 h => bif_lt h (fun g25 h => bif_lt h (fun g24 h => (by have e : mi = 23 := Nat.le_antisymm (Nat.le_of_lt_succ g24) (h23); subst e; exact okk_23 h)) (fun h24 h => (by have e : mi = 24 := Nat.le_antisymm (Nat.le_of_lt_succ g25) (h24); subst e; exact okk_24 h))) (fun h25 h => bif_lt h (fun g26 h => (by have e : mi = 25 := Nat.le_antisymm (Nat.le_of_lt_succ g26) (h25); subst e; exact okk_25 h)) (fun h26 h => bif_lt h (fun g27 h => (by have e : mi = 26 := Nat.le_antisymm (Nat.le_of_lt_succ g27) (h26); subst e; exact okk_26 h)) (fun h27 h => (by have e : mi = 27 := Nat.le_antisymm (Nat.le_of_lt_succ g28) (h27); subst e; exact okk_27 h)))))) (fun h28 h => bif_lt h (fun g33 h => bif_lt h (fun g30 h => bif_lt h (fun g29 h => (by have e : mi = 28 := Nat.le_antisymm (Nat.le_of_lt_succ g29) (h28); subst e; exact okk_28 h)) (fun h29 h => (by have e : mi = 29 := Nat.le_antisymm (Nat.le_of_lt_succ g30) (h29); subst e; exact okk_29 h))) (fun h30 h => bif_lt h (fun g31 h => (by have e : mi = 30 := Nat.le_antisymm (Nat.le_of_lt_succ g31) (h30); subst e; exact okk_30 h)) (fun h31 h => bif_lt h (fun g32 h => (by have e : mi = 31 := Nat.le_antisymm (Nat.le_of_lt_succ g32) (h31); subst e; exact okk_31 h)) (fun h32 h => (by have e : mi = 32 := Nat.le_antisymm (Nat.le_of_lt_succ g33) (h32); subst e; exact okk_32 h))))) (fun h33 h => bif_lt h (fun g35 h => bif_lt h (fun g34 h => (by have e : mi = 33 := Nat.le_antisymm (Nat.le_of_lt_succ g34) (h33); subst e; exact okk_33 h)) (fun h34 h => (by have e : mi = 34 := Nat.le_antisymm (Nat.le_of_lt_succ g35) (h34); subst e; exact okk_34 h))) (fun h35 h => bif_lt h (fun g36 h => (by have e : mi = 35 := Nat.le_antisymm (Nat.le_of_lt_succ g36) (h35); subst e; exact okk_35 h)) (fun h36 h => bif_lt h (fun g37 h => (by have e : mi = 36 := Nat.le_antisymm (Nat.le_of_lt_succ g37) (h36); subst e; exact okk_36 h)) (fun h37 h => (by have e : mi = 37 := Nat.le_antisymm (Nat.le_of_lt_succ g38) (h37); subst e; exact okk_37 h)))))))) (fun h38 h => bif_lt h (fun g57 h => bif_lt h (fun g47 h => bif_lt h (fun g42 h => bif_lt h (fun g40 h => bif_lt h (fun g39 h => (by have e : mi = 38 := Nat.le_antisymm (Nat.le_of_lt_succ g39) (h38); subst e; exact okk_38 h)) (fun h39 h => (by have e : mi = 39 := Nat.le_antisymm (Nat.le_of_lt_succ g40) (h39); subst e; exact okk_39 h))) (fun h40 h => bif_lt h (fun g41 h => (by have e : mi = 40 := Nat.le_antisymm (Nat.le_of_lt_succ g41) (h40); subst e; exact okk_40 h)) (fun h41 h => (by have e : mi = 41 := Nat.le_antisymm (Nat.le_of_lt_succ g42) (h41); subst e; exact okk_41 h)))) (fun h42 h => bif_lt h (fun g44 h => bif_lt h (fun g43 h => (by have e : mi = 42 := Nat.le_antisymm (Nat.le_of_lt_succ g43) (h42); subst e; exact okk_42 h)) (fun h43 h => (by have e : mi = 43 := Nat.le_antisymm (Nat.le_of_lt_succ g44) (h43); subst e; exact okk_43 h))) (fun h44 h => bif_lt h (fun g45 h => (by have e : mi = 44 := Nat.le_antisymm (Nat.le_of_lt_succ g45) (h44); subst e; exact okk_44 h)) (fun h45 h => bif_lt h (fun g46 h => (by have e : mi = 45 := Nat.le_antisymm (Nat.le_of_lt_succ g46) (h45); subst e; exact okk_45 h)) (fun h46 h => (by have e : mi = 46 := Nat.le_antisymm (Nat.le_of_lt_succ g47) (h46); subst e; exact okk_46 h)))))) (fun h47 h => bif_lt h (fun g52 h => bif_lt h (fun g49 h => bif_lt h (fun g48 h => (by have e : mi = 47 := Nat.le_antisymm (Nat.le_of_lt_succ g48) (h47); subst e; exact okk_47 h)) (fun h48 h => (by have e : mi = 48 := Nat.le_antisymm (Nat.le_of_lt_succ g49) (h48); subst e; exact okk_48 h))) (fun h49 h => bif_lt h (fun g50 h => (by have e : mi = 49 := Nat.le_antisymm (Nat.le_of_lt_succ g50) (h49); subst e; exact okk_49 h)) (fun h50 h => bif_lt h (fun g51 h => (by have e : mi = 50 := Nat.le_antisymm (Nat.le_of_lt_succ g51) (h50); subst e; exact okk_50 h)) (fun h51 h => (by have e : mi = 51 := Nat.le_antisymm (Nat.le_of_lt_succ g52) (h51); subst e; exact okk_51 h))))) (fun h52 h => bif_lt h (fun g54 h => bif_lt h (fun g53 h => (by have e : mi = 52 := Nat.le_antisymm (Nat.le_of_lt_succ g53) (h52); subst e; exact okk_52 h)) (fun h53 h => (by have e : mi = 53 := Nat.le_antisymm (Nat.le_of_lt_succ g54) (h53); subst e; exact okk_53 h))) (fun h54 h => bif_lt h (fun g55 h => (by have e : mi = 54 := Nat.le_antisymm (Nat.le_of_lt_succ g55) (h54); subst e; exact okk_54 h)) (fun h55 h => bif_lt h (fun g56 h => (by have e : mi = 55 := Nat.le_antisymm (Nat.le_of_lt_succ g56) (h55); subst e; exact okk_55 h)) (fun h56 h => (by have e : mi = 56 := Nat.le_antisymm (Nat.le_of_lt_succ g57) (h56); subst e; exact okk_56 h))))))) (fun h57 h => bif_lt h (fun g66 h => bif_lt h (fun g61 h => bif_lt h (fun g59 h => bif_lt h (fun g58 h => (by have e : mi = 57 := Nat.le_antisymm (Nat.le_of_lt_succ g58) (h57); subst e; exact okk_57 h)) (fun h58 h => (by have e : mi = 58 := Nat.le_antisymm (Nat.le_of_lt_succ g59) (h58); subst e; exact okk_58 h))) (fun h59 h => bif_lt h (fun g60 h => (by have e : mi = 59 := Nat.le_antisymm (Nat.le_of_lt_succ g60) (h59); subst e; exact okk_59 h)) (fun h60 h => (by have e : mi = 60 := Nat.le_antisymm (Nat.le_of_lt_succ g61) (h60); subst e; exact okk_60 h)))) (fun h61 h => bif_lt h (fun g63 h => bif_lt h (fun g62 h => (by have e : mi = 61 := Nat.le_antisymm (Nat.le_of_lt_succ g62) (h61); subst e; exact okk_61 h)) (fun h62 h => (by have e : mi = 62 := Nat.le_antisymm (Nat.le_of_lt_succ g63) (h62); subst e; exact okk_62 h))) (fun h63 h => bif_lt h (fun g64 h => (by have e : mi = 63 := Nat.le_antisymm (Nat.le_of_lt_succ g64) (h63); subst e; exact okk_63 h)) (fun h64 h => bif_lt h (fun g65 h => (by have e : mi = 64 := Nat.le_antisymm (Nat.le_of_lt_succ g65) (h64); subst e; exact okk_64 h)) (fun h65 h => (by have e : mi = 65 := Nat.le_antisymm (Nat.le_of_lt_succ g66) (h65); subst e; exact okk_65 h)))))) (fun h66 h => bif_lt h (fun g71 h => bif_lt h (fun g68 h => bif_lt h (fun g67 h => (by have e : mi = 66 := Nat.le_antisymm (Nat.le_of_lt_succ g67) (h66); subst e; exact okk_66 h)) (fun h67 h => (by have e : mi = 67 := Nat.le_antisymm (Nat.le_of_lt_succ g68) (h67); subst e; exact okk_67 h))) (fun h68 h => bif_lt h (fun g69 h => (by have e : mi = 68 := Nat.le_antisymm (Nat.le_of_lt_succ g69) (h68); subst e; exact okk_68 h)) (fun h69 h => bif_lt h (fun g70 h => (by have e : mi = 69 := Nat.le_antisymm (Nat.le_of_lt_succ g70) (h69); subst e; exact okk_69 h)) (fun h70 h => (by have e : mi = 70 := Nat.le_antisymm (Nat.le_of_lt_succ g71) (h70); subst e; exact okk_70 h))))) (fun h71 h => bif_lt h (fun g73 h => bif_lt h (fun g72 h => (by have e : mi = 71 := Nat.le_antisymm (Nat.le_of_lt_succ g72) (h71); subst e; exact okk_71 h)) (fun h72 h => (by have e : mi = 72 := Nat.le_antisymm (Nat.le_of_lt_succ g73) (h72); subst e; exact okk_72 h))) (fun h73 h => bif_lt h (fun g74 h => (by have e : mi = 73 := Nat.le_antisymm (Nat.le_of_lt_succ g74) (h73); subst e; exact okk_73 h)) (fun h74 h => bif_lt h (fun g75 h => (by have e : mi = 74 := Nat.le_antisymm (Nat.le_of_lt_succ g75) (h74); subst e; exact okk_74 h)) (fun h75 h => (by have e : mi = 75 := Nat.le_antisymm (Nat.le_of_lt_succ g76) (h75); subst e; exact okk_75 h))))))))) (fun h76 h => bif_lt h (fun g114 h => bif_lt h (fun g95 h => bif_lt h (fun g85 h => bif_lt h (fun g80 h => bif_lt h (fun g78 h => bif_lt h (fun g77 h => (by have e : mi = 76 := Nat.le_antisymm (Nat.le_of_lt_succ g77) (h76); subst e; exact okk_76 h)) (fun h77 h => (by have e : mi = 77 := Nat.le_antisymm (Nat.le_of_lt_succ g78) (h77); subst e; exact okk_77 h))) (fun h78 h => bif_lt h (fun g79 h => (by have e : mi = 78 := Nat.le_antisymm (Nat.le_of_lt_succ g79) (h78); subst e; exact okk_78 h)) (fun h79 h => (by have e : mi = 79 := Nat.le_antisymm (Nat.le_of_lt_succ g80) (h79); subst e; exact okk_79 h)))) (fun h80 h => bif_lt h (fun g82 h => bif_lt h (fun g81 h => (by have e : mi = 80 := Nat.le_antisymm (Nat.le_of_lt_succ g81) (h80); subst e; exact okk_80 h)) (fun h81 h => (by have e : mi = 81 := Nat.le_antisymm (Nat.le_of_lt_succ g82) (h81); subst e; exact okk_81 h))) (fun h82 h => bif_lt h (fun g83 h => (by have e : mi = 82 := Nat.le_antisymm (Nat.le_of_lt_succ g83) (h82); subst e; exact okk_82 h)) (fun h83 h => bif_lt h (fun g84 h => (by have e : mi = 83 := Nat.le_antisymm (Nat.le_of_lt_succ g84) (h83); subst e; exact okk_83 h)) (fun h84 h => (by have e : mi = 84 := Nat.le_antisymm (Nat.le_of_lt_succ g85) (h84); subst e; exact okk_84 h)))))) (fun h85 h => bif_lt h (fun g90 h => bif_lt h (fun g87 h => bif_lt h (fun g86 h => (by have e : mi = 85 := Nat.le_antisymm (Nat.le_of_lt_succ g86) (h85); subst e; exact okk_85 h)) (fun h86 h => (by have e : mi = 86 := Nat.le_antisymm (Nat.le_of_lt_succ g87) (h86); subst e; exact okk_86 h))) (fun h87 h => bif_lt h (fun g88 h => (by have e : mi = 87 := Nat.le_antisymm (Nat.le_of_lt_succ g88) (h87); subst e; exact okk_87 h)) (fun h88 h => bif_lt h (fun g89 h => (by have e : mi = 88 := Nat.le_antisymm (Nat.le_of_lt_succ g89) (h88); subst e; exact okk_88 h)) (fun h89 h => (by have e : mi = 89 := Nat.le_antisymm (Nat.le_of_lt_succ g90) (h89); subst e; exact okk_89 h))))) (fun h90 h => bif_lt h (fun g92 h => bif_lt h (fun g91 h => (by have e : mi = 90 := Nat.le_antisymm (Nat.le_of_lt_succ g91) (h90); subst e; exact okk_90 h)) (fun h91 h => (by have e : mi = 91 := Nat.le_antisymm (Nat.le_of_lt_succ g92) (h91); subst e; exact okk_91 h))) (fun h92 h => bif_lt h (fun g93 h => (by have e : mi = 92 := Nat.le_antisymm (Nat.le_of_lt_succ g93) (h92); subst e; exact okk_92 h)) (fun h93 h => bif_lt h (fun g94 h => (by have e : mi = 93 := Nat.le_antisymm (Nat.le_of_lt_succ g94) (h93); subst e; exact okk_93 h)) (fun h94 h => (by have e : mi = 94 := Nat.le_antisymm (Nat.le_of_lt_succ g95) (h94); subst e; exact okk_94 h))))))) (fun h95 h => bif_lt h (fun g104 h => bif_lt h (fun g99 h => bif_lt h (fun g97 h => bif_lt h (fun g96 h => (by have e : mi = 95 := Nat.le_antisymm (Nat.le_of_lt_succ g96) (h95); subst e; exact okk_95 h)) (fun h96 h => (by have e : mi = 96 := Nat.le_antisymm (Nat.le_of_lt_succ g97) (h96); subst e; exact okk_96 h))) (fun h97 h => bif_lt h (fun g98 h => (by have e : mi = 97 := Nat.le_antisymm (Nat.le_of_lt_succ g98) (h97); subst e; exact okk_97 h)) (fun h98 h => (by have e : mi = 98 := Nat.le_antisymm (Nat.le_of_lt_succ g99) (h98); subst e; exact okk_98 h)))) (fun h99 h => bif_lt h (fun g101 h => bif_lt h (fun g100 h => (by have e : mi = 99 := Nat.le_antisymm (Nat.le_of_lt_succ g100) (h99); subst e; exact okk_99 h)) (fun h100 h => (by have e : mi = 100 := Nat.le_antisymm (Nat.le_of_lt_succ g101) (h100); subst e; exact okk_100 h))) (fun h101 h => bif_lt h (fun g102 h => (by have e : mi = 101 := Nat.le_antisymm (Nat.le_of_lt_succ g102) (h101); subst e; exact okk_101 h)) (fun h102 h => bif_lt h (fun g103 h => (by have e : mi = 102 := Nat.le_antisymm (Nat.le_of_lt_succ g103) (h102); subst e; exact okk_102 h)) (fun h103 h => (by have e : mi = 103 := Nat.le_antisymm (Nat.le_of_lt_succ g104) (h103); subst e; exact okk_103 h)))))) (fun h104 h => bif_lt h (fun g109 h => bif_lt h (fun g106 h => bif_lt h (fun g105 h => (by have e : mi = 104 := Nat.le_antisymm (Nat.le_of_lt_succ g105) (h104); subst e; exact okk_104 h)) (fun h105 h => (by have e : mi = 105 := Nat.le_antisymm (Nat.le_of_lt_succ g106) (h105); subst e; exact okk_105 h))) (fun h106 h => bif_lt h (fun g107 h => (by have e : mi = 106 := Nat.le_antisymm (Nat.le_of_lt_succ g107) (h106); subst e; exact okk_106 h)) (fun h107 h => bif_lt h (fun g108 h => (by have e : mi = 107 := Nat.le_antisymm (Nat.le_of_lt_succ g108) (h107); subst e; exact okk_107 h)) (fun h108 h => (by have e : mi = 108 := Nat.le_antisymm (Nat.le_of_lt_succ g109) (h108); subst e; exact okk_108 h))))) (fun h109 h => bif_lt h (fun g111 h => bif_lt h (fun g110 h => (by have e : mi = 109 := Nat.le_antisymm (Nat.le_of_lt_succ g110) (h109); subst e; exact okk_109 h)) (fun h110 h => (by have e : mi = 110 := Nat.le_antisymm (Nat.le_of_lt_succ g111) (h110); subst e; exact okk_110 h))) (fun h111 h => bif_lt h (fun g112 h => (by have e : mi = 111 := Nat.le_antisymm (Nat.le_of_lt_succ g112) (h111); subst e; exact okk_111 h)) (fun h112 h => bif_lt h (fun g113 h => (by have e : mi = 112 := Nat.le_antisymm (Nat.le_of_lt_succ g113) (h112); subst e; exact okk_112 h)) (fun h113 h => (by have e : mi = 113 := Nat.le_antisymm (Nat.le_of_lt_succ g114) (h113); subst e; exact okk_113 h)))))))) (fun h114 h => bif_lt h (fun g133 h => bif_lt h (fun g123 h => bif_lt h (fun g118 h => bif_lt h (fun g116 h => bif_lt h (fun g115 h => (by have e : mi = 114 := Nat.le_antisymm (Nat.le_of_lt_succ g115) (h114); subst e; exact okk_114 h)) (fun h115 h => (by have e : mi = 115 := Nat.le_antisymm (Nat.le_of_lt_succ g116) (h115); subst e; exact okk_115 h))) (fun h116 h => bif_lt h (fun g117 h => (by have e : mi = 116 := Nat.le_antisymm (Nat.le_of_lt_succ g117) (h116); subst e; exact okk_116 h)) (fun h117 h => (by have e : mi = 117 := Nat.le_antisymm (Nat.le_of_lt_succ g118) (h117); subst e; exact okk_117 h)))) (fun h118 h => bif_lt h (fun g120 h => bif_lt h (fun g119 h => (by have e : mi = 118 := Nat.le_antisymm (Nat.le_of_lt_succ g119) (h118); subst e; exact okk_118 h)) (fun h119 h => (by have e : mi = 119 := Nat.le_antisymm (Nat.le_of_lt_succ g120) (h119); subst e; exact okk_119 h))) (fun h120 h => bif_lt h (fun g121 h => (by have e : mi = 120 := Nat.le_antisymm (Nat.le_of_lt_succ g121) (h120); subst e; exact okk_120 h)) (fun h121 h => bif_lt h (fun g122 h => (by have e : mi = 121 := Nat.le_antisymm (Nat.le_of_lt_succ g122) (h121); subst e; exact okk_121 h)) (fun h122 h => (by have e : mi = 122 := Nat.le_antisymm (Nat.le_of_lt_succ g123) (h122); subst e; exact okk_122 h)))))) (fun h123 h => bif_lt h (fun g128 h => bif_lt h (fun g125 h => bif_lt h (fun g124 h => (by have e : mi = 123 := Nat.le_antisymm (Nat.le_of_lt_succ g124) (h123); subst e; exact okk_123 h)) (fun h124 h => (by have e : mi = 124 := Nat.le_antisymm (Nat.le_of_lt_succ g125) (h124); subst e; exact okk_124 h))) (fun h125 h => bif_lt h (fun g126 h => (by have e : mi = 125 := Nat.le_antisymm (Nat.le_of_lt_succ g126) (h125); subst e; exact okk_125 h)) (fun h126 h => bif_lt h (fun g127 h => (by have e : mi = 126 := Nat.le_antisymm (Nat.le_of_lt_succ g127) (h126); subst e; exact okk_126 h)) (fun h127 h => (by have e : mi = 127 := Nat.le_antisymm (Nat.le_of_lt_succ g128) (h127); subst e; exact okk_127 h))))) (fun h128 h => bif_lt h (fun g130 h => bif_lt h (fun g129 h => (by have e : mi = 128 := Nat.le_antisymm (Nat.le_of_lt_succ g129) (h128); subst e; exact okk_128 h)) (fun h129 h => (by have e : mi = 129 := Nat.le_antisymm (Nat.le_of_lt_succ g130) (h129); subst e; exact okk_129 h))) (fun h130 h => bif_lt h (fun g131 h => (by have e : mi = 130 := Nat.le_antisymm (Nat.le_of_lt_succ g131) (h130); subst e; exact okk_130 h)) (fun h131 h => bif_lt h (fun g132 h => (by have e : mi = 131 := Nat.le_antisymm (Nat.le_of_lt_succ g132) (h131); subst e; exact okk_131 h)) (fun h132 h => (by have e : mi = 132 := Nat.le_antisymm (Nat.le_of_lt_succ g133) (h132); subst e; exact okk_132 h))))))) (fun h133 h => bif_lt h (fun g143 h => bif_lt h (fun g138 h => bif_lt h (fun g135 h => bif_lt h (fun g134 h => (by have e : mi = 133 := Nat.le_antisymm (Nat.le_of_lt_succ g134) (h133); subst e; exact okk_133 h)) (fun h134 h => (by have e : mi = 134 := Nat.le_antisymm (Nat.le_of_lt_succ g135) (h134); subst e; exact okk_134 h))) (fun h135 h => bif_lt h (fun g136 h => (by have e : mi = 135 := Nat.le_antisymm (Nat.le_of_lt_succ g136) (h135); subst e; exact okk_135 h)) (fun h136 h => bif_lt h (fun g137 h => (by have e : mi = 136 := Nat.le_antisymm (Nat.le_of_lt_succ g137) (h136); subst e; exact okk_136 h)) (fun h137 h => (by have e : mi = 137 := Nat.le_antisymm (Nat.le_of_lt_succ g138) (h137); subst e; exact okk_137 h))))) (fun h138 h => bif_lt h (fun g140 h => bif_lt h (fun g139 h => (by have e : mi = 138 := Nat.le_antisymm (Nat.le_of_lt_succ g139) (h138); subst e; exact okk_138 h)) (fun h139 h => (by have e : mi = 139 := Nat.le_antisymm (Nat.le_of_lt_succ g140) (h139); subst e; exact okk_139 h))) (fun h140 h => bif_lt h (fun g141 h => (by have e : mi = 140 := Nat.le_antisymm (Nat.le_of_lt_succ g141) (h140); subst e; exact okk_140 h)) (fun h141 h => bif_lt h (fun g142 h => (by have e : mi = 141 := Nat.le_antisymm (Nat.le_of_lt_succ g142) (h141); subst e; exact okk_141 h)) (fun h142 h => (by have e : mi = 142 := Nat.le_antisymm (Nat.le_of_lt_succ g143) (h142); subst e; exact okk_142 h)))))) (fun h143 h => bif_lt h (fun g148 h => bif_lt h (fun g145 h => bif_lt h (fun g144 h => (by have e : mi = 143 := Nat.le_antisymm (Nat.le_of_lt_succ g144) (h143); subst e; exact okk_143 h)) (fun h144 h => (by have e : mi = 144 := Nat.le_antisymm (Nat.le_of_lt_succ g145) (h144); subst e; exact okk_144 h))) (fun h145 h => bif_lt h (fun g146 h => (by have e : mi = 145 := Nat.le_antisymm (Nat.le_of_lt_succ g146) (h145); subst e; exact okk_145 h)) (fun h146 h => bif_lt h (fun g147 h => (by have e : mi = 146 := Nat.le_antisymm (Nat.le_of_lt_succ g147) (h146); subst e; exact okk_146 h)) (fun h147 h => (by have e : mi = 147 := Nat.le_antisymm (Nat.le_of_lt_succ g148) (h147); subst e; exact okk_147 h))))) (fun h148 h => bif_lt h (fun g150 h => bif_lt h (fun g149 h => (by have e : mi = 148 := Nat.le_antisymm (Nat.le_of_lt_succ g149) (h148); subst e; exact okk_148 h)) (fun h149 h => (by have e : mi = 149 := Nat.le_antisymm (Nat.le_of_lt_succ g150) (h149); subst e; exact okk_149 h))) (fun h150 h => bif_lt h (fun g151 h => (by have e : mi = 150 := Nat.le_antisymm (Nat.le_of_lt_succ g151) (h150); subst e; exact okk_150 h)) (fun h151 h => bif_lt h (fun g152 h => (by have e : mi = 151 := Nat.le_antisymm (Nat.le_of_lt_succ g152) (h151); subst e; exact okk_151 h)) (fun h152 h => (by have e : mi = 152 := Nat.le_antisymm (Nat.le_of_lt_succ g153) (h152); subst e; exact okk_152 h)))))))))) (fun h153 h => bif_lt h (fun g229 h => bif_lt h (fun g191 h => bif_lt h (fun g172 h => bif_lt h (fun g162 h => bif_lt h (fun g157 h => bif_lt h (fun g155 h => bif_lt h (fun g154 h => (by have e : mi = 153 := Nat.le_antisymm (Nat.le_of_lt_succ g154) (h153); subst e; exact okk_153 h)) (fun h154 h => (by have e : mi = 154 := Nat.le_antisymm (Nat.le_of_lt_succ g155) (h154); subst e; exact okk_154 h))) (fun h155 h => bif_lt h (fun g156 h => (by have e : mi = 155 := Nat.le_antisymm (Nat.le_of_lt_succ g156) (h155); subst e; exact okk_155 h)) (fun h156 h => (by have e : mi = 156 := Nat.le_antisymm (Nat.le_of_lt_succ g157) (h156); subst e; exact okk_156 h)))) (fun h157 h => bif_lt h (fun g159 h => bif_lt h (fun g158 h => (by have e : mi = 157 := Nat.le_antisymm (Nat.le_of_lt_succ g158) (h157); subst e; exact okk_157 h)) (fun h158 h => (by have e : mi = 158 := Nat.le_antisymm (Nat.le_of_lt_succ g159) (h158); subst e; exact okk_158 h))) (fun h159 h => bif_lt h (fun g160 h => (by have e : mi = 159 := Nat.le_antisymm (Nat.le_of_lt_succ g160) (h159); subst e; exact okk_159 h)) (fun h160 h => bif_lt h (fun g161 h => (by have e : mi = 160 := Nat.le_antisymm (Nat.le_of_lt_succ g161) (h160); subst e; exact okk_160 h)) (fun h161 h => (by have e : mi = 161 := Nat.le_antisymm (Nat.le_of_lt_succ g162) (h161); subst e; exact okk_161 h)))))) (fun h162 h => bif_lt h (fun g167 h => bif_lt h (fun g164 h => bif_lt h (fun g163 h => (by have e : mi = 162 := Nat.le_antisymm (Nat.le_of_lt_succ g163) (h162); subst e; exact okk_162 h)) (fun h163 h => (by have e : mi = 163 := Nat.le_antisymm (Nat.le_of_lt_succ g164) (h163); subst e; exact okk_163 h))) (fun h164 h => bif_lt h (fun g165 h => (by have e : mi = 164 := Nat.le_antisymm (Nat.le_of_lt_succ g165) (h164); subst e; exact okk_164 h)) (fun h165 h => bif_lt h (fun g166 h => (by have e : mi = 165 := Nat.le_antisymm (Nat.le_of_lt_succ g166) (h165); subst e; exact okk_165 h)) (fun h166 h => (by have e : mi = 166 := Nat.le_antisymm (Nat.le_of_lt_succ g167) (h166); subst e; exact okk_166 h))))) (fun h167 h => bif_lt h (fun g169 h => bif_lt h (fun g168 h => (by have e : mi = 167 := Nat.le_antisymm (Nat.le_of_lt_succ g168) (h167); subst e; exact okk_167 h)) (fun h168 h => (by have e : mi = 168 := Nat.le_antisymm (Nat.le_of_lt_succ g169) (h168); subst e; exact okk_168 h))) (fun h169 h => bif_lt h (fun g170 h => (by have e : mi = 169 := Nat.le_antisymm (Nat.le_of_lt_succ g170) (h169); subst e; exact okk_169 h)) (fun h170 h => bif_lt h (fun g171 h => (by have e : mi = 170 := Nat.le_antisymm (Nat.le_of_lt_succ g171) (h170); subst e; exact okk_170 h)) (fun h171 h => (by have e : mi = 171 := Nat.le_antisymm (Nat.le_of_lt_succ g172) (h171); subst e; exact okk_171 h))))))) (fun h172 h => bif_lt h (fun g181 h => bif_lt h (fun g176 h => bif_lt h (fun g174 h => bif_lt h (fun g173 h => (by have e : mi = 172 := Nat.le_antisymm (Nat.le_of_lt_succ g173) (h172); subst e; exact okk_172 h)) (fun h173 h => (by have e : mi = 173 := Nat.le_antisymm (Nat.le_of_lt_succ g174) (h173); subst e; exact okk_173 h))) (fun h174 h => bif_lt h (fun g175 h => (by have e : mi = 174 := Nat.le_antisymm (Nat.le_of_lt_succ g175) (h174); subst e; exact okk_174 h)) (fun h175 h => (by have e : mi = 175 := Nat.le_antisymm (Nat.le_of_lt_succ g176) (h175); subst e; exact okk_175 h)))) (fun h176 h => bif_lt h (fun g178 h => bif_lt h (fun g177 h => (by have e : mi = 176 := Nat.le_antisymm (Nat.le_of_lt_succ g177) (h176); subst e; exact okk_176 h)) (fun h177 h => (by have e : mi = 177 := Nat.le_antisymm (Nat.le_of_lt_succ g178) (h177); subst e; exact okk_177 h))) (fun h178 h => bif_lt h (fun g179 h => (by have e : mi = 178 := Nat.le_antisymm (Nat.le_of_lt_succ g179) (h178); subst e; exact okk_178 h)) (fun h179 h => bif_lt h (fun g180 h => (by have e : mi = 179 := Nat.le_antisymm (Nat.le_of_lt_succ g180) (h179); subst e; exact okk_179 h)) (fun h180 h => (by have e : mi = 180 := Nat.le_antisymm (Nat.le_of_lt_succ g181) (h180); subst e; exact okk_180 h)))))) (fun h181 h => bif_lt h (fun g186 h => bif_lt h (fun g183 h => bif_lt h (fun g182 h => (by have e : mi = 181 := Nat.le_antisymm (Nat.le_of_lt_succ g182) (h181); subst e; exact okk_181 h)) (fun h182 h => (by have e : mi = 182 := Nat.le_antisymm (Nat.le_of_lt_succ g183) (h182); subst e; exact okk_182 h))) (fun h183 h => bif_lt h (fun g184 h => (by have e : mi = 183 := Nat.le_antisymm (Nat.le_of_lt_succ g184) (h183); subst e; exact okk_183 h)) (fun h184 h => bif_lt h (fun g185 h => (by have e : mi = 184 := Nat.le_antisymm (Nat.le_of_lt_succ g185) (h184); subst e; exact okk_184 h)) (fun h185 h => (by have e : mi = 185 := Nat.le_antisymm (Nat.le_of_lt_succ g186) (h185); subst e; exact okk_185 h))))) (fun h186 h => bif_lt h (fun g188 h => bif_lt h (fun g187 h => (by have e : mi = 186 := Nat.le_antisymm (Nat.le_of_lt_succ g187) (h186); subst e; exact okk_186 h)) (fun h187 h => (by have e : mi = 187 := Nat.le_antisymm (Nat.le_of_lt_succ g188) (h187); subst e; exact okk_187 h))) (fun h188 h => bif_lt h (fun g189 h => (by have e : mi = 188 := Nat.le_antisymm (Nat.le_of_lt_succ g189) (h188); subst e; exact okk_188 h)) (fun h189 h => bif_lt h (fun g190 h => (by have e : mi = 189 := Nat.le_antisymm (Nat.le_of_lt_succ g190) (h189); subst e; exact okk_189 h)) (fun h190 h => (by have e : mi = 190 := Nat.le_antisymm (Nat.le_of_lt_succ g191) (h190); subst e; exact okk_190 h)))))))) (fun h191 h => bif_lt h (fun g210 h => bif_lt h (fun g200 h => bif_lt h (fun g195 h => bif_lt h (fun g193 h => bif_lt h (fun g192 h => (by have e : mi = 191 := Nat.le_antisymm (Nat.le_of_lt_succ g192) (h191); subst e; exact okk_191 h)) (fun h192 h => (by have e : mi = 192 := Nat.le_antisymm (Nat.le_of_lt_succ g193) (h192); subst e; exact okk_192 h))) (fun h193 h => bif_lt h (fun g194 h => (by have e : mi = 193 := Nat.le_antisymm (Nat.le_of_lt_succ g194) (h193); subst e; exact okk_193 h)) (fun h194 h => (by have e : mi = 194 := Nat.le_antisymm (Nat.le_of_lt_succ g195) (h194); subst e; exact okk_194 h)))) (fun h195 h => bif_lt h (fun g197 h => bif_lt h (fun g196 h => (by have e : mi = 195 := Nat.le_antisymm (Nat.le_of_lt_succ g196) (h195); subst e; exact okk_195 h)) (fun h196 h => (by have e : mi = 196 := Nat.le_antisymm (Nat.le_of_lt_succ g197) (h196); subst e; exact okk_196 h))) (fun h197 h => bif_lt h (fun g198 h => (by have e : mi = 197 := Nat.le_antisymm (Nat.le_of_lt_succ g198) (h197); subst e; exact okk_197 h)) (fun h198 h => bif_lt h (fun g199 h => (by have e : mi = 198 := Nat.le_antisymm (Nat.le_of_lt_succ g199) (h198); subst e; exact okk_198 h)) (fun h199 h => (by have e : mi = 199 := Nat.le_antisymm (Nat.le_of_lt_succ g200) (h199); subst e; exact okk_199 h)))))) (fun h200 h => bif_lt h (fun g205 h => bif_lt h (fun g202 h => bif_lt h (fun g201 h => (by have e : mi = 200 := Nat.le_antisymm (Nat.le_of_lt_succ g201) (h200); subst e; exact okk_200 h)) (fun h201 h => (by have e : mi = 201 := Nat.le_antisymm (Nat.le_of_lt_succ g202) (h201); subst e; exact okk_201 h))) (fun h202 h => bif_lt h (fun g203 h => (by have e : mi = 202 := Nat.le_antisymm (Nat.le_of_lt_succ g203) (h202); subst e; exact okk_202 h)) (fun h203 h => bif_lt h (fun g204 h => (by have e : mi = 203 := Nat.le_antisymm (Nat.le_of_lt_succ g204) (h203); subst e; exact okk_203 h)) (fun h204 h => (by have e : mi = 204 := Nat.le_antisymm (Nat.le_of_lt_succ g205) (h204); subst e; exact okk_204 h))))) (fun h205 h => bif_lt h (fun g207 h => bif_lt h (fun g206 h => (by have e : mi = 205 := Nat.le_antisymm (Nat.le_of_lt_succ g206) (h205); subst e; exact okk_205 h)) (fun h206 h => (by have e : mi = 206 := Nat.le_antisymm (Nat.le_of_lt_succ g207) (h206); subst e; exact okk_206 h))) (fun h207 h => bif_lt h (fun g208 h => (by have e : mi = 207 := Nat.le_antisymm (Nat.le_of_lt_succ g208) (h207); subst e; exact okk_207 h)) (fun h208 h => bif_lt h (fun g209 h => (by have e : mi = 208 := Nat.le_antisymm (Nat.le_of_lt_succ g209) (h208); subst e; exact okk_208 h)) (fun h209 h => (by have e : mi = 209 := Nat.le_antisymm (Nat.le_of_lt_succ g210) (h209); subst e; exact okk_209 h))))))) (fun h210 h => bif_lt h (fun g219 h => bif_lt h (fun g214 h => bif_lt h (fun g212 h => bif_lt h (fun g211 h => (by have e : mi = 210 := Nat.le_antisymm (Nat.le_of_lt_succ g211) (h210); subst e; exact okk_210 h)) (fun h211 h => (by have e : mi = 211 := Nat.le_antisymm (Nat.le_of_lt_succ g212) (h211); subst e; exact okk_211 h))) (fun h212 h => bif_lt h (fun g213 h => (by have e : mi = 212 := Nat.le_antisymm (Nat.le_of_lt_succ g213) (h212); subst e; exact okk_212 h)) (fun h213 h => (by have e : mi = 213 := Nat.le_antisymm (Nat.le_of_lt_succ g214) (h213); subst e; exact okk_213 h)))) (fun h214 h => bif_lt h (fun g216 h => bif_lt h (fun g215 h => (by have e : mi = 214 := Nat.le_antisymm (Nat.le_of_lt_succ g215) (h214); subst e; exact okk_214 h)) (fun h215 h => (by have e : mi = 215 := Nat.le_antisymm (Nat.le_of_lt_succ g216) (h215); subst e; exact okk_215 h))) (fun h216 h => bif_lt h (fun g217 h => (by have e : mi = 216 := Nat.le_antisymm (Nat.le_of_lt_succ g217) (h216); subst e; exact okk_216 h)) (fun h217 h => bif_lt h (fun g218 h => (by have e : mi = 217 := Nat.le_antisymm (Nat.le_of_lt_succ g218) (h217); subst e; exact okk_217 h)) (fun h218 h => (by have e : mi = 218 := Nat.le_antisymm (Nat.le_of_lt_succ g219) (h218); subst e; exact okk_218 h)))))) (fun h219 h => bif_lt h (fun g224 h => bif_lt h (fun g221 h => bif_lt h (fun g220 h => (by have e : mi = 219 := Nat.le_antisymm (Nat.le_of_lt_succ g220) (h219); subst e; exact okk_219 h)) (fun h220 h => (by have e : mi = 220 := Nat.le_antisymm (Nat.le_of_lt_succ g221) (h220); subst e; exact okk_220 h))) (fun h221 h => bif_lt h (fun g222 h => (by have e : mi = 221 := Nat.le_antisymm (Nat.le_of_lt_succ g222) (h221); subst e; exact okk_221 h)) (fun h222 h => bif_lt h (fun g223 h => (by have e : mi = 222 := Nat.le_antisymm (Nat.le_of_lt_succ g223) (h222); subst e; exact okk_222 h)) (fun h223 h => (by have e : mi = 223 := Nat.le_antisymm (Nat.le_of_lt_succ g224) (h223); subst e; exact okk_223 h))))) (fun h224 h => bif_lt h (fun g226 h => bif_lt h (fun g225 h => (by have e : mi = 224 := Nat.le_antisymm (Nat.le_of_lt_succ g225) (h224); subst e; exact okk_224 h)) (fun h225 h => (by have e : mi = 225 := Nat.le_antisymm (Nat.le_of_lt_succ g226) (h225); subst e; exact okk_225 h))) (fun h226 h => bif_lt h (fun g227 h => (by have e : mi = 226 := Nat.le_antisymm (Nat.le_of_lt_succ g227) (h226); subst e; exact okk_226 h)) (fun h227 h => bif_lt h (fun g228 h => (by have e : mi = 227 := Nat.le_antisymm (Nat.le_of_lt_succ g228) (h227); subst e; exact okk_227 h)) (fun h228 h => (by have e : mi = 228 := Nat.le_antisymm (Nat.le_of_lt_succ g229) (h228); subst e; exact okk_228 h))))))))) (fun h229 h => bif_lt h (fun g267 h => bif_lt h (fun g248 h => bif_lt h (fun g238 h => bif_lt h (fun g233 h => bif_lt h (fun g231 h => bif_lt h (fun g230 h => (by have e : mi = 229 := Nat.le_antisymm (Nat.le_of_lt_succ g230) (h229); subst e; exact okk_229 h)) (fun h230 h => (by have e : mi = 230 := Nat.le_antisymm (Nat.le_of_lt_succ g231) (h230); subst e; exact okk_230 h))) (fun h231 h => bif_lt h (fun g232 h => (by have e : mi = 231 := Nat.le_antisymm (Nat.le_of_lt_succ g232) (h231); subst e; exact okk_231 h)) (fun h232 h => (by have e : mi = 232 := Nat.le_antisymm (Nat.le_of_lt_succ g233) (h232); subst e; exact okk_232 h)))) (fun h233 h => bif_lt h (fun g235 h => bif_lt h (fun g234 h => (by have e : mi = 233 := Nat.le_antisymm (Nat.le_of_lt_succ g234) (h233); subst e; exact okk_233 h)) (fun h234 h => (by have e : mi = 234 := Nat.le_antisymm (Nat.le_of_lt_succ g235) (h234); subst e; exact okk_234 h))) (fun h235 h => bif_lt h (fun g236 h => (by have e : mi = 235 := Nat.le_antisymm (Nat.le_of_lt_succ g236) (h235); subst e; exact okk_235 h)) (fun h236 h => bif_lt h (fun g237 h => (by have e : mi = 236 := Nat.le_antisymm (Nat.le_of_lt_succ g237) (h236); subst e; exact okk_236 h)) (fun h237 h => (by have e : mi = 237 := Nat.le_antisymm (Nat.le_of_lt_succ g238) (h237); subst e; exact okk_237 h)))))) (fun h238 h => bif_lt h (fun g243 h => bif_lt h (fun g240 h => bif_lt h (fun g239 h => (by have e : mi = 238 := Nat.le_antisymm (Nat.le_of_lt_succ g239) (h238); subst e; exact okk_238 h)) (fun h239 h => (by have e : mi = 239 := Nat.le_antisymm (Nat.le_of_lt_succ g240) (h239); subst e; exact okk_239 h))) (fun h240 h => bif_lt h (fun g241 h => (by have e : mi = 240 := Nat.le_antisymm (Nat.le_of_lt_succ g241) (h240); subst e; exact okk_240 h)) (fun h241 h => bif_lt h (fun g242 h => (by have e : mi = 241 := Nat.le_antisymm (Nat.le_of_lt_succ g242) (h241); subst e; exact okk_241 h)) (fun h242 h => (by have e : mi = 242 := Nat.le_antisymm (Nat.le_of_lt_succ g243) (h242); subst e; exact okk_242 h))))) (fun h243 h => bif_lt h (fun g245 h => bif_lt h (fun g244 h => (by have e : mi = 243 := Nat.le_antisymm (Nat.le_of_lt_succ g244) (h243); subst e; exact okk_243 h)) (fun h244 h => (by have e : mi = 244 := Nat.le_antisymm (Nat.le_of_lt_succ g245) (h244); subst e; exact okk_244 h))) (fun h245 h => bif_lt h (fun g246 h => (by have e : mi = 245 := Nat.le_antisymm (Nat.le_of_lt_succ g246) (h245); subst e; exact okk_245 h)) (fun h246 h => bif_lt h (fun g247 h => (by have e : mi = 246 := Nat.le_antisymm (Nat.le_of_lt_succ g247) (h246); subst e; exact okk_246 h)) (fun h247 h => (by have e : mi = 247 := Nat.le_antisymm (Nat.le_of_lt_succ g248) (h247); subst e; exact okk_247 h))))))) (fun h248 h => bif_lt h (fun g257 h => bif_lt h (fun g252 h => bif_lt h (fun g250 h => bif_lt h (fun g249 h => (by have e : mi = 248 := Nat.le_antisymm (Nat.le_of_lt_succ g249) (h248); subst e; exact okk_248 h)) (fun h249 h => (by have e : mi = 249 := Nat.le_antisymm (Nat.le_of_lt_succ g250) (h249); subst e; exact okk_249 h))) (fun h250 h => bif_lt h (fun g251 h => (by have e : mi = 250 := Nat.le_antisymm (Nat.le_of_lt_succ g251) (h250); subst e; exact okk_250 h)) (fun h251 h => (by have e : mi = 251 := Nat.le_antisymm (Nat.le_of_lt_succ g252) (h251); subst e; exact okk_251 h)))) (fun h252 h => bif_lt h (fun g254 h => bif_lt h (fun g253 h => (by have e : mi = 252 := Nat.le_antisymm (Nat.le_of_lt_succ g253) (h252); subst e; exact okk_252 h)) (fun h253 h => (by have e : mi = 253 := Nat.le_antisymm (Nat.le_of_lt_succ g254) (h253); subst e; exact okk_253 h))) (fun h254 h => bif_lt h (fun g255 h => (by have e : mi = 254 := Nat.le_antisymm (Nat.le_of_lt_succ g255) (h254); subst e; exact okk_254 h)) (fun h255 h => bif_lt h (fun g256 h => (by have e : mi = 255 := Nat.le_antisymm (Nat.le_of_lt_succ g256) (h255); subst e; exact okk_255 h)) (fun h256 h => (by have e : mi = 256 := Nat.le_antisymm (Nat.le_of_lt_succ g257) (h256); subst e; exact okk_256 h)))))) (fun h257 h => bif_lt h (fun g262 h => bif_lt h (fun g259 h => bif_lt h (fun g258 h => (by have e : mi = 257 := Nat.le_antisymm (Nat.le_of_lt_succ g258) (h257); subst e; exact okk_257 h)) (fun h258 h => (by have e : mi = 258 := Nat.le_antisymm (Nat.le_of_lt_succ g259) (h258); subst e; exact okk_258 h))) (fun h259 h => bif_lt h (fun g260 h => (by have e : mi = 259 := Nat.le_antisymm (Nat.le_of_lt_succ g260) (h259); subst e; exact okk_259 h)) (fun h260 h => bif_lt h (fun g261 h => (by have e : mi = 260 := Nat.le_antisymm (Nat.le_of_lt_succ g261) (h260); subst e; exact okk_260 h)) (fun h261 h => (by have e : mi = 261 := Nat.le_antisymm (Nat.le_of_lt_succ g262) (h261); subst e; exact okk_261 h))))) (fun h262 h => bif_lt h (fun g264 h => bif_lt h (fun g263 h => (by have e : mi = 262 := Nat.le_antisymm (Nat.le_of_lt_succ g263) (h262); subst e; exact okk_262 h)) (fun h263 h => (by have e : mi = 263 := Nat.le_antisymm (Nat.le_of_lt_succ g264) (h263); subst e; exact okk_263 h))) (fun h264 h => bif_lt h (fun g265 h => (by have e : mi = 264 := Nat.le_antisymm (Nat.le_of_lt_succ g265) (h264); subst e; exact okk_264 h)) (fun h265 h => bif_lt h (fun g266 h => (by have e : mi = 265 := Nat.le_antisymm (Nat.le_of_lt_succ g266) (h265); subst e; exact okk_265 h)) (fun h266 h => (by have e : mi = 266 := Nat.le_antisymm (Nat.le_of_lt_succ g267) (h266); subst e; exact okk_266 h)))))))) (fun h267 h => bif_lt h (fun g286 h => bif_lt h (fun g276 h => bif_lt h (fun g271 h => bif_lt h (fun g269 h => bif_lt h (fun g268 h => (by have e : mi = 267 := Nat.le_antisymm (Nat.le_of_lt_succ g268) (h267); subst e; exact okk_267 h)) (fun h268 h => (by have e : mi = 268 := Nat.le_antisymm (Nat.le_of_lt_succ g269) (h268); subst e; exact okk_268 h))) (fun h269 h => bif_lt h (fun g270 h => (by have e : mi = 269 := Nat.le_antisymm (Nat.le_of_lt_succ g270) (h269); subst e; exact okk_269 h)) (fun h270 h => (by have e : mi = 270 := Nat.le_antisymm (Nat.le_of_lt_succ g271) (h270); subst e; exact okk_270 h)))) (fun h271 h => bif_lt h (fun g273 h => bif_lt h (fun g272 h => (by have e : mi = 271 := Nat.le_antisymm (Nat.le_of_lt_succ g272) (h271); subst e; exact okk_271 h)) (fun h272 h => (by have e : mi = 272 := Nat.le_antisymm (Nat.le_of_lt_succ g273) (h272); subst e; exact okk_272 h))) (fun h273 h => bif_lt h (fun g274 h => (by have e : mi = 273 := Nat.le_antisymm (Nat.le_of_lt_succ g274) (h273); subst e; exact okk_273 h)) (fun h274 h => bif_lt h (fun g275 h => (by have e : mi = 274 := Nat.le_antisymm (Nat.le_of_lt_succ g275) (h274); subst e; exact okk_274 h)) (fun h275 h => (by have e : mi = 275 := Nat.le_antisymm (Nat.le_of_lt_succ g276) (h275); subst e; exact okk_275 h)))))) (fun h276 h => bif_lt h (fun g281 h => bif_lt h (fun g278 h => bif_lt h (fun g277 h => (by have e : mi = 276 := Nat.le_antisymm (Nat.le_of_lt_succ g277) (h276); subst e; exact okk_276 h)) (fun h277 h => (by have e : mi = 277 := Nat.le_antisymm (Nat.le_of_lt_succ g278) (h277); subst e; exact okk_277 h))) (fun h278 h => bif_lt h (fun g279 h => (by have e : mi = 278 := Nat.le_antisymm (Nat.le_of_lt_succ g279) (h278); subst e; exact okk_278 h)) (fun h279 h => bif_lt h (fun g280 h => (by have e : mi = 279 := Nat.le_antisymm (Nat.le_of_lt_succ g280) (h279); subst e; exact okk_279 h)) (fun h280 h => (by have e : mi = 280 := Nat.le_antisymm (Nat.le_of_lt_succ g281) (h280); subst e; exact okk_280 h))))) (fun h281 h => bif_lt h (fun g283 h => bif_lt h (fun g282 h => (by have e : mi = 281 := Nat.le_antisymm (Nat.le_of_lt_succ g282) (h281); subst e; exact okk_281 h)) (fun h282 h => (by have e : mi = 282 := Nat.le_antisymm (Nat.le_of_lt_succ g283) (h282); subst e; exact okk_282 h))) (fun h283 h => bif_lt h (fun g284 h => (by have e : mi = 283 := Nat.le_antisymm (Nat.le_of_lt_succ g284) (h283); subst e; exact okk_283 h)) (fun h284 h => bif_lt h (fun g285 h => (by have e : mi = 284 := Nat.le_antisymm (Nat.le_of_lt_succ g285) (h284); subst e; exact okk_284 h)) (fun h285 h => (by have e : mi = 285 := Nat.le_antisymm (Nat.le_of_lt_succ g286) (h285); subst e; exact okk_285 h))))))) (fun h286 h => bif_lt h (fun g296 h => bif_lt h (fun g291 h => bif_lt h (fun g288 h => bif_lt h (fun g287 h => (by have e : mi = 286 := Nat.le_antisymm (Nat.le_of_lt_succ g287) (h286); subst e; exact okk_286 h)) (fun h287 h => (by have e : mi = 287 := Nat.le_antisymm (Nat.le_of_lt_succ g288) (h287); subst e; exact okk_287 h))) (fun h288 h => bif_lt h (fun g289 h => (by have e : mi = 288 := Nat.le_antisymm (Nat.le_of_lt_succ g289) (h288); subst e; exact okk_288 h)) (fun h289 h => bif_lt h (fun g290 h => (by have e : mi = 289 := Nat.le_antisymm (Nat.le_of_lt_succ g290) (h289); subst e; exact okk_289 h)) (fun h290 h => (by have e : mi = 290 := Nat.le_antisymm (Nat.le_of_lt_succ g291) (h290); subst e; exact okk_290 h))))) (fun h291 h => bif_lt h (fun g293 h => bif_lt h (fun g292 h => (by have e : mi = 291 := Nat.le_antisymm (Nat.le_of_lt_succ g292) (h291); subst e; exact okk_291 h)) (fun h292 h => (by have e : mi = 292 := Nat.le_antisymm (Nat.le_of_lt_succ g293) (h292); subst e; exact okk_292 h))) (fun h293 h => bif_lt h (fun g294 h => (by have e : mi = 293 := Nat.le_antisymm (Nat.le_of_lt_succ g294) (h293); subst e; exact okk_293 h)) (fun h294 h => bif_lt h (fun g295 h => (by have e : mi = 294 := Nat.le_antisymm (Nat.le_of_lt_succ g295) (h294); subst e; exact okk_294 h)) (fun h295 h => (by have e : mi = 295 := Nat.le_antisymm (Nat.le_of_lt_succ g296) (h295); subst e; exact okk_295 h)))))) (fun h296 h => bif_lt h (fun g301 h => bif_lt h (fun g298 h => bif_lt h (fun g297 h => (by have e : mi = 296 := Nat.le_antisymm (Nat.le_of_lt_succ g297) (h296); subst e; exact okk_296 h)) (fun h297 h => (by have e : mi = 297 := Nat.le_antisymm (Nat.le_of_lt_succ g298) (h297); subst e; exact okk_297 h))) (fun h298 h => bif_lt h (fun g299 h => (by have e : mi = 298 := Nat.le_antisymm (Nat.le_of_lt_succ g299) (h298); subst e; exact okk_298 h)) (fun h299 h => bif_lt h (fun g300 h => (by have e : mi = 299 := Nat.le_antisymm (Nat.le_of_lt_succ g300) (h299); subst e; exact okk_299 h)) (fun h300 h => (by have e : mi = 300 := Nat.le_antisymm (Nat.le_of_lt_succ g301) (h300); subst e; exact okk_300 h))))) (fun h301 h => bif_lt h (fun g303 h => bif_lt h (fun g302 h => (by have e : mi = 301 := Nat.le_antisymm (Nat.le_of_lt_succ g302) (h301); subst e; exact okk_301 h)) (fun h302 h => (by have e : mi = 302 := Nat.le_antisymm (Nat.le_of_lt_succ g303) (h302); subst e; exact okk_302 h))) (fun h303 h => bif_lt h (fun g304 h => (by have e : mi = 303 := Nat.le_antisymm (Nat.le_of_lt_succ g304) (h303); subst e; exact okk_303 h)) (fun h304 h => bif_lt h (fun g305 h => (by have e : mi = 304 := Nat.le_antisymm (Nat.le_of_lt_succ g305) (h304); subst e; exact okk_304 h)) (fun h305 h => (by have e : mi = 305 := Nat.le_antisymm (Nat.le_of_lt_succ hm) (h305); subst e; exact okk_305 h))))))))))
end
section
section PVT
variable {p : Program} {l : Launch} {e : Env} {R : Room} {s : State} {m₀ : MethodId} {args : Array Value} {below : List Frame} {meth : Method} {c : Code} {W : State} {locs : List Loc} {cells slots : Nat}
def px_at (own : String) (ic : Nat) (X : String) (ix : Nat) (rx : ByteArray) (Y : String) (r : List String) : List Cond :=
  Bundle.throwableAtoms ++ Bundle.throwableSAtoms ++ (Bundle.passSAtoms X Y ix rx ++ Bundle.chainSAtoms Y r) ++
  [.methodLink own ic (Bundle.initS X), .instantiable X 6, .castable X X, .selects X Bundle.tFill0 Bundle.tFill0, .selects X Bundle.tFill Bundle.tFill,
   .lays X Bundle.tN "cause" "Ljava/lang/Throwable;", .lays X Bundle.tN "stackTrace" Bundle.steD, .lays X Bundle.tN "suppressedExceptions" Bundle.listD, .lays X Bundle.tN "detailMessage" "Ljava/lang/String;",
   .isRef (.static Bundle.tN "UNASSIGNED_STACK" Bundle.steD), .isRef (.static Bundle.tN "SUPPRESSED_SENTINEL" Bundle.listD),
   .fieldLink Bundle.tN 198 Bundle.tN "backtrace" "Ljava/lang/Object;", .lays Bundle.tN Bundle.tN "backtrace" "Ljava/lang/Object;", .lays X Bundle.tN "backtrace" "Ljava/lang/Object;"]
theorem pv_chain {args : Array Value} {s : State} {pl : Platform} (hpl : pl.magicAccessors = ({} : Platform).magicAccessors) {top : MethodId} (htop : s.methodNamed? (Bundle.initS Bundle.tN) = some top)
    {ix : Nat} {rx : ByteArray} (x0 : decode rx 0 = .ok (.aload_n 0, 1)) (x1 : decode rx 1 = .ok (.aload_n 1, 1)) (x2 : decode rx 2 = .ok (.invokespecial ix, 3)) (x5 : decode rx 5 = .ok (.return_, 1))
    {X Y : String} {r : List String} (hX : Bundle.fit X = true) (hY : Bundle.fit Y = true) (hn : ∀ n ∈ r, Bundle.fit n = true) (h : ∀ c ∈ Bundle.passSAtoms X Y ix rx ++ Bundle.chainSAtoms Y r, c.before args s = true) :
      ∃ (P1 : PassC) (Ps : List PassC), Ps.length = r.length + 1 ∧ P1.LinksS pl s ∧ (∀ P, P ∈ Ps → P.LinksS pl s) ∧ s.methodNamed? (Bundle.initS X) = some P1.m ∧
        P1.sup = firstOf top (Ps.map (·.toPassT)) ∧ PassesOn top (Ps.map (·.toPassT)) := by
  obtain ⟨P, L, hm, hs⟩ := PassC.ofS_atoms (args := args) (s := s) hpl (X := X) (Y := Y) (Bundle.fit_spec hX).1 (Bundle.fit_spec hY).2 x0 x1 x2 x5 (fun c hc => h c (List.mem_append_left _ hc))
  obtain ⟨P2, Ps, hlen, L2, hL, hm2, hsup, hpass⟩ := Bundle.chainS (args := args) hpl htop r Y hY hn (fun c hc => h c (List.mem_append_right _ hc))
  refine ⟨P, P2 :: Ps, by simp [hlen], L, ?_, hm, Option.some.inj (hs.symm.trans hm2), hsup, hpass⟩
  intro Q hQ
  rcases List.mem_cons.mp hQ with rfl | hQ
  · exact L2
  · exact hL Q hQ
set_option maxHeartbeats 4000000 in
theorem pv_ctor (X : Stand p l e R s m₀ args below meth c W locs cells slots) (hexec : p.tables.exec = Jvm.exec) (htr : e.platform.stackTraces = false) {own cls Y9 : String} {r9 : List String} {ic ix : Nat} {rx : ByteArray} (x0 : decode rx 0 = .ok (.aload_n 0, 1)) (x1 : decode rx 1 = .ok (.aload_n 1, 1)) (x2 : decode rx 2 = .ok (.invokespecial ix, 3)) (x5 : decode rx 5 = .ok (.return_, 1))
    (hown : s.vm.findClass own = some m₀.cls) (hcls : Bundle.fit cls = true) (hY9 : Bundle.fit Y9 = true) (hr9 : ∀ n ∈ r9, Bundle.fit n = true)
    (h : ∀ a ∈ px_at own ic cls ix rx Y9 r9, a.before args s = true)
    (hlocs : ∀ x ∈ locs, ∀ cell, s.heap[x.base]? = some cell → cell.vm.isStatics = false)
    {a : Addr} {cX : ClassId} {kX : Class} (hfoundX : s.vm.findClass cls = some cX) (hkX : s.vm.classes[cX]? = some kX) (hcell : W.heap[a]? = some (freshCell cX kX)) (hnew : s.heap.size ≤ a)
    {msg : Value} (hmsg : msg.isRef = true)
    {g : JFrame} (hg : g.method = m₀) (hsize : g.locals.size = c.maxLocals) (hlocked : g.locked = none) (hentered : g.entered = []) {rest : List Value} (hstack : g.stack = msg :: .ref a :: .ref a :: rest)
    (hd6 : decode c.code g.pc = .ok (.invokespecial ic, 3)) (hd9 : decode c.code (g.pc + 3) = .ok (.athrow, 1)) (hout : ∀ x ∈ c.exceptionTable.toList, covers x (g.pc + 3) = false)
    (hRframes : (r9.length + 1) + 3 < R.frames) (hRlocals : 2 * g.monitorRoom + ((Value.ref a :: rest).map fun v => v.category).sum + (13 * ((r9.length + 1) + 1) + 42) ≤ R.locals) (hlocks : meth.locks = false := by first | assumption | exact BodyLoose.notSynchronized (by assumption) | exact Body.notSynchronized (by assumption)) :
    ∃ U : State, Steps p.tables e below (W.setTop g) U ∧ U.status = .running ∧ Ended U below (.threw a) ∧ s.WarmedH U.vm ∧ s.sameButNew ({ U with vm := s.vm } : State) locs cells slots ∧
      ∃ ce, U.heap[a]? = some ce ∧ Bundle.OwnCell args s cls a msg ce := by
  have howns : e.platform.frameOwnsMonitors = true := by rw [X.admits.platform]
  have hfin : e.platform.finalization = false := by rw [X.admits.platform]
  have hpl : e.platform.magicAccessors = ({} : Platform).magicAccessors := by rw [X.admits.platform]
  have a' : ∀ x, x ∈ px_at own ic cls ix rx Y9 r9 → x.holds args s none s [] = true := fun x hx => h x hx
  obtain ⟨T, Z0, L, -, Y⟩ := ThrowableC.of_atoms (args := args) howns hfin hpl (fun x hx => h x (by simp [px_at, hx]))
  obtain ⟨Z, M, LZ, LM, hnZ⟩ := Init0T.ofS_atoms (args := args) hpl L Y (fun x hx => h x (by simp [px_at, hx]))
  obtain ⟨P1, Ps, hlen, L1, hL, hP1m, hlink1, hlink⟩ := pv_chain (args := args) hpl hnZ x0 x1 x2 x5 hcls hY9 hr9 (fun x hx => h x (by simp only [px_at, List.mem_append] at *; exact Or.inl (Or.inr (hx))))
  have hfound : s.vm.findClass cls = some P1.m.cls := findClass_of_methodNamed hP1m
  cases Option.some.inj (hfoundX.symm.trans hfound)
  obtain ⟨c1, kX', hc1, hk, hord, -, -, hn6⟩ := Cond.instantiable_spec (a' (.instantiable cls 6) (by simp [px_at]))
  cases Option.some.inj (hc1.symm.trans hfound)
  cases Option.some.inj (hkX.symm.trans hk)
  have hsel0 : selectMethod e.platform s.vm P1.m.cls T.fill0 = .method T.fill0 := by
    obtain ⟨c2, r2, m2, q1, q2, q3, q4, -⟩ := Cond.selects_spec (a' (.selects cls Bundle.tFill0 Bundle.tFill0) (by simp [px_at]))
    cases Option.some.inj (q1.symm.trans hfound)
    cases Option.some.inj (q2.symm.trans (State.methodFound?_of_named Y.fill0 (by decide)))
    cases Option.some.inj (q3.symm.trans Y.fill0)
    rw [Launch.admits_selectMethod X.admits]; exact q4
  have hselF : selectMethod e.platform s.vm P1.m.cls T.fill = .method T.fill := by
    obtain ⟨c2, r2, m2, q1, q2, q3, q4, -⟩ := Cond.selects_spec (a' (.selects cls Bundle.tFill Bundle.tFill) (by simp [px_at]))
    cases Option.some.inj (q1.symm.trans hfound)
    cases Option.some.inj (q2.symm.trans (State.methodFound?_of_named Y.fill (by decide)))
    cases Option.some.inj (q3.symm.trans Y.fill)
    rw [Launch.admits_selectMethod X.admits]; exact q4
  obtain ⟨cellS0, hcS0, hiss⟩ := Y.statics
  obtain ⟨u0, hu0⟩ := Cond.staticRefV Y.unassigned L.unassignedStatic L.statics hcS0 hiss (a' (.isRef (.static Bundle.tN "UNASSIGNED_STACK" Bundle.steD)) (by simp [px_at]))
  obtain ⟨sen, hsen⟩ := Cond.staticRefV Y.sentinel L.sentinelStatic L.statics hcS0 hiss (a' (.isRef (.static Bundle.tN "SUPPRESSED_SENTINEL" Bundle.listD)) (by simp [px_at]))
  obtain ⟨ci198, i198, fB, hk198, hg198, ha198, hsB, -, hnB, htB, hffB⟩ := Cond.ownField (t := .object "java/lang/Object") Y.found L.cls (by decide +kernel) (a' (.fieldLink Bundle.tN 198 Bundle.tN "backtrace" "Ljava/lang/Object;") (by simp [px_at])) (a' (.lays Bundle.tN Bundle.tN "backtrace" "Ljava/lang/Object;") (by simp [px_at])) e.platform hpl
  obtain ⟨cellS, hcS', heS, -, hkeep⟩ := X.same.2.2.2.2.2 T.aS cellS0 hcS0
  have hcellS : W.heap[T.aS]? = some cellS := hcS'
  have hout' : ∀ i, (⟨T.aS, i⟩ : Loc) ∉ locs := fun i hmem => by
    have := hlocs _ hmem cellS0 hcS0
    rw [hiss] at this; cases this
  have hknownS : cellS.vm ≠ .unknown := by
    rw [heS]; intro hu
    rw [show cellS0.vm = .unknown from hu] at hiss
    cases hiss
  have hneS : T.aS ≠ a := Nat.ne_of_lt (Nat.lt_of_lt_of_le (Array.getElem?_eq_some_iff.mp hcS0).1 hnew)
  obtain ⟨iM, hffM⟩ := Y.msg
  obtain ⟨tyC, dC, hdC, hdnC⟩ := Cond.laysAt hfound hk Y.cause (a' (.lays cls Bundle.tN "cause" "Ljava/lang/Throwable;") (by simp [px_at]))
  obtain ⟨tyS, dS, hdS, hdnS⟩ := Cond.laysAt hfound hk Y.stack (a' (.lays cls Bundle.tN "stackTrace" Bundle.steD) (by simp [px_at]))
  obtain ⟨tyP, dP, hdP, hdnP⟩ := Cond.laysAt hfound hk Y.supp (a' (.lays cls Bundle.tN "suppressedExceptions" Bundle.listD) (by simp [px_at]))
  obtain ⟨tyM, dM, hdM, hdnM⟩ := Cond.laysAt hfound hk hffM (a' (.lays cls Bundle.tN "detailMessage" "Ljava/lang/String;") (by simp [px_at]))
  obtain ⟨tyB, dB, hdB, hdnB⟩ := Cond.laysAt hfound hk hffB (a' (.lays cls Bundle.tN "backtrace" "Ljava/lang/Object;") (by simp [px_at]))
  have bC := Cond.laysApart hdB hdC hdnB hdnC (by rw [hnB, Y.causeName]; decide)
  have bS := Cond.laysApart hdB hdS hdnB hdnS (by rw [hnB, Y.stackName]; decide)
  have bP := Cond.laysApart hdB hdP hdnB hdnP (by rw [hnB, Y.suppName]; decide)
  have hskip : SkipFacts T e.platform s (fun u => u) u0 ((preparedCellV T.toThrowableT (freshCell P1.m.cls kX) a u0 sen).withEntry W.cur) :=
    ⟨{ ci198 := ci198, i198 := i198, fBack := fB }, ⟨hk198, hg198, ha198, hsB⟩, by
      have := fresh_default (c := P1.m.cls) tyB
      rw [htB] at this
      simpa [preparedCellV, Cell.setSlot, Cell.withEntry, Array.getElem?_setIfInBounds, bC, bS, bP, bC.symm, bS.symm, bP.symm, defaultValue] using this, fun _ _ => rfl⟩
  obtain ⟨tm, methC, cdC, kC, vm₁, hnC, -, -, -, -, -, -, -, hW₁, st1⟩ := Steps.initColdS (tb := p.tables) (e := e) (below := below) (s := s) (U := W) X.here hexec X.warmed hpl hown (t := Bundle.initS cls) rfl rfl (Bundle.fit_spec hcls).2
    (a' (.methodLink own ic (Bundle.initS cls)) (by simp [px_at])) (h (.instanceMethod (Bundle.initS cls)) (by simp [px_at, Bundle.passSAtoms])) (bytes := rx) (maxL := 2) (h (.code (Bundle.initS cls) rx 2 none) (by simp [px_at, Bundle.passSAtoms]))
    (f := g) hg (a := a) (msg := msg) (rest := .ref a :: rest) hstack hd6
  cases Option.some.inj (hnC.symm.trans hP1m)
  have X₁ := X.noted hW₁
  obtain ⟨vm₂, X₂, st2⟩ := X₁.ctorMessageOffV hexec (g := { g with stack := .ref a :: rest }) hg hsize T L Z LZ M LM (P1 :: Ps)
    (fun P hP => by rcases List.mem_cons.mp hP with rfl | hP; exact L1; exact hL P hP) ⟨hlink1, hlink⟩ (u0 := u0) (sen := sen) (self := a) hmsg (cell := freshCell P1.m.cls kX) (cellS := cellS)
    hcell (fun _ => by simp) (by simp) rfl rfl hsel0 hselF hcellS hneS hknownS (by rw [hkeep _ (hout' _)]; exact hu0) (by rw [hkeep _ (hout' _)]; exact hsen)
    (Takes.of_laid hk hord tyC (by rw [Y.causeType]; rfl)) (Takes.of_laid hk hord tyS (by rw [Y.stackType]; exact fits_refV_array _ u0)) (Takes.of_laid hk hord tyP (by rw [Y.suppType]; exact fits_refV_object _ sen))
    (Takes.of_laid hk hord tyM (by rw [Y.msgType]; exact fits_refV_object _ ⟨msg, hmsg⟩)) Y.objLocals hskip htr [] hd6
    (by simp only [List.length_cons, hlen]; omega) (by simp only [List.length_cons, hlen]; exact hRlocals)
  obtain ⟨hwalk, hrun, hended, hWU, hsame⟩ := X₂.athrowLeaves hexec (g := { g with stack := .ref a :: rest, pc := g.pc + 3 }) hg hlocked hentered hout (a := a) (rest := rest) rfl hd9
  obtain ⟨c3, c4, hc3, hc4, hasg⟩ := Cond.castable_spec (a' (.castable cls cls) (by simp [px_at]))
  cases Option.some.inj (hc3.symm.trans hfound)
  cases Option.some.inj (hc4.symm.trans hfound)
  have hlt : a < ((W.setVm vm₁).setVm vm₂).heap.size := (Array.getElem?_eq_some_iff.mp hcell).1
  have hU := heapAt_setCell_self (s := (W.setVm vm₁).setVm vm₂) (plainBareV T.toThrowableT (freshCell P1.m.cls kX) a u0 sen msg) hlt
  have hnM : T.fMsg.name = "detailMessage" := (State.fieldFound?_type hffM (t := .object "java/lang/String") (by decide +kernel)).1
  have nCS := Cond.laysApart hdC hdS hdnC hdnS (by rw [Y.causeName, Y.stackName]; decide)
  have nCP := Cond.laysApart hdC hdP hdnC hdnP (by rw [Y.causeName, Y.suppName]; decide)
  have nCM := Cond.laysApart hdC hdM hdnC hdnM (by rw [Y.causeName, hnM]; decide)
  have nSP := Cond.laysApart hdS hdP hdnS hdnP (by rw [Y.stackName, Y.suppName]; decide)
  have nSM := Cond.laysApart hdS hdM hdnS hdnM (by rw [Y.stackName, hnM]; decide)
  have nPM := Cond.laysApart hdP hdM hdnP hdnM (by rw [Y.suppName, hnM]; decide)
  have lC : T.fCause.slot < kX.instanceTypes.size := (Array.getElem?_eq_some_iff.mp tyC).1
  have lS : T.fStack.slot < kX.instanceTypes.size := (Array.getElem?_eq_some_iff.mp tyS).1
  have lP : T.fSupp.slot < kX.instanceTypes.size := (Array.getElem?_eq_some_iff.mp tyP).1
  have lM : T.fMsg.slot < kX.instanceTypes.size := (Array.getElem?_eq_some_iff.mp tyM).1
  have evU : ∀ o, (Term.static Bundle.tN "UNASSIGNED_STACK" Bundle.steD).eval args s o [] s = some u0.v := by
    intro o
    simp [Term.eval, State.fieldNamed?, Y.unassigned, L.unassignedStatic, L.statics, hcS0, hiss, hu0]
  have evS : ∀ o, (Term.static Bundle.tN "SUPPRESSED_SENTINEL" Bundle.listD).eval args s o [] s = some sen.v := by
    intro o
    simp [Term.eval, State.fieldNamed?, Y.sentinel, L.sentinelStatic, L.statics, hcS0, hiss, hsen]
  refine ⟨_, st1 _ (fun acts => ?_), hrun, hended, hWU, hsame.weaken (fun y hy hlt' => ?_) (Nat.le_refl _) (Nat.le_refl _), _, hU, ?_⟩
  · rw [doInvoke_state]
    exact st2 _ hwalk
  · rcases List.mem_append.mp hy with h1 | h1
    · exact h1
    · exfalso
      have hb : y.base = a := by
        simp only [List.mem_cons, List.not_mem_nil, or_false] at h1
        rcases h1 with rfl | rfl | rfl | rfl | rfl <;> rfl
      rw [hb] at hlt'
      exact Nat.not_lt.mpr hnew hlt'
  · exact { cls := hfound, self := hasg, monitor := rfl, hash := rfl, vm := rfl, size := by simp [plainBareV, preparedCellV, Cell.setSlot, hn6]
            cause := ⟨_, _, _, _, Y.cause, by simp [plainBareV, preparedCellV, Cell.setSlot, nCS.symm, nCP.symm, nCM.symm, lC]⟩
            stack := ⟨_, _, _, _, u0, Y.stack, by simp [plainBareV, preparedCellV, Cell.setSlot, nSM.symm, lS], evU⟩
            supp := ⟨_, _, _, _, sen, Y.supp, by simp [plainBareV, preparedCellV, Cell.setSlot, nSP, nPM.symm, lP], evS⟩
            msg := ⟨_, _, _, _, hffM, by simp [plainBareV, preparedCellV, Cell.setSlot, lM]⟩
            other := fun O f d c k i fd hf hy n1 n2 n3 n4 => by
              obtain ⟨ty, dd, hdd, hddn⟩ := Cond.laysAt hfound hk hf hy
              have m1 := Cond.laysApart hdd hdC hddn hdnC (by rw [Y.causeName]; exact n1)
              have m2 := Cond.laysApart hdd hdS hddn hdnS (by rw [Y.stackName]; exact n2)
              have m3 := Cond.laysApart hdd hdP hddn hdnP (by rw [Y.suppName]; exact n3)
              have m4 := Cond.laysApart hdd hdM hddn hdnM (by rw [hnM]; exact n4)
              have := fresh_default (c := P1.m.cls) ty
              simpa [plainBareV, preparedCellV, Cell.setSlot, Array.getElem?_setIfInBounds, m1, m2, m3, m4, m1.symm, m2.symm, m3.symm, m4.symm] using this }
end PVT
section Ends
variable {p : Program} {l : Launch} {e : Env} {R : Room} {s : State} {m : MethodId} {args : Array Value} {below : List Frame} {meth : Method} {c : Code} {H : Heap} {locs : List Loc} {cells slots : Nat} {Q : State → Prop}
variable {mc ms : Nat} {free : Addr → Prop} {A0 A1 : Nat → Prop} {H0 : Heap} {a : Array Value} {ls : Array Slot} {st0 rest : List Value}
variable {Qc : Array Value → State → Outcome → State → Prop} {XC : String → State → State → Prop}
set_option maxHeartbeats 4000000 in
theorem pv_throwS {cc : ByteArray} {pc : Nat} (hexec : p.tables.exec = Jvm.exec) (hb : c.code = cc) (hl : l.stackTraces = false) {own cls text Y9 : String} {r9 : List String} {ix : Nat} {rx : ByteArray} (x0 : decode rx 0 = .ok (.aload_n 0, 1)) (x1 : decode rx 1 = .ok (.aload_n 1, 1)) (x2 : decode rx 2 = .ok (.invokespecial ix, 3)) (x5 : decode rx 5 = .ok (.return_, 1)) {ik is ic mc ms sa : Nat} {A : Nat → Prop}
    (hown : s.vm.findClass own = some m.cls) (hcls : Bundle.fit cls = true) (hY9 : Bundle.fit Y9 = true) (hr9 : ∀ n ∈ r9, Bundle.fit n = true)
    (hk : (Cond.classLink own ik cls).before args s = true) (hini : (Cond.initialized cls).before args s = true) (hstr : vk_R own is text sa s) (hat : ∀ w ∈ (px_at own ic cls ix rx Y9 r9).filter vx_no, w.before args s = true)
    (hgood : ∀ w ∈ Cond.classLink own ik cls :: Cond.initialized cls :: (px_at own ic cls ix rx Y9 r9).filter vx_no, vx_ot w = true)
    (hU : vx_Zq Bundle.tN "UNASSIGNED_STACK" Bundle.steD A s s.heap) (hN : vx_Zq Bundle.tN "SUPPRESSED_SENTINEL" Bundle.listD A s s.heap) (hS : va_S A s.heap H locs) (hsize : ls.size = c.maxLocals)
    (d0 : decode cc pc = .ok (.new ik, 3)) (d3 : decode cc (pc + 3) = .ok (.dup, 1)) (d4 : decode cc (pc + 4) = .ok (.ldc is, 2)) (d6 : decode cc (pc + 6) = .ok (.invokespecial ic, 3)) (d9 : decode cc (pc + 9) = .ok (.athrow, 1))
    (hout : ∀ x ∈ c.exceptionTable.toList, covers x (pc + 9) = false)
    (hRframes : (r9.length + 1) + 3 < R.frames) (hRlocals : (rest.map fun v => v.category).sum + (13 * ((r9.length + 1) + 1) + 43) ≤ R.locals) (hRcells : cells + 1 ≤ R.cells) (hRslots : slots + 6 ≤ R.slots) (hlocks : meth.locks = false)
    (hx : ∀ t : State, s.vm.Alike t.vm → H.size ≤ t.heap.size → (∀ q : Nat, q < H.size → t.heap[q]? = H[q]?) → XC cls s t)
    (hf : ∀ z ∈ locs, free z.base) (hc : cells + 1 ≤ mc) (hs : slots + 6 ≤ ms) :
    W p l e R s m args below meth c H locs cells slots (vx_MQ below Qc XC args s mc ms free) (F0 m pc ls rest) := by
  intro T hT X
  have htr : e.platform.stackTraces = false := (show e.platform.stackTraces = l.stackTraces by rw [X.admits.platform]).trans hl
  have Y := vx_rebase X (R' := { frames := R.frames, locals := R.locals, cells := 1, slots := 6 }) (Nat.le_refl _) (Nat.le_refl _) hRcells hRslots
  obtain ⟨s', hA⟩ : ∃ z, z = (T.setVm s.vm).setFrames (.invoking m args :: below) := ⟨_, rfl⟩
  rw [← hA] at Y
  have hvm : s'.vm = s.vm := by rw [hA]; rfl
  have hhp : s'.heap = H := by rw [hA]; exact hT
  have hW0 : s.WarmedH s'.vm := by rw [hvm]; exact State.WarmedH.refl s
  have hat' : ∀ w ∈ (px_at own ic cls ix rx Y9 r9).filter vx_no, w.before args s' = true := fun w hw => vx_ot_at hW0 hvm.symm (hgood w (List.mem_cons_of_mem _ (List.mem_cons_of_mem _ hw))) (hat w hw)
  have hk' : (Cond.classLink own ik cls).before args s' = true := vx_ot_at hW0 hvm.symm (hgood _ List.mem_cons_self) hk
  have hini' : (Cond.initialized cls).before args s' = true := vx_ot_at hW0 hvm.symm (hgood _ (List.mem_cons_of_mem _ List.mem_cons_self)) hini
  have hU' : vx_Zq Bundle.tN "UNASSIGNED_STACK" Bundle.steD A s' s'.heap := by rw [hhp]; exact vx_Zq.moved hW0.alike (hU.kept hS.2.1)
  have hN' : vx_Zq Bundle.tN "SUPPRESSED_SENTINEL" Bundle.listD A s' s'.heap := by rw [hhp]; exact vx_Zq.moved hW0.alike (hN.kept hS.2.1)
  have h : ∀ w ∈ px_at own ic cls ix rx Y9 r9, w.before args s' = true := vx_own hat' (vx_isRefq hU'.1) (vx_isRefq hN'.1) hU'.2.word hN'.2.word
  have hown' : s'.vm.findClass own = some m.cls := by rw [hvm]; exact hown
  have hins : (Cond.instantiable cls 6).before args s' = true := h _ (by simp [px_at])
  obtain ⟨vm₁, cX, kX, hfX, hkX, -, -, X₁, st1⟩ := Y.newCold hexec (own := own) (C := cls) (index := ik) (n := 6) hown' hk' hins hini'
    (g := F0 m pc ls rest) rfl (by rw [hb]; exact d0) (Nat.le_refl _) (Nat.le_refl _)
  generalize hT1 : (T.setVm vm₁).pushCell { cls := cX, slots := kX.instanceTypes.map defaultValue, vm := .none } = T1 at X₁ st1
  have hcat : (Value.ref T.heap.size).category = 1 := rfl
  have hcellA : T1.heap[T.heap.size]? = some (freshCell cX kX) := by rw [← hT1]; exact State.heap_pushCell_size _ _
  have d3' : decode c.code (pc + 3) = .ok (.dup, 1) := by rw [hb]; exact d3
  have d4' : decode c.code (pc + 4) = .ok (.ldc is, 2) := by rw [hb]; exact d4
  have hstr' : vk_R own is text sa s' := vk_R.warm hW0 hstr
  obtain ⟨U, hsteps, hrun, hend, hW, hsame, ce, hce, hO⟩ := pv_ctor X₁ hexec htr (own := own) (cls := cls) (Y9 := Y9) (r9 := r9) (ic := ic) x0 x1 x2 x5 hown' hcls hY9 hr9 h (fun x hx => nomatch hx) hfX hkX hcellA (by rw [hhp, hT]; exact Nat.le_refl _) (msg := .ref sa) rfl
    (g := { method := m, pc := pc + 6, locals := ls, stack := .ref sa :: .ref T.heap.size :: .ref T.heap.size :: rest, locked := none }) rfl hsize rfl rfl (rest := rest) rfl
    (by rw [hb]; exact d6) (by rw [hb]; exact d9) hout hRframes (by simp only [List.map_cons, List.sum_cons, hcat]; omega) hlocks
  obtain ⟨f1, f2⟩ := vx_frame hsame
  rw [hhp] at f1 f2
  have hWs : s.WarmedH U.vm := State.WarmedH.trans hW0 hW
  have hcl : s.vm.findClass cls = some ce.cls := by
    have h9 := hO.cls
    rw [hvm] at h9
    exact h9
  have hall : s.sameButNew ({ U with vm := s.vm } : State) locs mc ms := by
    subst hA
    obtain ⟨e1, e2⟩ := hsame
    rw [State.setFrames_setFrames] at e1
    have h2 : (T.setVm s.vm).sameButNew ({ U with vm := s.vm } : State) [] (0 + 1) (0 + 6) := ⟨e1, e2⟩
    have h3 := X.same.trans h2
    rw [List.append_nil] at h3
    exact h3.mono hc hs
  refine ⟨U, ?_, .threw T.heap.size, hrun, hend, Or.inr ⟨T.heap.size, rfl, cls, ce, locs, hx U hWs.alike f1 (fun q hq => f2 q hq (fun z hz => nomatch hz)), hce, hO.vm, hcl, hWs, hall, hf⟩⟩
  refine st1 _ ?_
  show Steps p.tables e below (T1.setTop { method := m, pc := pc + 3, locals := ls, stack := .ref T.heap.size :: rest, locked := none }) _
  jvm_step X₁.here [X₁.here.top, hexec, d3', Value.category]
  exact X₁.ldcString hexec (own := own) (text := text) (index := is) (a := sa) hown' hstr'.1 hstr'.2
    (g := { method := m, pc := pc + 4, locals := ls, stack := .ref T.heap.size :: .ref T.heap.size :: rest, locked := none }) rfl d4' _ hsteps
set_option maxHeartbeats 4000000 in
theorem pv_throwSW {cc : ByteArray} {pc : Nat} (hexec : p.tables.exec = Jvm.exec) (hb : c.code = cc) (hl : l.stackTraces = false) {own cls text Y9 : String} {r9 : List String} {ix : Nat} {rx : ByteArray} (x0 : decode rx 0 = .ok (.aload_n 0, 1)) (x1 : decode rx 1 = .ok (.aload_n 1, 1)) (x2 : decode rx 2 = .ok (.invokespecial ix, 3)) (x5 : decode rx 5 = .ok (.return_, 1)) {ik is ic mc ms sa : Nat} {A : Nat → Prop}
    (hown : s.vm.findClass own = some m.cls) (hcls : Bundle.fit cls = true) (hY9 : Bundle.fit Y9 = true) (hr9 : ∀ n ∈ r9, Bundle.fit n = true)
    (hk : (Cond.classLink own ik cls).before args s = true) (hini : (Cond.initialized cls).before args s = true) (hstr : vk_R own is text sa s) (hat : ∀ w ∈ (px_at own ic cls ix rx Y9 r9).filter vx_no, w.before args s = true)
    (hgood : ∀ w ∈ Cond.classLink own ik cls :: Cond.initialized cls :: (px_at own ic cls ix rx Y9 r9).filter vx_no, vx_ot w = true)
    (hU : vx_Zq Bundle.tN "UNASSIGNED_STACK" Bundle.steD A s s.heap) (hN : vx_Zq Bundle.tN "SUPPRESSED_SENTINEL" Bundle.listD A s s.heap) (hS : va_S A s.heap H locs) (hsize : ls.size = c.maxLocals)
    (d0 : decode cc pc = .ok (.new ik, 3)) (d3 : decode cc (pc + 3) = .ok (.dup, 1)) (d4 : decode cc (pc + 4) = .ok (.ldc_w is, 3)) (d7 : decode cc (pc + 7) = .ok (.invokespecial ic, 3)) (d10 : decode cc (pc + 10) = .ok (.athrow, 1))
    (hout : ∀ x ∈ c.exceptionTable.toList, covers x (pc + 10) = false)
    (hRframes : (r9.length + 1) + 3 < R.frames) (hRlocals : (rest.map fun v => v.category).sum + (13 * ((r9.length + 1) + 1) + 43) ≤ R.locals) (hRcells : cells + 1 ≤ R.cells) (hRslots : slots + 6 ≤ R.slots) (hlocks : meth.locks = false)
    (hx : ∀ t : State, s.vm.Alike t.vm → H.size ≤ t.heap.size → (∀ q : Nat, q < H.size → t.heap[q]? = H[q]?) → XC cls s t)
    (hf : ∀ z ∈ locs, free z.base) (hc : cells + 1 ≤ mc) (hs : slots + 6 ≤ ms) :
    W p l e R s m args below meth c H locs cells slots (vx_MQ below Qc XC args s mc ms free) (F0 m pc ls rest) := by
  intro T hT X
  have htr : e.platform.stackTraces = false := (show e.platform.stackTraces = l.stackTraces by rw [X.admits.platform]).trans hl
  have Y := vx_rebase X (R' := { frames := R.frames, locals := R.locals, cells := 1, slots := 6 }) (Nat.le_refl _) (Nat.le_refl _) hRcells hRslots
  obtain ⟨s', hA⟩ : ∃ z, z = (T.setVm s.vm).setFrames (.invoking m args :: below) := ⟨_, rfl⟩
  rw [← hA] at Y
  have hvm : s'.vm = s.vm := by rw [hA]; rfl
  have hhp : s'.heap = H := by rw [hA]; exact hT
  have hW0 : s.WarmedH s'.vm := by rw [hvm]; exact State.WarmedH.refl s
  have hat' : ∀ w ∈ (px_at own ic cls ix rx Y9 r9).filter vx_no, w.before args s' = true := fun w hw => vx_ot_at hW0 hvm.symm (hgood w (List.mem_cons_of_mem _ (List.mem_cons_of_mem _ hw))) (hat w hw)
  have hk' : (Cond.classLink own ik cls).before args s' = true := vx_ot_at hW0 hvm.symm (hgood _ List.mem_cons_self) hk
  have hini' : (Cond.initialized cls).before args s' = true := vx_ot_at hW0 hvm.symm (hgood _ (List.mem_cons_of_mem _ List.mem_cons_self)) hini
  have hU' : vx_Zq Bundle.tN "UNASSIGNED_STACK" Bundle.steD A s' s'.heap := by rw [hhp]; exact vx_Zq.moved hW0.alike (hU.kept hS.2.1)
  have hN' : vx_Zq Bundle.tN "SUPPRESSED_SENTINEL" Bundle.listD A s' s'.heap := by rw [hhp]; exact vx_Zq.moved hW0.alike (hN.kept hS.2.1)
  have h : ∀ w ∈ px_at own ic cls ix rx Y9 r9, w.before args s' = true := vx_own hat' (vx_isRefq hU'.1) (vx_isRefq hN'.1) hU'.2.word hN'.2.word
  have hown' : s'.vm.findClass own = some m.cls := by rw [hvm]; exact hown
  have hins : (Cond.instantiable cls 6).before args s' = true := h _ (by simp [px_at])
  obtain ⟨vm₁, cX, kX, hfX, hkX, -, -, X₁, st1⟩ := Y.newCold hexec (own := own) (C := cls) (index := ik) (n := 6) hown' hk' hins hini'
    (g := F0 m pc ls rest) rfl (by rw [hb]; exact d0) (Nat.le_refl _) (Nat.le_refl _)
  generalize hT1 : (T.setVm vm₁).pushCell { cls := cX, slots := kX.instanceTypes.map defaultValue, vm := .none } = T1 at X₁ st1
  have hcat : (Value.ref T.heap.size).category = 1 := rfl
  have hcellA : T1.heap[T.heap.size]? = some (freshCell cX kX) := by rw [← hT1]; exact State.heap_pushCell_size _ _
  have d3' : decode c.code (pc + 3) = .ok (.dup, 1) := by rw [hb]; exact d3
  have d4' : decode c.code (pc + 4) = .ok (.ldc_w is, 3) := by rw [hb]; exact d4
  have hstr' : vk_R own is text sa s' := vk_R.warm hW0 hstr
  obtain ⟨U, hsteps, hrun, hend, hW, hsame, ce, hce, hO⟩ := pv_ctor X₁ hexec htr (own := own) (cls := cls) (Y9 := Y9) (r9 := r9) (ic := ic) x0 x1 x2 x5 hown' hcls hY9 hr9 h (fun x hx => nomatch hx) hfX hkX hcellA (by rw [hhp, hT]; exact Nat.le_refl _) (msg := .ref sa) rfl
    (g := { method := m, pc := pc + 7, locals := ls, stack := .ref sa :: .ref T.heap.size :: .ref T.heap.size :: rest, locked := none }) rfl hsize rfl rfl (rest := rest) rfl
    (by rw [hb]; exact d7) (by rw [hb]; exact d10) hout hRframes (by simp only [List.map_cons, List.sum_cons, hcat]; omega) hlocks
  obtain ⟨f1, f2⟩ := vx_frame hsame
  rw [hhp] at f1 f2
  have hWs : s.WarmedH U.vm := State.WarmedH.trans hW0 hW
  have hcl : s.vm.findClass cls = some ce.cls := by
    have h9 := hO.cls
    rw [hvm] at h9
    exact h9
  have hall : s.sameButNew ({ U with vm := s.vm } : State) locs mc ms := by
    subst hA
    obtain ⟨e1, e2⟩ := hsame
    rw [State.setFrames_setFrames] at e1
    have h2 : (T.setVm s.vm).sameButNew ({ U with vm := s.vm } : State) [] (0 + 1) (0 + 6) := ⟨e1, e2⟩
    have h3 := X.same.trans h2
    rw [List.append_nil] at h3
    exact h3.mono hc hs
  refine ⟨U, ?_, .threw T.heap.size, hrun, hend, Or.inr ⟨T.heap.size, rfl, cls, ce, locs, hx U hWs.alike f1 (fun q hq => f2 q hq (fun z hz => nomatch hz)), hce, hO.vm, hcl, hWs, hall, hf⟩⟩
  refine st1 _ ?_
  show Steps p.tables e below (T1.setTop { method := m, pc := pc + 3, locals := ls, stack := .ref T.heap.size :: rest, locked := none }) _
  jvm_step X₁.here [X₁.here.top, hexec, d3', Value.category]
  exact X₁.ldcStringW hexec (own := own) (text := text) (index := is) (a := sa) hown' hstr'.1 hstr'.2
    (g := { method := m, pc := pc + 4, locals := ls, stack := .ref T.heap.size :: .ref T.heap.size :: rest, locked := none }) rfl d4' _ hsteps
end Ends
def exN : List String := ["", "java/lang/IllegalArgumentException", "java/lang/IllegalStateException", "java/lang/IndexOutOfBoundsException", "java/util/NoSuchElementException", "java/lang/ArithmeticException"]
def xN (k : Nat) : String := exN.getD k ""
def chN : List String := ["java/lang/RuntimeException", "java/lang/Exception"]
def isN (w : Cond) : Bool := match w with | .methodLinkNest .. => true | .castable .. => true | .declares _ => true | _ => false
def okw (w : Cond) : Bool := w.onTables && (w.keeps || isN w)
def pa_0 : List Cond := (px_at "PointerAnalyzer" 76 "java/lang/IllegalArgumentException" 7 prog_18_method_2_code "java/lang/RuntimeException" ["java/lang/Exception"]).filter vx_no
theorem at_0 : pa_0 = [126, 833, 842, 849, 852, 854, 834, 835, 145, 146, 836, 841, 850, 870, 823, 871, 825, 872, 827, 837, 839, 829, 866, 867, 869, 829, 857, 858, 859, 860, 815, 860, 861, 862, 863, 817, 863, 864, 865, 866, 819, 856, 812, 813, 820, 821, 822, 824, 826, 828, 832, 831, 830].filterMap (fun i => lw_tbl[i]?) := by decide +kernel
theorem ax_0 : decode prog_18_method_2_code 0 = .ok (.aload_n 0, 1) ∧ decode prog_18_method_2_code 1 = .ok (.aload_n 1, 1) ∧ decode prog_18_method_2_code 2 = .ok (.invokespecial 7, 3) ∧ decode prog_18_method_2_code 5 = .ok (.return_, 1) := by decide +kernel
theorem ao_0 : (Cond.classLink "PointerAnalyzer" 72 "java/lang/IllegalArgumentException" :: Cond.initialized "java/lang/IllegalArgumentException" :: pa_0).all okw = true := by decide +kernel
theorem ai_0 : lw_tbl[811]? = some (.classLink "PointerAnalyzer" 72 "java/lang/IllegalArgumentException") ∧ lw_tbl[129]? = some (.initialized "java/lang/IllegalArgumentException") := by decide +kernel
def pa_1 : List Cond := (px_at "PointerAnalyzer" 87 "java/lang/IllegalStateException" 7 prog_19_method_2_code "java/lang/RuntimeException" ["java/lang/Exception"]).filter vx_no
theorem at_1 : pa_1 = [126, 833, 842, 849, 852, 854, 834, 835, 145, 146, 836, 841, 850, 870, 823, 871, 825, 872, 827, 837, 839, 829, 866, 867, 869, 829, 897, 898, 899, 860, 815, 860, 861, 862, 863, 817, 863, 864, 865, 866, 819, 896, 887, 888, 889, 846, 890, 891, 892, 893, 832, 831, 894].filterMap (fun i => lw_tbl[i]?) := by decide +kernel
theorem ax_1 : decode prog_19_method_2_code 0 = .ok (.aload_n 0, 1) ∧ decode prog_19_method_2_code 1 = .ok (.aload_n 1, 1) ∧ decode prog_19_method_2_code 2 = .ok (.invokespecial 7, 3) ∧ decode prog_19_method_2_code 5 = .ok (.return_, 1) := by decide +kernel
theorem ao_1 : (Cond.classLink "PointerAnalyzer" 83 "java/lang/IllegalStateException" :: Cond.initialized "java/lang/IllegalStateException" :: pa_1).all okw = true := by decide +kernel
theorem ai_1 : lw_tbl[886]? = some (.classLink "PointerAnalyzer" 83 "java/lang/IllegalStateException") ∧ lw_tbl[130]? = some (.initialized "java/lang/IllegalStateException") := by decide +kernel
def pa_2 : List Cond := (px_at "PointerAnalyzer" 171 "java/lang/IndexOutOfBoundsException" 7 prog_20_method_2_code "java/lang/RuntimeException" ["java/lang/Exception"]).filter vx_no
theorem at_2 : pa_2 = [126, 833, 842, 849, 852, 854, 834, 835, 145, 146, 836, 841, 850, 870, 823, 871, 825, 872, 827, 837, 839, 829, 866, 867, 869, 829, 915, 916, 917, 860, 815, 860, 861, 862, 863, 817, 863, 864, 865, 866, 819, 952, 943, 944, 945, 847, 946, 947, 948, 949, 832, 831, 950].filterMap (fun i => lw_tbl[i]?) := by decide +kernel
theorem ax_2 : decode prog_20_method_2_code 0 = .ok (.aload_n 0, 1) ∧ decode prog_20_method_2_code 1 = .ok (.aload_n 1, 1) ∧ decode prog_20_method_2_code 2 = .ok (.invokespecial 7, 3) ∧ decode prog_20_method_2_code 5 = .ok (.return_, 1) := by decide +kernel
theorem ao_2 : (Cond.classLink "PointerAnalyzer" 167 "java/lang/IndexOutOfBoundsException" :: Cond.initialized "java/lang/IndexOutOfBoundsException" :: pa_2).all okw = true := by decide +kernel
theorem ai_2 : lw_tbl[942]? = some (.classLink "PointerAnalyzer" 167 "java/lang/IndexOutOfBoundsException") ∧ lw_tbl[132]? = some (.initialized "java/lang/IndexOutOfBoundsException") := by decide +kernel
def pa_3 : List Cond := (px_at "PointerAnalyzer" 272 "java/lang/ArithmeticException" 7 prog_15_method_2_code "java/lang/RuntimeException" ["java/lang/Exception"]).filter vx_no
theorem at_3 : pa_3 = [126, 833, 842, 849, 852, 854, 834, 835, 145, 146, 836, 841, 850, 870, 823, 871, 825, 872, 827, 837, 839, 829, 866, 867, 869, 829, 1334, 1335, 1336, 860, 815, 860, 861, 862, 863, 817, 863, 864, 865, 866, 819, 1358, 1333, 1344, 1345, 844, 1339, 1340, 1342, 1338, 832, 831, 1337].filterMap (fun i => lw_tbl[i]?) := by decide +kernel
theorem ax_3 : decode prog_15_method_2_code 0 = .ok (.aload_n 0, 1) ∧ decode prog_15_method_2_code 1 = .ok (.aload_n 1, 1) ∧ decode prog_15_method_2_code 2 = .ok (.invokespecial 7, 3) ∧ decode prog_15_method_2_code 5 = .ok (.return_, 1) := by decide +kernel
theorem ao_3 : (Cond.classLink "PointerAnalyzer" 268 "java/lang/ArithmeticException" :: Cond.initialized "java/lang/ArithmeticException" :: pa_3).all okw = true := by decide +kernel
theorem ai_3 : lw_tbl[1356]? = some (.classLink "PointerAnalyzer" 268 "java/lang/ArithmeticException") ∧ lw_tbl[137]? = some (.initialized "java/lang/ArithmeticException") := by decide +kernel
def pa_4 : List Cond := (px_at "PointerAnalyzer" 321 "java/util/NoSuchElementException" 13 prog_25_method_4_code "java/lang/RuntimeException" ["java/lang/Exception"]).filter vx_no
theorem at_4 : pa_4 = [126, 833, 842, 849, 852, 854, 834, 835, 145, 146, 836, 841, 850, 870, 823, 871, 825, 872, 827, 837, 839, 829, 866, 867, 869, 829, 1226, 1227, 1228, 860, 815, 860, 861, 862, 863, 817, 863, 864, 865, 866, 819, 1225, 1216, 1217, 1218, 848, 1219, 1220, 1221, 1222, 832, 831, 1223].filterMap (fun i => lw_tbl[i]?) := by decide +kernel
theorem ax_4 : decode prog_25_method_4_code 0 = .ok (.aload_n 0, 1) ∧ decode prog_25_method_4_code 1 = .ok (.aload_n 1, 1) ∧ decode prog_25_method_4_code 2 = .ok (.invokespecial 13, 3) ∧ decode prog_25_method_4_code 5 = .ok (.return_, 1) := by decide +kernel
theorem ao_4 : (Cond.classLink "PointerAnalyzer" 317 "java/util/NoSuchElementException" :: Cond.initialized "java/util/NoSuchElementException" :: pa_4).all okw = true := by decide +kernel
theorem ai_4 : lw_tbl[1215]? = some (.classLink "PointerAnalyzer" 317 "java/util/NoSuchElementException") ∧ lw_tbl[136]? = some (.initialized "java/util/NoSuchElementException") := by decide +kernel
end
section
/-! THE PURE MACHINE: ints are integers (a cell holds them modulo 2^32), longs bit vectors, a reference the number of its cell in the layout -/
abbrev AV : Type := Int ⊕ (BitVec 64 ⊕ (UInt64 ⊕ (UInt32 ⊕ Nat)))
def vI (z : Int) : AV := .inl z
def vL (b : BitVec 64) : AV := .inr (.inl b)
def vD (d : UInt64) : AV := .inr (.inr (.inl d))
def vF (d : UInt32) : AV := .inr (.inr (.inr (.inl d)))
def vR (i : Nat) : AV := .inr (.inr (.inr (.inr i)))
abbrev Lo : Type := List (Option AV)
abbrev St : Type := (Nat → Int → Int) × ((Nat → Int → BitVec 64) × (Nat → Int → UInt64))
abbrev Res : Type := Option AV ⊕ Nat
def gI (σ : St) (c : Nat) (i : Int) : Int := σ.1 c i
def gL (σ : St) (c : Nat) (i : Int) : BitVec 64 := σ.2.1 c i
def gD (σ : St) (c : Nat) (i : Int) : UInt64 := σ.2.2 c i
def sI (σ : St) (c : Nat) (i : Int) (v : Int) : St := (fun d j => if d = c ∧ j = i then v else σ.1 d j, σ.2)
def sL (σ : St) (c : Nat) (i : Int) (v : BitVec 64) : St := (σ.1, (fun d j => if d = c ∧ j = i then v else σ.2.1 d j, σ.2.2))
def sD (σ : St) (c : Nat) (i : Int) (v : UInt64) : St := (σ.1, (σ.2.1, fun d j => if d = c ∧ j = i then v else σ.2.2 d j))
def iAnd (a b : Int) : Int := (BitVec.ofInt 32 a &&& BitVec.ofInt 32 b).toInt
def iOr (a b : Int) : Int := (BitVec.ofInt 32 a ||| BitVec.ofInt 32 b).toInt
def sh6 (z : Int) : Nat := (z % 64).toNat
def lCmp (a b : BitVec 64) : Int := if a = b then 0 else if b.slt a then 1 else -1
abbrev n32 (r : UInt32) : Prop := r &&& 0x7fffffff ≤ 0x7f800000
abbrev n64 (r : UInt64) : Prop := r &&& 0x7fffffffffffffff ≤ 0x7ff0000000000000
def dbl (z : Int) : UInt64 := FP.i2d (Int32.ofInt z)
def flt (z : Int) : UInt32 := FP.i2f (Int32.ofInt z)
/-- eliminators: go on with what is there, or fail -/
def eI {α : Sort _} (v : AV) (k : Int → α) (f : α) : α := match v with | .inl z => k z | _ => f
def eL {α : Sort _} (v : AV) (k : BitVec 64 → α) (f : α) : α := match v with | .inr (.inl b) => k b | _ => f
def eD {α : Sort _} (v : AV) (k : UInt64 → α) (f : α) : α := match v with | .inr (.inr (.inl b)) => k b | _ => f
def eF {α : Sort _} (v : AV) (k : UInt32 → α) (f : α) : α := match v with | .inr (.inr (.inr (.inl b))) => k b | _ => f
def eR {α : Sort _} (v : AV) (k : Nat → α) (f : α) : α := match v with | .inr (.inr (.inr (.inr b))) => k b | _ => f
def eO {α : Sort _} (o : Option AV) (k : AV → α) (f : α) : α := match o with | some v => k v | none => f
def eP {α : Sort _} (st : List AV) (k : AV → List AV → α) (f : α) : α := match st with | v :: r => k v r | [] => f
def eN {α : Sort _} (st : List AV) (k f : α) : α := match st with | [] => k | _ :: _ => f
def c2 (v : AV) : Bool := match v with | .inr (.inl _) => true | .inr (.inr (.inl _)) => true | _ => false
def lget : Lo → Nat → Option AV
  | [], _ => none
  | a :: _, 0 => a
  | _ :: r, n + 1 => lget r n
def ldrop (r : Lo) : Lo := match r with | [] => [] | _ :: q => none :: q
def lhead (a : Option AV) : Option AV := match a with | some w => (if c2 w then none else a) | none => none
def lset : Lo → Nat → AV → Lo
  | [], _, _ => []
  | _ :: r, 0, v => some v :: (if c2 v then ldrop r else r)
  | a :: r, n + 1, v => (if n = 0 then lhead a else a) :: lset r n v
def lkill : Lo → Nat → Lo
  | [], _ => []
  | _ :: r, 0 => none :: r
  | a :: r, n + 1 => (if n = 0 then lhead a else a) :: lkill r n
def entL : List AV → Lo
  | [] => []
  | v :: r => some v :: (if c2 v then none :: entL r else entL r)
def entry (n : Nat) (vs : List AV) : Lo := entL vs ++ List.replicate (n - (entL vs).length) none
def wt (st : List AV) : Nat := (st.map (fun v => if c2 v then 2 else 1)).sum
abbrev nR (z : Int) : Prop := 0 ≤ z ∧ z < 2147483648
/-- an instruction's abstract step; instructions that call, return or throw are not here -/
def ss {α : Sort _} (en : Ent) (pc : Nat) (L : Lo) (st : List AV) (σ : St) (k : Nat → Lo → List AV → St → α) (f : α) : α :=
  match en.1 with
  | .iconst n => k (pc + 1) L (vI n :: st) σ
  | .bipush n => k (pc + 2) L (vI n :: st) σ
  | .sipush n => k (pc + 3) L (vI n :: st) σ
  | .lconst n => k (pc + 1) L (vL (BitVec.ofNat 64 n.val) :: st) σ
  | .fconst n => if n.val = 0 then k (pc + 1) L (vF 0 :: st) σ else f
  | .dconst n => if n.val = 0 then k (pc + 1) L (vD 0 :: st) σ else f
  | .ldc2_w _ => k (pc + 3) L (vL (BitVec.ofInt 64 en.2.2.2.2.2) :: st) σ
  | .iload_n j => eO (lget L j.val) (fun v => eI v (fun z => k (pc + 1) L (vI z :: st) σ) f) f
  | .iload j => eO (lget L j) (fun v => eI v (fun z => k (pc + 2) L (vI z :: st) σ) f) f
  | .lload_n j => eO (lget L j.val) (fun v => eL v (fun z => k (pc + 1) L (vL z :: st) σ) f) f
  | .lload j => eO (lget L j) (fun v => eL v (fun z => k (pc + 2) L (vL z :: st) σ) f) f
  | .dload j => eO (lget L j) (fun v => eD v (fun z => k (pc + 2) L (vD z :: st) σ) f) f
  | .fload j => eO (lget L j) (fun v => eF v (fun z => k (pc + 2) L (vF z :: st) σ) f) f
  | .aload_n j => eO (lget L j.val) (fun v => eR v (fun z => k (pc + 1) L (vR z :: st) σ) f) f
  | .aload j => eO (lget L j) (fun v => eR v (fun z => k (pc + 2) L (vR z :: st) σ) f) f
  | .istore_n j => eP st (fun v r => eI v (fun z => k (pc + 1) (lset L j.val (vI z)) r σ) f) f
  | .istore j => eP st (fun v r => eI v (fun z => k (pc + 2) (lset L j (vI z)) r σ) f) f
  | .lstore_n j => eP st (fun v r => eL v (fun z => k (pc + 1) (lset L j.val (vL z)) r σ) f) f
  | .lstore j => eP st (fun v r => eL v (fun z => k (pc + 2) (lset L j (vL z)) r σ) f) f
  | .dstore j => eP st (fun v r => eD v (fun z => k (pc + 2) (lset L j (vD z)) r σ) f) f
  | .fstore j => eP st (fun v r => eF v (fun z => k (pc + 2) (lset L j (vF z)) r σ) f) f
  | .astore_n j => eP st (fun v r => eR v (fun z => k (pc + 1) (lset L j.val (vR z)) r σ) f) f
  | .astore j => eP st (fun v r => eR v (fun z => k (pc + 2) (lset L j (vR z)) r σ) f) f
  | .iinc j n => eO (lget L j) (fun v => eI v (fun z => k (pc + 3) (lset L j (vI (z + n))) st σ) f) f
  | .dup => eP st (fun v r => if c2 v = false then k (pc + 1) L (v :: v :: r) σ else f) f
  | .dup2 => eP st (fun v r => eP r (fun w r2 => if c2 v = false ∧ c2 w = false then k (pc + 1) L (v :: w :: v :: w :: r2) σ else f) f) f
  | .pop => eP st (fun v r => if c2 v = false then k (pc + 1) L r σ else f) f
  | .iadd => eP st (fun v r => eP r (fun w r2 => eI v (fun b => eI w (fun a => k (pc + 1) L (vI (a + b) :: r2) σ) f) f) f) f
  | .isub => eP st (fun v r => eP r (fun w r2 => eI v (fun b => eI w (fun a => k (pc + 1) L (vI (a - b) :: r2) σ) f) f) f) f
  | .imul => eP st (fun v r => eP r (fun w r2 => eI v (fun b => eI w (fun a => k (pc + 1) L (vI (a * b) :: r2) σ) f) f) f) f
  | .idiv => eP st (fun v r => eP r (fun w r2 => eI v (fun b => eI w (fun a => if nR a ∧ nR b ∧ b ≠ 0 then k (pc + 1) L (vI (a / b) :: r2) σ else f) f) f) f) f
  | .irem => eP st (fun v r => eP r (fun w r2 => eI v (fun b => eI w (fun a => if nR a ∧ nR b ∧ b ≠ 0 then k (pc + 1) L (vI (a % b) :: r2) σ else f) f) f) f) f
  | .ishl => eP st (fun v r => eP r (fun w r2 => eI v (fun b => eI w (fun a => if 0 ≤ b ∧ b < 32 then k (pc + 1) L (vI (a * 2 ^ b.toNat) :: r2) σ else f) f) f) f) f
  | .ishr => eP st (fun v r => eP r (fun w r2 => eI v (fun b => eI w (fun a => if inR a ∧ 0 ≤ b ∧ b < 32 then k (pc + 1) L (vI (a / 2 ^ b.toNat) :: r2) σ else f) f) f) f) f
  | .iand => eP st (fun v r => eP r (fun w r2 => eI v (fun b => eI w (fun a => k (pc + 1) L (vI (iAnd a b) :: r2) σ) f) f) f) f
  | .ior => eP st (fun v r => eP r (fun w r2 => eI v (fun b => eI w (fun a => k (pc + 1) L (vI (iOr a b) :: r2) σ) f) f) f) f
  | .ladd => eP st (fun v r => eP r (fun w r2 => eL v (fun b => eL w (fun a => k (pc + 1) L (vL (a + b) :: r2) σ) f) f) f) f
  | .lsub => eP st (fun v r => eP r (fun w r2 => eL v (fun b => eL w (fun a => k (pc + 1) L (vL (a - b) :: r2) σ) f) f) f) f
  | .land => eP st (fun v r => eP r (fun w r2 => eL v (fun b => eL w (fun a => k (pc + 1) L (vL (a &&& b) :: r2) σ) f) f) f) f
  | .lor => eP st (fun v r => eP r (fun w r2 => eL v (fun b => eL w (fun a => k (pc + 1) L (vL (a ||| b) :: r2) σ) f) f) f) f
  | .lxor => eP st (fun v r => eP r (fun w r2 => eL v (fun b => eL w (fun a => k (pc + 1) L (vL (a ^^^ b) :: r2) σ) f) f) f) f
  | .lshl => eP st (fun v r => eP r (fun w r2 => eI v (fun b => eL w (fun a => k (pc + 1) L (vL (a <<< sh6 b) :: r2) σ) f) f) f) f
  | .lushr => eP st (fun v r => eP r (fun w r2 => eI v (fun b => eL w (fun a => k (pc + 1) L (vL (a >>> sh6 b) :: r2) σ) f) f) f) f
  | .lshr => eP st (fun v r => eP r (fun w r2 => eI v (fun b => eL w (fun a => k (pc + 1) L (vL (a.sshiftRight (sh6 b)) :: r2) σ) f) f) f) f
  | .lcmp => eP st (fun v r => eP r (fun w r2 => eL v (fun b => eL w (fun a => k (pc + 1) L (vI (lCmp a b) :: r2) σ) f) f) f) f
  | .dcmp op => eP st (fun v r => eP r (fun w r2 => eD v (fun b => eD w (fun a => k (pc + 1) L (vI (Op.cmpValue (FP.dcmp a b) op).toInt :: r2) σ) f) f) f) f
  | .ddiv => eP st (fun v r => eP r (fun w r2 => eD v (fun b => eD w (fun a => if n64 (FP.ddiv a b) then k (pc + 1) L (vD (FP.ddiv a b) :: r2) σ else f) f) f) f) f
  | .fdiv => eP st (fun v r => eP r (fun w r2 => eF v (fun b => eF w (fun a => if n32 (FP.fdiv a b) then k (pc + 1) L (vF (FP.fdiv a b) :: r2) σ else f) f) f) f) f
  | .i2l => eP st (fun v r => eI v (fun a => if inR a then k (pc + 1) L (vL (BitVec.ofInt 64 a) :: r) σ else f) f) f
  | .l2i => eP st (fun v r => eL v (fun a => k (pc + 1) L (vI a.toInt :: r) σ) f) f
  | .i2d => eP st (fun v r => eI v (fun a => k (pc + 1) L (vD (dbl a) :: r) σ) f) f
  | .i2f => eP st (fun v r => eI v (fun a => k (pc + 1) L (vF (flt a) :: r) σ) f) f
  | .f2d => eP st (fun v r => eF v (fun a => if n64 (FP.f2d a) then k (pc + 1) L (vD (FP.f2d a) :: r) σ else f) f) f
  | .goto _ => k en.2.2.1 L st σ
  | .if_icmp .eq _ => eP st (fun v r => eP r (fun w r2 => eI v (fun b => eI w (fun a => if inR a ∧ inR b then (if a = b then k en.2.2.1 L r2 σ else k (pc + 3) L r2 σ) else f) f) f) f) f
  | .if_icmp .ne _ => eP st (fun v r => eP r (fun w r2 => eI v (fun b => eI w (fun a => if inR a ∧ inR b then (if a = b then k (pc + 3) L r2 σ else k en.2.2.1 L r2 σ) else f) f) f) f) f
  | .if_icmp .lt _ => eP st (fun v r => eP r (fun w r2 => eI v (fun b => eI w (fun a => if inR a ∧ inR b then (if a < b then k en.2.2.1 L r2 σ else k (pc + 3) L r2 σ) else f) f) f) f) f
  | .if_icmp .ge _ => eP st (fun v r => eP r (fun w r2 => eI v (fun b => eI w (fun a => if inR a ∧ inR b then (if a < b then k (pc + 3) L r2 σ else k en.2.2.1 L r2 σ) else f) f) f) f) f
  | .if_icmp .gt _ => eP st (fun v r => eP r (fun w r2 => eI v (fun b => eI w (fun a => if inR a ∧ inR b then (if b < a then k en.2.2.1 L r2 σ else k (pc + 3) L r2 σ) else f) f) f) f) f
  | .if_icmp .le _ => eP st (fun v r => eP r (fun w r2 => eI v (fun b => eI w (fun a => if inR a ∧ inR b then (if b < a then k (pc + 3) L r2 σ else k en.2.2.1 L r2 σ) else f) f) f) f) f
  | .ifCond .eq _ => eP st (fun v r => eI v (fun a => if inR a then (if a = 0 then k en.2.2.1 L r σ else k (pc + 3) L r σ) else f) f) f
  | .ifCond .ne _ => eP st (fun v r => eI v (fun a => if inR a then (if a = 0 then k (pc + 3) L r σ else k en.2.2.1 L r σ) else f) f) f
  | .ifCond .lt _ => eP st (fun v r => eI v (fun a => if inR a then (if a < 0 then k en.2.2.1 L r σ else k (pc + 3) L r σ) else f) f) f
  | .ifCond .ge _ => eP st (fun v r => eI v (fun a => if inR a then (if a < 0 then k (pc + 3) L r σ else k en.2.2.1 L r σ) else f) f) f
  | .ifCond .gt _ => eP st (fun v r => eI v (fun a => if inR a then (if 0 < a then k en.2.2.1 L r σ else k (pc + 3) L r σ) else f) f) f
  | .ifCond .le _ => eP st (fun v r => eI v (fun a => if inR a then (if 0 < a then k (pc + 3) L r σ else k en.2.2.1 L r σ) else f) f) f
  | .tableswitch d lo hi offs => eP st (fun v r => eI v (fun a => if inR a then (if lo ≤ a ∧ a ≤ hi then k ((pc : Int) + offs.getD (a - lo).toNat 0).toNat L r σ else k ((pc : Int) + d).toNat L r σ) else f) f) f
  | .getfield _ => eP st (fun v r => eR v (fun o => if lc o = en.2.2.2.1 then (if fk en.2.2.2.1 en.2.2.1 = 2 then k (pc + 3) L (vR (rf o en.2.2.1) :: r) σ else k (pc + 3) L (vI (gI σ o (en.2.2.1 : Nat)) :: r) σ) else f) f) f
  | .putfield _ => eP st (fun v r => eP r (fun w r2 => eI v (fun a => eR w (fun o => if lc o = en.2.2.2.1 ∧ (fk en.2.2.2.1 en.2.2.1 = 0 ∨ fk en.2.2.2.1 en.2.2.1 = 1 ∧ (a = 0 ∨ a = 1)) then k (pc + 3) L r2 (sI σ o (en.2.2.1 : Nat) a) else f) f) f) f) f
  | .iaload => eP st (fun v r => eP r (fun w r2 => eI v (fun i => eR w (fun o => if en.2.2.1 = 1 then (if lc o = 104 ∧ 0 ≤ i ∧ i < gI σ o (-1) then k (pc + 1) L (vI (gI σ o i) :: r2) σ else f) else (if lc o = 101 ∧ 0 ≤ i ∧ i < ln o then k (pc + 1) L (vI (gI σ o i) :: r2) σ else f)) f) f) f) f
  | .laload => eP st (fun v r => eP r (fun w r2 => eI v (fun i => eR w (fun o => if lc o = 102 ∧ 0 ≤ i ∧ i < ln o then k (pc + 1) L (vL (gL σ o i) :: r2) σ else f) f) f) f) f
  | .daload => eP st (fun v r => eP r (fun w r2 => eI v (fun i => eR w (fun o => if lc o = 103 ∧ 0 ≤ i ∧ i < ln o then k (pc + 1) L (vD (gD σ o i) :: r2) σ else f) f) f) f) f
  | .iastore => eP st (fun v r => eP r (fun w r2 => eP r2 (fun u r3 => eI v (fun a => eI w (fun i => eR u (fun o => if lc o = 101 ∧ 0 ≤ i ∧ i < ln o then k (pc + 1) L r3 (sI σ o i a) else f) f) f) f) f) f) f
  | .lastore => eP st (fun v r => eP r (fun w r2 => eP r2 (fun u r3 => eL v (fun a => eI w (fun i => eR u (fun o => if lc o = 102 ∧ 0 ≤ i ∧ i < ln o then k (pc + 1) L r3 (sL σ o i a) else f) f) f) f) f) f) f
  | .dastore => eP st (fun v r => eP r (fun w r2 => eP r2 (fun u r3 => eD v (fun a => eI w (fun i => eR u (fun o => if lc o = 103 ∧ 0 ≤ i ∧ i < ln o then k (pc + 1) L r3 (sD σ o i a) else f) f) f) f) f) f) f
  | .arraylength => eP st (fun v r => eR v (fun o => if en.2.2.1 = 1 then (if lc o = 104 then k (pc + 1) L (vI (gI σ o (-1)) :: r) σ else f) else (if lc o = 101 ∨ lc o = 102 then k (pc + 1) L (vI (ln o) :: r) σ else f)) f) f
  | _ => f

/-- which instructions ss knows: not those that end or call -/
def isS (i : Jvm.ClassFile.Instr) : Bool := match i with
  | .ireturn => false | .lreturn => false | .freturn => false | .dreturn => false | .areturn => false | .return_ => false
  | .invokevirtual _ => false | .invokestatic _ => false | .new _ => false | _ => true
def optL (v : Option AV) : List AV := match v with | some a => [a] | none => []
def rcv (as : List AV) (ci : Nat) : Bool := match as.getLast? with | some v => eR v (fun o => lc o == ci) false | none => false
abbrev EF : Type := Nat → Nat → Nat → Lo → List AV → St → Option (Res × St)
def bcall (en : Ent) (t mi pc : Nat) (L : Lo) (st : List AV) (σ : St) (E : EF) : Option (Res × St) :=
  if en.2.2.2.1 ≤ st.length ∧ wt (st.drop en.2.2.2.1) ≤ 8 ∧ wt (st.take en.2.2.2.1) ≤ mL en.2.2.1 ∧ en.2.2.2.2.2.toNat ≤ t then
    (match E en.2.2.2.2.2.toNat en.2.2.1 0 (entry (mL en.2.2.1) (st.take en.2.2.2.1).reverse) [] σ with
    | none => none
    | some (.inl v, σ') => E (t - en.2.2.2.2.2.toNat) mi (pc + 3) L (optL v ++ st.drop en.2.2.2.1) σ'
    | some (.inr X, σ') => (match hd mi pc X with
      | none => some (.inr X, σ')
      | some q => E (t - en.2.2.2.2.2.toNat) mi q.1 (lkill L q.2) [] σ')) else none
def bod (en : Ent) (t mi pc : Nat) (L : Lo) (st : List AV) (σ : St) (E : EF) : Option (Res × St) := match en.1 with
  | .ireturn => eP st (fun v r => eN r (eI v (fun z => if en.2.2.1 = 1 → (z = 0 ∨ z = 1) then some (.inl (some (vI z)), σ) else none) none) none) none
  | .lreturn => eP st (fun v r => eN r (eL v (fun z => some (.inl (some (vL z)), σ)) none) none) none
  | .freturn => eP st (fun v r => eN r (eF v (fun z => some (.inl (some (vF z)), σ)) none) none) none
  | .dreturn => eP st (fun v r => eN r (eD v (fun z => some (.inl (some (vD z)), σ)) none) none) none
  | .areturn => eP st (fun v r => eN r (eR v (fun z => some (.inl (some (vR z)), σ)) none) none) none
  | .return_ => eN st (some (.inl none, σ)) none
  | .new _ => if en.2.2.2.1 = 1 ∧ 1 ≤ t ∧ st = [] then some (.inr en.2.2.1, σ) else none
  | .invokestatic _ => bcall en t mi pc L st σ E
  | .invokevirtual _ => if rcv (st.take en.2.2.2.1) en.2.2.2.2.1 = true then bcall en t mi pc L st σ E else none
  | _ => ss en pc L st σ (fun pc' L' st' σ' => E t mi pc' L' st' σ') none
/-- the machine with fuel n, t throws left, in method mi at pc -/
def ex : Nat → EF
  | 0, _, _, _, _, _, _ => none
  | n + 1, t, mi, pc, L, st, σ => match cd mi pc with
    | none => none
    | some en => bod en t mi pc L st σ (fun t' mi' pc' L' st' σ' => ex n t' mi' pc' L' st' σ')
def wp (t mi pc : Nat) (L : Lo) (st : List AV) (σ : St) (Q : Res → St → Prop) : Prop := ∃ (n : Nat) (r : Res) (σ' : St), ex n t mi pc L st σ = some (r, σ') ∧ Q r σ'
def Call (b y : Nat) (as : List AV) (σ : St) (Q : Res → St → Prop) : Prop := wp b y 0 (entry (mL y) as) [] σ Q
def aft (r : Res) (F : List AV → Prop) (G : Nat → Prop) : Prop := match r with | .inl v => F (optL v) | .inr X => G X
set_option maxHeartbeats 4000000 in
theorem ss_nat (en : Ent) (pc : Nat) (L : Lo) (st : List AV) (σ : St) : (∃ a b c d, (∀ (k : Nat → Lo → List AV → St → Option (Res × St)) f, ss en pc L st σ k f = k a b c d) ∧ ∀ (k : Nat → Lo → List AV → St → Prop) f, ss en pc L st σ k f = k a b c d) ∨ ((∀ (k : Nat → Lo → List AV → St → Option (Res × St)) f, ss en pc L st σ k f = f) ∧ ∀ (k : Nat → Lo → List AV → St → Prop) f, ss en pc L st σ k f = f) := by
  unfold ss
  split <;> (try simp only [eP, eO, eI, eL, eD, eF, eR])
  all_goals repeat' split
  all_goals first
    | exact Or.inr ⟨fun _ _ => rfl, fun _ _ => rfl⟩
    | exact Or.inl ⟨_, _, _, _, fun _ _ => rfl, fun _ _ => rfl⟩
    | (simp_all; done)
end
section
theorem ex_succ (n t mi pc : Nat) (L : Lo) (st : List AV) (σ : St) : ex (n + 1) t mi pc L st σ = (match cd mi pc with | none => none | some en => bod en t mi pc L st σ (ex n)) := rfl
theorem bod_ss {en : Ent} (hs : isS en.1 = true) (t mi pc : Nat) (L : Lo) (st : List AV) (σ : St) (E : EF) : bod en t mi pc L st σ E = ss en pc L st σ (fun pc' L' st' σ' => E t mi pc' L' st' σ') none := by
  unfold bod
  split <;> first | rfl | (rename_i heq; rw [heq] at hs; exact absurd hs (by decide)) | (rename_i heq; rw [heq] at hs; simp [isS] at hs)
theorem bcall_mono {en : Ent} {t mi pc : Nat} {L : Lo} {st : List AV} {σ : St} {E E' : EF} (h : ∀ t mi pc L st σ r, E t mi pc L st σ = some r → E' t mi pc L st σ = some r) {r : Res × St} (hr : bcall en t mi pc L st σ E = some r) : bcall en t mi pc L st σ E' = some r := by
  unfold bcall at hr ⊢
  split at hr
  · rename_i hc
    rw [if_pos hc]
    split at hr
    · cases hr
    · rename_i v σ' he
      rw [h _ _ _ _ _ _ _ he]
      exact h _ _ _ _ _ _ _ hr
    · rename_i X σ' he
      rw [h _ _ _ _ _ _ _ he]
      split at hr
      · rename_i hh; simp only [hh]; exact hr
      · rename_i q hh; simp only [hh]; exact h _ _ _ _ _ _ _ hr
  · cases hr
theorem bod_mono {en : Ent} {t mi pc : Nat} {L : Lo} {st : List AV} {σ : St} {E E' : EF} (h : ∀ t mi pc L st σ r, E t mi pc L st σ = some r → E' t mi pc L st σ = some r) {r : Res × St} (hr : bod en t mi pc L st σ E = some r) : bod en t mi pc L st σ E' = some r := by
  by_cases hs : isS en.1 = true
  · rw [bod_ss hs] at hr ⊢
    rcases ss_nat en pc L st σ with ⟨a, b, c, d, h1, -⟩ | ⟨h1, -⟩
    · rw [h1] at hr ⊢; exact h _ _ _ _ _ _ _ hr
    · rw [h1] at hr; cases hr
  · obtain ⟨i, y⟩ := en
    cases i <;> first
      | exact absurd rfl hs
      | exact hr
      | exact bcall_mono h hr
      | (change (if rcv (st.take y.2.2.1) y.2.2.2.1 = true then bcall _ t mi pc L st σ E else none) = some r at hr
         show (if rcv (st.take y.2.2.1) y.2.2.2.1 = true then bcall _ t mi pc L st σ E' else none) = some r
         split at hr
         · rename_i hc; rw [if_pos hc]; exact bcall_mono h hr
         · cases hr)
theorem ex_mono1 : ∀ (n t mi pc : Nat) (L : Lo) (st : List AV) (σ : St) (r : Res × St), ex n t mi pc L st σ = some r → ex (n + 1) t mi pc L st σ = some r
  | 0, _, _, _, _, _, _, _, h => by cases h
  | n + 1, t, mi, pc, L, st, σ, r, h => by
    rw [ex_succ] at h ⊢
    split at h
    · cases h
    · rename_i en he
      exact bod_mono (fun t mi pc L st σ r hr => ex_mono1 n t mi pc L st σ r hr) h
theorem ex_mono {n k t mi pc : Nat} {L : Lo} {st : List AV} {σ : St} {r : Res × St} (h : ex n t mi pc L st σ = some r) (hk : n ≤ k) : ex k t mi pc L st σ = some r := by
  induction hk with
  | refl => exact h
  | step _ ih => exact ex_mono1 _ _ _ _ _ _ _ _ ih
theorem wp_iff {t mi pc : Nat} {L : Lo} {st : List AV} {σ : St} {Q : Res → St → Prop} {en : Ent} (h : cd mi pc = some en) : wp t mi pc L st σ Q ↔ ∃ (n : Nat) (r : Res) (σ' : St), bod en t mi pc L st σ (ex n) = some (r, σ') ∧ Q r σ' := by
  constructor
  · rintro ⟨n, r, σ', h1, h2⟩
    cases n with
    | zero => cases h1
    | succ n => rw [ex_succ, h] at h1; exact ⟨n, r, σ', h1, h2⟩
  · rintro ⟨n, r, σ', h1, h2⟩
    exact ⟨n + 1, r, σ', by rw [ex_succ, h]; exact h1, h2⟩
theorem wp_ss {t mi pc : Nat} {L : Lo} {st : List AV} {σ : St} {Q : Res → St → Prop} {en : Ent} (h : cd mi pc = some en) (hs : isS en.1 = true) : wp t mi pc L st σ Q ↔ ss en pc L st σ (fun pc' L' st' σ' => wp t mi pc' L' st' σ' Q) False := by
  rw [wp_iff h]
  simp only [bod_ss hs]
  rcases ss_nat en pc L st σ with ⟨a, b, c, d, h1, h2⟩ | ⟨h1, h2⟩
  · rw [h2]
    simp only [h1]
    exact Iff.rfl
  · rw [h2]
    simp only [h1]
    simp
theorem wp_ireturn {t mi pc l x : Nat} {y : Nat × (Nat × Int)} {L : Lo} {st : List AV} {σ : St} {Q : Res → St → Prop} {z : Int} (h : cd mi pc = some (.ireturn, l, x, y)) : wp t mi pc L [vI z] σ Q ↔ ((x = 1 → (z = 0 ∨ z = 1)) ∧ Q (.inl (some (vI z))) σ) := by
  rw [wp_iff h]
  show (∃ (n : Nat) (r : Res) (σ' : St), (if x = 1 → (z = 0 ∨ z = 1) then some ((.inl (some (vI z)), σ) : Res × St) else none) = some (r, σ') ∧ Q r σ') ↔ _
  by_cases hc : x = 1 → (z = 0 ∨ z = 1)
  · rw [if_pos hc]
    constructor
    · rintro ⟨-, r, σ', h1, h2⟩
      cases h1
      exact ⟨hc, h2⟩
    · rintro ⟨-, h2⟩
      exact ⟨0, _, _, rfl, h2⟩
  · rw [if_neg hc]
    constructor
    · rintro ⟨-, r, σ', h1, h2⟩
      cases h1
    · rintro ⟨h1, -⟩
      exact absurd h1 hc
theorem wp_end {t mi pc : Nat} {L : Lo} {st : List AV} {σ : St} {Q : Res → St → Prop} {en : Ent} {r : Res} (h : cd mi pc = some en) (hb : ∀ E, bod en t mi pc L st σ E = some (r, σ)) : wp t mi pc L st σ Q ↔ Q r σ := by
  rw [wp_iff h]
  constructor
  · rintro ⟨n, r', σ', h1, h2⟩
    rw [hb] at h1
    cases h1
    exact h2
  · intro h2
    exact ⟨0, _, _, hb _, h2⟩
theorem wp_lreturn {t mi pc : Nat} {y : Nat × (Nat × (Nat × (Nat × Int)))} {L : Lo} {st : List AV} {σ : St} {Q : Res → St → Prop} {z : BitVec 64} (h : cd mi pc = some (.lreturn, y)) : wp t mi pc L [vL z] σ Q ↔ Q (.inl (some (vL z))) σ := wp_end h (fun _ => rfl)
theorem wp_dreturn {t mi pc : Nat} {y : Nat × (Nat × (Nat × (Nat × Int)))} {L : Lo} {st : List AV} {σ : St} {Q : Res → St → Prop} {z : UInt64} (h : cd mi pc = some (.dreturn, y)) : wp t mi pc L [vD z] σ Q ↔ Q (.inl (some (vD z))) σ := wp_end h (fun _ => rfl)
theorem wp_freturn {t mi pc : Nat} {y : Nat × (Nat × (Nat × (Nat × Int)))} {L : Lo} {st : List AV} {σ : St} {Q : Res → St → Prop} {z : UInt32} (h : cd mi pc = some (.freturn, y)) : wp t mi pc L [vF z] σ Q ↔ Q (.inl (some (vF z))) σ := wp_end h (fun _ => rfl)
theorem wp_areturn {t mi pc : Nat} {y : Nat × (Nat × (Nat × (Nat × Int)))} {L : Lo} {st : List AV} {σ : St} {Q : Res → St → Prop} {z : Nat} (h : cd mi pc = some (.areturn, y)) : wp t mi pc L [vR z] σ Q ↔ Q (.inl (some (vR z))) σ := wp_end h (fun _ => rfl)
theorem wp_return {t mi pc : Nat} {y : Nat × (Nat × (Nat × (Nat × Int)))} {L : Lo} {st : List AV} {σ : St} {Q : Res → St → Prop} (h : cd mi pc = some (.return_, y)) : wp t mi pc L [] σ Q ↔ Q (.inl none) σ := wp_end h (fun _ => rfl)
theorem wp_throw {t mi pc i l x : Nat} {y : Nat × Int} {L : Lo} {σ : St} {Q : Res → St → Prop} (h : cd mi pc = some (.new i, l, x, 1, y)) : wp (t + 1) mi pc L [] σ Q ↔ Q (.inr x) σ := wp_end h (fun E => by
  show (if (1 : Nat) = 1 ∧ 1 ≤ t + 1 ∧ ([] : List AV) = [] then some ((.inr x, σ) : Res × St) else none) = _
  exact if_pos ⟨rfl, Nat.le_add_left 1 t, rfl⟩)
def xgo (o : Option (Nat × Nat)) (F : Nat × Nat → Prop) (G : Prop) : Prop := match o with | none => G | some q => F q
theorem wp_bcall {t mi pc : Nat} {L : Lo} {st : List AV} {σ : St} {Q : Res → St → Prop} {en : Ent} : (∃ (n : Nat) (r : Res) (σ' : St), bcall en t mi pc L st σ (ex n) = some (r, σ') ∧ Q r σ') ↔
    (en.2.2.2.1 ≤ st.length ∧ wt (st.drop en.2.2.2.1) ≤ 8 ∧ wt (st.take en.2.2.2.1) ≤ mL en.2.2.1 ∧ en.2.2.2.2.2.toNat ≤ t) ∧ Call en.2.2.2.2.2.toNat en.2.2.1 (st.take en.2.2.2.1).reverse σ (fun r σ' => aft r (fun vs => wp (t - en.2.2.2.2.2.toNat) mi (pc + 3) L (vs ++ st.drop en.2.2.2.1) σ' Q) (fun X => xgo (hd mi pc X) (fun q => wp (t - en.2.2.2.2.2.toNat) mi q.1 (lkill L q.2) [] σ' Q) (Q (.inr X) σ'))) := by
  constructor
  · rintro ⟨n, r, σ', h1, h2⟩
    unfold bcall at h1
    split at h1
    · rename_i hc
      refine ⟨hc, ?_⟩
      split at h1
      · cases h1
      · rename_i v σ1 he
        exact ⟨n, _, _, he, ⟨n, _, _, h1, h2⟩⟩
      · rename_i X σ1 he
        refine ⟨n, _, _, he, ?_⟩
        show xgo (hd mi pc X) _ _
        split at h1
        · rename_i hh; rw [hh]; cases h1; exact h2
        · rename_i q hh; rw [hh]; exact ⟨n, _, _, h1, h2⟩
    · cases h1
  · rintro ⟨hc, n, r, σ1, h1, h2⟩
    rcases r with v | X
    · obtain ⟨k, r2, σ2, h3, h4⟩ := h2
      refine ⟨n + k, r2, σ2, ?_, h4⟩
      unfold bcall
      rw [if_pos hc, ex_mono h1 (Nat.le_add_right n k)]
      exact ex_mono h3 (Nat.le_add_left k n)
    · change xgo (hd mi pc X) _ _ at h2
      cases hh : hd mi pc X with
      | none =>
        rw [hh] at h2
        refine ⟨n, _, _, ?_, h2⟩
        unfold bcall
        rw [if_pos hc, h1]
        simp only [hh]
      | some q =>
        rw [hh] at h2
        obtain ⟨k, r2, σ2, h3, h4⟩ := h2
        refine ⟨n + k, r2, σ2, ?_, h4⟩
        unfold bcall
        rw [if_pos hc, ex_mono h1 (Nat.le_add_right n k)]
        simp only [hh]
        exact ex_mono h3 (Nat.le_add_left k n)
theorem wp_calls {t mi pc i : Nat} {L : Lo} {st : List AV} {σ : St} {Q : Res → St → Prop} {y : Nat × (Nat × (Nat × (Nat × Int)))} (h : cd mi pc = some (.invokestatic i, y)) : wp t mi pc L st σ Q ↔
    (y.2.2.1 ≤ st.length ∧ wt (st.drop y.2.2.1) ≤ 8 ∧ wt (st.take y.2.2.1) ≤ mL y.2.1 ∧ y.2.2.2.2.toNat ≤ t) ∧ Call y.2.2.2.2.toNat y.2.1 (st.take y.2.2.1).reverse σ (fun r σ' => aft r (fun vs => wp (t - y.2.2.2.2.toNat) mi (pc + 3) L (vs ++ st.drop y.2.2.1) σ' Q) (fun X => xgo (hd mi pc X) (fun q => wp (t - y.2.2.2.2.toNat) mi q.1 (lkill L q.2) [] σ' Q) (Q (.inr X) σ'))) := by
  rw [wp_iff h]
  exact wp_bcall (en := (.invokestatic i, y))
theorem wp_callv {t mi pc i : Nat} {L : Lo} {st : List AV} {σ : St} {Q : Res → St → Prop} {y : Nat × (Nat × (Nat × (Nat × Int)))} (h : cd mi pc = some (.invokevirtual i, y)) : wp t mi pc L st σ Q ↔
    rcv (st.take y.2.2.1) y.2.2.2.1 = true ∧ (y.2.2.1 ≤ st.length ∧ wt (st.drop y.2.2.1) ≤ 8 ∧ wt (st.take y.2.2.1) ≤ mL y.2.1 ∧ y.2.2.2.2.toNat ≤ t) ∧ Call y.2.2.2.2.toNat y.2.1 (st.take y.2.2.1).reverse σ (fun r σ' => aft r (fun vs => wp (t - y.2.2.2.2.toNat) mi (pc + 3) L (vs ++ st.drop y.2.2.1) σ' Q) (fun X => xgo (hd mi pc X) (fun q => wp (t - y.2.2.2.2.toNat) mi q.1 (lkill L q.2) [] σ' Q) (Q (.inr X) σ'))) := by
  rw [wp_iff h]
  show (∃ (n : Nat) (r : Res) (σ' : St), (if rcv (st.take y.2.2.1) y.2.2.2.1 = true then bcall (.invokevirtual i, y) t mi pc L st σ (ex n) else none) = some (r, σ') ∧ Q r σ') ↔ _
  by_cases hc : rcv (st.take y.2.2.1) y.2.2.2.1 = true
  · simp only [if_pos hc]
    rw [wp_bcall (en := (.invokevirtual i, y))]
    exact ⟨fun h => ⟨hc, h⟩, fun h => h.2⟩
  · simp only [if_neg hc]
    constructor
    · rintro ⟨_, _, _, h1, _⟩; cases h1
    · rintro ⟨h1, _⟩; exact absurd h1 hc
theorem wp_mono {t mi pc : Nat} {L : Lo} {st : List AV} {σ : St} {Q Q' : Res → St → Prop} (hq : ∀ r σ', Q r σ' → Q' r σ') (h : wp t mi pc L st σ Q) : wp t mi pc L st σ Q' := by
  obtain ⟨n, r, σ', h1, h2⟩ := h
  exact ⟨n, r, σ', h1, hq _ _ h2⟩
theorem Call.mono {b y : Nat} {as : List AV} {σ : St} {Q Q' : Res → St → Prop} (h : Call b y as σ Q) (hq : ∀ r σ', Q r σ' → Q' r σ') : Call b y as σ Q' := wp_mono hq h
end
section
theorem n_toInt {z : Int} (h : inR z) : (Int32.ofInt z).toInt = z := Int32.toInt_ofInt_of_le h.1 h.2
theorem n_nat {z : Int} (h0 : 0 ≤ z) (h1 : z < 2147483648) : (Int32.ofInt z).toNatClampNeg = z.toNat := by
  rw [Int32.toNatClampNeg_ofInt_of_le (by omega) (by omega)]
theorem n_in {z : Int} {n : Nat} (h0 : 0 ≤ z) (h1 : z < n) (hn : n < 2147483648) : vp_in (Int32.ofInt z) n := by
  rw [vp_in_iff, n_toInt ⟨by omega, by omega⟩]
  exact ⟨h0, h1⟩
theorem n_eq {a b : Int} (ha : inR a) (hb : inR b) : Int32.ofInt a = Int32.ofInt b ↔ a = b := by
  rw [← Int32.toInt_inj, n_toInt ha, n_toInt hb]
theorem n_lt {a b : Int} (ha : inR a) (hb : inR b) : Int32.ofInt a < Int32.ofInt b ↔ a < b := by
  rw [Int32.lt_iff_toInt_lt, n_toInt ha, n_toInt hb]
theorem n_le {a b : Int} (ha : inR a) (hb : inR b) : Int32.ofInt a ≤ Int32.ofInt b ↔ a ≤ b := by
  rw [Int32.le_iff_toInt_le, n_toInt ha, n_toInt hb]
theorem n_nI {z : Int} (h0 : 0 ≤ z) : Int32.ofInt z = nI z.toNat := by
  obtain ⟨k, rfl⟩ := Int.eq_ofNat_of_zero_le h0
  first | rfl | (apply Int32.toBitVec_inj.mp; simp [nI])
theorem n_div {a b : Int} (ha : nR a) (hb : nR b) (h : b ≠ 0) : Int32.ofInt a / Int32.ofInt b = Int32.ofInt (a / b) := by
  have h1 : 0 ≤ a / b := Int.ediv_nonneg ha.1 hb.1
  rw [n_nI ha.1, n_nI hb.1, n_nI h1, pk_div (by omega) (by omega) (by omega)]
  congr 1
  obtain ⟨k, rfl⟩ := Int.eq_ofNat_of_zero_le ha.1
  obtain ⟨j, rfl⟩ := Int.eq_ofNat_of_zero_le hb.1
  rfl
theorem n_rem {a b : Int} (ha : nR a) (hb : nR b) (h : b ≠ 0) : Int32.ofInt a - Int32.ofInt a / Int32.ofInt b * Int32.ofInt b = Int32.ofInt (a % b) := by
  have h1 : 0 ≤ a % b := Int.emod_nonneg _ h
  rw [n_nI ha.1, n_nI hb.1, n_nI h1, pk_rem (by omega) (by omega) (by omega)]
  congr 1
  obtain ⟨k, rfl⟩ := Int.eq_ofNat_of_zero_le ha.1
  obtain ⟨j, rfl⟩ := Int.eq_ofNat_of_zero_le hb.1
  rfl
theorem n_ne0 {b : Int} (hb : nR b) (h : b ≠ 0) : ¬ Int32.ofInt b = 0 := by
  rw [show (0 : Int32) = Int32.ofInt 0 from rfl, n_eq ⟨by omega, by omega⟩ ⟨by omega, by omega⟩]
  exact h
theorem n_m31 : ∀ k, k < 32 → ((nI k &&& 31).toBitVec.smod 32).toNat = k := by decide +kernel
theorem n_shl (a : Int) {b : Int} (h0 : 0 ≤ b) (h1 : b < 32) : Int32.ofInt a <<< (Int32.ofInt b &&& 31) = Int32.ofInt (a * 2 ^ b.toNat) := by
  rw [n_nI h0]
  apply Int32.toBitVec_inj.mp
  apply BitVec.eq_of_toNat_eq
  rw [pk_shl _ _ b.toNat (n_m31 _ (by omega)), Int32.ofInt_mul]
  have e : Int32.ofInt ((2 : Int) ^ b.toNat) = nI (2 ^ b.toNat) := by
    rw [n_nI (Int.pow_nonneg (by omega))]
    congr 1
  rw [e]
  show _ = ((Int32.ofInt a).toBitVec * (nI (2 ^ b.toNat)).toBitVec).toNat
  rw [BitVec.toNat_mul]
  have h2 : (2 : Nat) ^ b.toNat < 2 ^ 32 := Nat.pow_lt_pow_right (by omega) (by omega)
  rw [pk_tn h2]
theorem n_shr {a b : Int} (ha : inR a) (h0 : 0 ≤ b) (h1 : b < 32) : Int32.ofInt a >>> (Int32.ofInt b &&& 31) = Int32.ofInt (a / 2 ^ b.toNat) := by
  have hp : (0 : Int) < 2 ^ b.toNat := Int.pow_pos (by omega)
  have hr : inR (a / 2 ^ b.toNat) := by
    constructor
    · have : -2147483648 ≤ a / 2 ^ b.toNat ↔ -2147483648 * 2 ^ b.toNat ≤ a := Int.le_ediv_iff_mul_le hp
      rw [this]
      have h3 : (1 : Int) ≤ 2 ^ b.toNat := by omega
      have : -2147483648 * 2 ^ b.toNat ≤ -2147483648 * (1 : Int) := Int.mul_le_mul_of_nonpos_left (by omega) h3
      have := ha.1
      omega
    · have : a / 2 ^ b.toNat < 2147483648 ↔ a < 2147483648 * 2 ^ b.toNat := Int.ediv_lt_iff_lt_mul hp
      rw [this]
      have h3 : (1 : Int) ≤ 2 ^ b.toNat := by omega
      have : 2147483648 * (1 : Int) ≤ 2147483648 * 2 ^ b.toNat := Int.mul_le_mul_of_nonneg_left h3 (by omega)
      have := ha.2
      omega
  rw [n_nI h0]
  apply Int32.toInt_inj.mp
  rw [pk_shr _ _ b.toNat (n_m31 _ (by omega)), n_toInt ha, n_toInt hr, Int.shiftRight_eq_div_pow]
  first | rfl | norm_cast
theorem n_and (a b : Int) : Int32.ofInt a &&& Int32.ofInt b = Int32.ofInt (iAnd a b) := by
  apply Int32.toBitVec_inj.mp
  rw [Int32.toBitVec_and, Int32.toBitVec_ofInt, Int32.toBitVec_ofInt, Int32.toBitVec_ofInt, iAnd, BitVec.ofInt_toInt]
theorem n_or (a b : Int) : Int32.ofInt a ||| Int32.ofInt b = Int32.ofInt (iOr a b) := by
  apply Int32.toBitVec_inj.mp
  rw [Int32.toBitVec_or, Int32.toBitVec_ofInt, Int32.toBitVec_ofInt, Int32.toBitVec_ofInt, iOr, BitVec.ofInt_toInt]
theorem n_i2l {a : Int} (h : inR a) : (Int32.ofInt a).toInt64 = Int64.ofBitVec (BitVec.ofInt 64 a) := by
  rw [Int32.toInt64_ofInt (by have := h.1; exact this) (by have := h.2; show a ≤ 2147483647; omega)]
  rfl
theorem n_l2i (b : BitVec 64) : (Int64.ofBitVec b).toInt32 = Int32.ofInt b.toInt := by
  apply Int32.toBitVec_inj.mp
  rw [Int32.toBitVec_ofInt]
  rfl
theorem n_m63 (b : Int) : (Int32.ofInt b).toInt64 &&& 63 = lN (sh6 b) := by
  apply Int64.toBitVec_inj.mp
  apply BitVec.eq_of_toNat_eq
  have e1 : ((Int32.ofInt b).toInt64 &&& 63).toBitVec = BitVec.signExtend 64 (BitVec.ofInt 32 b) &&& 63#64 := rfl
  rw [e1, BitVec.toNat_and]
  have e2 : BitVec.signExtend 64 (BitVec.ofInt 32 b) = BitVec.ofInt 64 (BitVec.ofInt 32 b).toInt := rfl
  rw [e2, BitVec.toNat_ofInt, BitVec.toInt_ofInt]
  show (_ &&& (2 ^ 6 - 1)) = _
  rw [Nat.and_two_pow_sub_one_eq_mod]
  show _ = (BitVec.ofNat 64 (sh6 b)).toNat
  rw [BitVec.toNat_ofNat]
  simp only [sh6, Int.bmod]
  split <;> omega
theorem sh6_lt (b : Int) : sh6 b < 64 := by unfold sh6; omega
theorem n_m64 : ∀ k, k < 64 → (lN k).toBitVec.smod 64 = BitVec.ofNat 64 k := by decide +kernel
theorem n_lshl (a : BitVec 64) (b : Int) : Int64.ofBitVec a <<< ((Int32.ofInt b).toInt64 &&& 63) = Int64.ofBitVec (a <<< sh6 b) := by
  rw [n_m63]
  show Int64.ofBitVec (a <<< ((lN (sh6 b)).toBitVec.smod 64)) = _
  rw [n_m64 _ (sh6_lt b), BitVec.shiftLeft_eq', BitVec.toNat_ofNat, Nat.mod_eq_of_lt (by have := sh6_lt b; omega)]
theorem n_lshr (a : BitVec 64) (b : Int) : Int64.ofBitVec a >>> ((Int32.ofInt b).toInt64 &&& 63) = Int64.ofBitVec (a.sshiftRight (sh6 b)) := by
  rw [n_m63]
  show Int64.ofBitVec (a.sshiftRight' ((lN (sh6 b)).toBitVec.smod 64)) = _
  rw [n_m64 _ (sh6_lt b), BitVec.sshiftRight_eq', BitVec.toNat_ofNat, Nat.mod_eq_of_lt (by have := sh6_lt b; omega)]
theorem n_lushr (a : BitVec 64) (b : Int) : ((Int64.ofBitVec a).toUInt64 >>> ((Int32.ofInt b).toInt64.toUInt64 &&& Int64.toUInt64 63)).toInt64 = Int64.ofBitVec (a >>> sh6 b) := by
  have e : (Int32.ofInt b).toInt64.toUInt64 &&& Int64.toUInt64 63 = ((Int32.ofInt b).toInt64 &&& 63).toUInt64 := rfl
  rw [e, n_m63]
  show Int64.ofBitVec (a >>> ((lN (sh6 b)).toBitVec % 64)) = _
  have e2 : (lN (sh6 b)).toBitVec % 64 = BitVec.ofNat 64 (sh6 b) := by
    have : ∀ k, k < 64 → (lN k).toBitVec % 64 = BitVec.ofNat 64 k := by decide +kernel
    exact this _ (sh6_lt b)
  rw [e2, BitVec.ushiftRight_eq', BitVec.toNat_ofNat, Nat.mod_eq_of_lt (by have := sh6_lt b; omega)]
end
section
/-! what the pure machine's things are in the real one -/
def cv (α : Nat → Nat) (v : AV) : Value := match v with
  | .inl z => .int (Int32.ofInt z)
  | .inr (.inl b) => .long (Int64.ofBitVec b)
  | .inr (.inr (.inl d)) => .double d
  | .inr (.inr (.inr (.inl d))) => .float d
  | .inr (.inr (.inr (.inr i))) => .ref (α i)
theorem cv_cat (α : Nat → Nat) (v : AV) : (cv α v).category = if c2 v then 2 else 1 := by
  rcases v with z | b | d | d | i <;> rfl
def lvs (α : Nat → Nat) : Nat → Lo → List (Nat × Value)
  | _, [] => []
  | i, none :: r => lvs α (i + 1) r
  | i, some v :: r => (i, cv α v) :: lvs α (i + 1) r
theorem lvs_get {α : Nat → Nat} : ∀ (L : Lo) (i j : Nat) (v : AV), lget L j = some v → (i + j, cv α v) ∈ lvs α i L
  | [], _, _, _, h => by cases h
  | a :: r, i, 0, v, h => by
    have h : a = some v := h
    subst h
    exact List.mem_cons_self
  | a :: r, i, j + 1, v, h => by
    have h1 := lvs_get (α := α) r (i + 1) j v h
    rw [show i + 1 + j = i + (j + 1) by omega] at h1
    cases a with
    | none => exact h1
    | some w => exact List.mem_cons_of_mem _ h1
theorem lvs_le {α : Nat → Nat} : ∀ (L : Lo) (i : Nat) (q : Nat × Value), q ∈ lvs α i L → i ≤ q.1
  | [], _, _, h => by cases h
  | none :: r, i, q, h => Nat.le_of_succ_le (lvs_le (α := α) r (i + 1) q h)
  | some v :: r, i, q, h => by
    rcases List.mem_cons.mp h with rfl | h
    · exact Nat.le_refl _
    · exact Nat.le_of_succ_le (lvs_le (α := α) r (i + 1) q h)
theorem lvs_tail {α : Nat → Nat} {a : Option AV} {r : Lo} {i : Nat} {q : Nat × Value} (h : q ∈ lvs α (i + 1) r) : q ∈ lvs α i (a :: r) := by
  cases a with
  | none => exact h
  | some w => exact List.mem_cons_of_mem _ h
theorem lvs_drop {α : Nat → Nat} {r : Lo} {i : Nat} {q : Nat × Value} (h : q ∈ lvs α i (ldrop r)) : q ∈ lvs α i r ∧ q.1 ≠ i := by
  cases r with
  | nil => cases h
  | cons a r =>
    have h : q ∈ lvs α (i + 1) r := h
    exact ⟨lvs_tail h, fun e => by have := lvs_le _ _ _ h; omega⟩
theorem lset_sub {α : Nat → Nat} (v : AV) : ∀ (L : Lo) (i j : Nat) (q : Nat × Value), q ∈ lvs α j (lset L i v) → q = (j + i, cv α v) ∨ (q ∈ lvs α j L ∧ q.1 ≠ j + i ∧ (c2 v = true → q.1 ≠ j + i + 1) ∧ ¬ (q.1 + 1 = j + i ∧ q.2.category = 2))
  | [], _, _, _, h => by cases h
  | a :: r, 0, j, q, h => by
    rcases List.mem_cons.mp h with rfl | h
    · exact Or.inl rfl
    · cases hc : c2 v with
      | true =>
        rw [if_pos hc] at h
        obtain ⟨h1, h2⟩ := lvs_drop h
        have h3 := lvs_le _ _ _ h1
        exact Or.inr ⟨lvs_tail h1, by omega, fun _ => by omega, by omega⟩
      | false =>
        rw [if_neg (by rw [hc]; decide)] at h
        have h3 := lvs_le _ _ _ h
        exact Or.inr ⟨lvs_tail h, by omega, fun e => (by cases e), by omega⟩
  | a :: r, n + 1, j, q, h => by
    have key : q ∈ lvs α (j + 1) (lset r n v) → q = (j + (n + 1), cv α v) ∨ (q ∈ lvs α j (a :: r) ∧ q.1 ≠ j + (n + 1) ∧ (c2 v = true → q.1 ≠ j + (n + 1) + 1) ∧ ¬ (q.1 + 1 = j + (n + 1) ∧ q.2.category = 2)) := by
      intro h
      rcases lset_sub v r n (j + 1) q h with h1 | ⟨h1, h2, h3, h4⟩
      · exact Or.inl (by rw [h1]; congr 1; omega)
      · exact Or.inr ⟨lvs_tail h1, by omega, fun e => by have := h3 e; omega, by intro e; exact h4 ⟨by omega, e.2⟩⟩
    by_cases hn : n = 0
    · have h : q ∈ lvs α j (lhead a :: lset r n v) := by
        have h' := h
        unfold lset at h'
        rw [if_pos hn] at h'
        exact h'
      cases a with
      | none => exact key h
      | some w =>
        unfold lhead at h
        cases hc : c2 w with
        | true => simp only [hc, if_true] at h; exact key h
        | false =>
          simp only [hc] at h
          rcases List.mem_cons.mp h with rfl | h
          · refine Or.inr ⟨List.mem_cons_self, ?_, fun _ => ?_, fun e => ?_⟩
            · show j ≠ j + (n + 1); omega
            · show j ≠ j + (n + 1) + 1; omega
            · have := e.2
              rw [show ((j, cv α w) : Nat × Value).2 = cv α w from rfl, cv_cat, hc] at this
              cases this
          · exact key h
    · have h : q ∈ lvs α j (a :: lset r n v) := by
        have h' := h
        unfold lset at h'
        rw [if_neg hn] at h'
        exact h'
      cases a with
      | none => exact key h
      | some w =>
        rcases List.mem_cons.mp h with rfl | h
        · refine Or.inr ⟨List.mem_cons_self, ?_, fun _ => ?_, fun e => ?_⟩
          · show j ≠ j + (n + 1); omega
          · show j ≠ j + (n + 1) + 1; omega
          · have := e.1
            have : j + 1 = j + (n + 1) := this
            omega
        · exact key h
theorem lkill_sub {α : Nat → Nat} : ∀ (L : Lo) (i j : Nat) (q : Nat × Value), q ∈ lvs α j (lkill L i) → q ∈ lvs α j L ∧ q.1 ≠ j + i ∧ ¬ (q.1 + 1 = j + i ∧ q.2.category = 2)
  | [], _, _, _, h => by cases h
  | a :: r, 0, j, q, h => by
    have h : q ∈ lvs α (j + 1) r := h
    have h3 := lvs_le _ _ _ h
    exact ⟨lvs_tail h, by omega, by omega⟩
  | a :: r, n + 1, j, q, h => by
    have key : q ∈ lvs α (j + 1) (lkill r n) → q ∈ lvs α j (a :: r) ∧ q.1 ≠ j + (n + 1) ∧ ¬ (q.1 + 1 = j + (n + 1) ∧ q.2.category = 2) := by
      intro h
      obtain ⟨h1, h2, h4⟩ := lkill_sub r n (j + 1) q h
      exact ⟨lvs_tail h1, by omega, by intro e; exact h4 ⟨by omega, e.2⟩⟩
    by_cases hn : n = 0
    · have h : q ∈ lvs α j (lhead a :: lkill r n) := by
        have h' := h
        unfold lkill at h'
        rw [if_pos hn] at h'
        exact h'
      cases a with
      | none => exact key h
      | some w =>
        unfold lhead at h
        cases hc : c2 w with
        | true => simp only [hc, if_true] at h; exact key h
        | false =>
          simp only [hc] at h
          rcases List.mem_cons.mp h with rfl | h
          · refine ⟨List.mem_cons_self, ?_, fun e => ?_⟩
            · show j ≠ j + (n + 1); omega
            · have := e.2
              rw [show ((j, cv α w) : Nat × Value).2 = cv α w from rfl, cv_cat, hc] at this
              cases this
          · exact key h
    · have h : q ∈ lvs α j (a :: lkill r n) := by
        have h' := h
        unfold lkill at h'
        rw [if_neg hn] at h'
        exact h'
      cases a with
      | none => exact key h
      | some w =>
        rcases List.mem_cons.mp h with rfl | h
        · refine ⟨List.mem_cons_self, ?_, fun e => ?_⟩
          · show j ≠ j + (n + 1); omega
          · have := e.1
            have : j + 1 = j + (n + 1) := this
            omega
        · exact key h
/-- the locals behind a store, from the row's list -/
theorem lv_set1 {α : Nat → Nat} {ls : Array Slot} {n i : Nat} {L : Lo} {v : AV} (hc : c2 v = false) (h : lv_has ls n ((i, cv α v) :: (lvs α 0 L).filter (fun q => !(q.1 == i) && !(q.1 + 1 == i && q.2.category == 2)))) : lv_has ls n (lvs α 0 (lset L i v)) := by
  refine ⟨h.1, h.2.1, fun q hq => h.2.2 q ?_⟩
  rcases lset_sub v L i 0 q hq with h1 | ⟨h1, h2, -, h4⟩
  · rw [h1, Nat.zero_add]; exact List.mem_cons_self
  · refine List.mem_cons_of_mem _ (List.mem_filter.mpr ⟨h1, ?_⟩)
    rw [Nat.zero_add] at h2 h4
    simp only [Bool.and_eq_true, Bool.not_eq_true', beq_eq_false_iff_ne, ne_eq, Bool.and_eq_false_iff]
    refine ⟨h2, ?_⟩
    by_cases e : q.1 + 1 = i
    · exact Or.inr fun e2 => h4 ⟨e, e2⟩
    · exact Or.inl e
theorem lv_set2 {α : Nat → Nat} {ls : Array Slot} {n i : Nat} {L : Lo} {v : AV} (hc : c2 v = true) (h : lv_has ls n ((i, cv α v) :: (lvs α 0 L).filter (fun q => !(q.1 == i) && (!(q.1 == i + 1) && !(q.1 + 1 == i && q.2.category == 2))))) : lv_has ls n (lvs α 0 (lset L i v)) := by
  refine ⟨h.1, h.2.1, fun q hq => h.2.2 q ?_⟩
  rcases lset_sub v L i 0 q hq with h1 | ⟨h1, h2, h3, h4⟩
  · rw [h1, Nat.zero_add]; exact List.mem_cons_self
  · refine List.mem_cons_of_mem _ (List.mem_filter.mpr ⟨h1, ?_⟩)
    have h3 := h3 hc
    rw [Nat.zero_add] at h2 h3 h4
    simp only [Bool.and_eq_true, Bool.not_eq_true', beq_eq_false_iff_ne, ne_eq, Bool.and_eq_false_iff]
    refine ⟨h2, h3, ?_⟩
    by_cases e : q.1 + 1 = i
    · exact Or.inr fun e2 => h4 ⟨e, e2⟩
    · exact Or.inl e
theorem lv_get {α : Nat → Nat} {ls : Array Slot} {n i : Nat} {L : Lo} {v : AV} (h : lv_has ls n (lvs α 0 L)) (hg : lget L i = some v) : ls[i]? = some (.val (cv α v)) := by
  have := h.2.2 _ (lvs_get L 0 i v hg)
  rwa [Nat.zero_add] at this
/-- the world of the layout -/
def cE (κ : Nat → ClassId) (α : Nat → Nat) (σ : St) (c : Nat) : va_E :=
  if lc c = 101 then .inl (κ 0, ln c, .inl (fun j => Int32.ofInt (gI σ c (j : Nat))))
  else if lc c = 102 then .inl (κ 1, ln c, .inr (.inl (fun j => Int64.ofBitVec (gL σ c (j : Nat)))))
  else if lc c = 103 then .inl (κ 2, ln c, .inr (.inr (.inr (.inl (fun j => gD σ c (j : Nat))))))
  else .inr (lc c, (List.range (nf (lc c))).map (fun k => if fk (lc c) k = 2 then Value.ref (α (rf c k)) else .int (Int32.ofInt (gI σ c (k : Nat)))))
def wd (κ : Nat → ClassId) (α : Nat → Nat) (σ : St) : va_W := (List.range 79).map (fun c => (α c, cE κ α σ c))
theorem wd_get {κ : Nat → ClassId} {α : Nat → Nat} {σ : St} {c : Nat} (h : c < 79) : (wd κ α σ)[c]? = some (α c, cE κ α σ c) := by
  unfold wd
  rw [List.getElem?_map, List.getElem?_range h]
  rfl
theorem wd_set {κ : Nat → ClassId} {α : Nat → Nat} {σ σ' : St} {c : Nat} {e : va_E} (he : e = cE κ α σ' c) (ho : ∀ d, d ≠ c → cE κ α σ d = cE κ α σ' d) : (wd κ α σ).set c (α c, e) = wd κ α σ' := by
  apply List.ext_getElem?
  intro k
  by_cases hk : k < 79
  · rw [List.getElem?_set]
    by_cases hc : c = k
    · subst hc
      rw [if_pos rfl, if_pos (by unfold wd; simpa using hk), wd_get hk, he]
    · rw [if_neg hc, wd_get hk, wd_get hk, ho k (fun e => hc e.symm)]
  · have l1 : ((wd κ α σ).set c (α c, e)).length = 79 := by unfold wd; simp
    have l2 : (wd κ α σ').length = 79 := by unfold wd; simp
    rw [List.getElem?_eq_none (by omega), List.getElem?_eq_none (by omega)]
theorem gI_sI {σ : St} {c d : Nat} {i j v : Int} : gI (sI σ c i v) d j = if d = c ∧ j = i then v else gI σ d j := rfl
theorem gL_sI {σ : St} {c d : Nat} {i j v : Int} : gL (sI σ c i v) d j = gL σ d j := rfl
theorem gD_sI {σ : St} {c d : Nat} {i j v : Int} : gD (sI σ c i v) d j = gD σ d j := rfl
theorem gI_sL {σ : St} {c d : Nat} {i j : Int} {v : BitVec 64} : gI (sL σ c i v) d j = gI σ d j := rfl
theorem gL_sL {σ : St} {c d : Nat} {i j : Int} {v : BitVec 64} : gL (sL σ c i v) d j = if d = c ∧ j = i then v else gL σ d j := rfl
theorem gD_sL {σ : St} {c d : Nat} {i j : Int} {v : BitVec 64} : gD (sL σ c i v) d j = gD σ d j := rfl
theorem gI_sD {σ : St} {c d : Nat} {i j : Int} {v : UInt64} : gI (sD σ c i v) d j = gI σ d j := rfl
theorem gL_sD {σ : St} {c d : Nat} {i j : Int} {v : UInt64} : gL (sD σ c i v) d j = gL σ d j := rfl
theorem gD_sD {σ : St} {c d : Nat} {i j : Int} {v : UInt64} : gD (sD σ c i v) d j = if d = c ∧ j = i then v else gD σ d j := rfl
theorem cE_sI {κ : Nat → ClassId} {α : Nat → Nat} {σ : St} {c : Nat} {i v : Int} {d : Nat} (h : d ≠ c) : cE κ α σ d = cE κ α (sI σ c i v) d := by
  unfold cE
  simp only [gI_sI, gL_sI, gD_sI, h, false_and, if_false]
theorem cE_sL {κ : Nat → ClassId} {α : Nat → Nat} {σ : St} {c : Nat} {i : Int} {v : BitVec 64} {d : Nat} (h : d ≠ c) : cE κ α σ d = cE κ α (sL σ c i v) d := by
  unfold cE
  simp only [gI_sL, gL_sL, gD_sL, h, false_and, if_false]
theorem cE_sD {κ : Nat → ClassId} {α : Nat → Nat} {σ : St} {c : Nat} {i : Int} {v : UInt64} {d : Nat} (h : d ≠ c) : cE κ α σ d = cE κ α (sD σ c i v) d := by
  unfold cE
  simp only [gI_sD, gL_sD, gD_sD, h, false_and, if_false]
theorem cE_101 {κ : Nat → ClassId} {α : Nat → Nat} {σ : St} {c : Nat} (h : lc c = 101) : cE κ α σ c = .inl (κ 0, ln c, .inl (fun j => Int32.ofInt (gI σ c (j : Nat)))) := if_pos h
theorem cE_102 {κ : Nat → ClassId} {α : Nat → Nat} {σ : St} {c : Nat} (h : lc c = 102) : cE κ α σ c = .inl (κ 1, ln c, .inr (.inl (fun j => Int64.ofBitVec (gL σ c (j : Nat))))) := by
  unfold cE; rw [if_neg (by omega), if_pos h]
theorem cE_103 {κ : Nat → ClassId} {α : Nat → Nat} {σ : St} {c : Nat} (h : lc c = 103) : cE κ α σ c = .inl (κ 2, ln c, .inr (.inr (.inr (.inl (fun j => gD σ c (j : Nat)))))) := by
  unfold cE; rw [if_neg (by omega), if_neg (by omega), if_pos h]
theorem cE_obj {κ : Nat → ClassId} {α : Nat → Nat} {σ : St} {c : Nat} (h : lc c < 10) : cE κ α σ c = .inr (lc c, (List.range (nf (lc c))).map (fun k => if fk (lc c) k = 2 then Value.ref (α (rf c k)) else .int (Int32.ofInt (gI σ c (k : Nat))))) := by
  unfold cE; rw [if_neg (by omega), if_neg (by omega), if_neg (by omega)]
theorem lc_big {c : Nat} (h : 79 ≤ c) : lc c = 104 ∨ lc c = 999 := by
  by_cases h2 : c = 79
  · subst h2; exact Or.inl rfl
  · right
    unfold lc
    rw [List.getD_eq_getElem?_getD, List.getElem?_eq_none (by have : lcT.length = 80 := by decide +kernel
                                                              omega)]
    rfl
theorem lc_lt {c : Nat} (h : lc c < 104) : c < 79 := by
  rcases Nat.lt_or_ge c 79 with h1 | h1
  · exact h1
  · rcases lc_big h1 with h2 | h2 <;> omega
theorem ln_lt {c : Nat} (h : c < 79) : ln c < 2147483648 := by
  have : (List.range 79).all (fun c => decide (ln c < 2147483648)) = true := by decide +kernel
  exact of_decide_eq_true (List.all_eq_true.mp this c (List.mem_range.mpr h))
theorem upd_conc {f : Int → Int} {g : Nat → Int32} {i v : Int} (hi : 0 ≤ i) (hg : ∀ j : Nat, g j = Int32.ofInt (f j)) : upd g i.toNat (Int32.ofInt v) = fun j : Nat => Int32.ofInt (if (j : Int) = i then v else f j) := by
  funext j
  unfold upd
  by_cases h : j = i.toNat
  · rw [if_pos h, if_pos (by omega)]
  · rw [if_neg h, if_neg (by omega), hg]
end
section
theorem eP_some {α : Type} {st : List AV} {k : AV → List AV → Option α} {r : α} (h : eP st k none = some r) : ∃ v r2, st = v :: r2 ∧ k v r2 = some r := by
  cases st with
  | nil => cases h
  | cons v r2 => exact ⟨v, r2, rfl, h⟩
theorem eO_some {α : Type} {o : Option AV} {k : AV → Option α} {r : α} (h : eO o k none = some r) : ∃ v, o = some v ∧ k v = some r := by
  cases o with
  | none => cases h
  | some v => exact ⟨v, rfl, h⟩
theorem eI_some {α : Type} {v : AV} {k : Int → Option α} {r : α} (h : eI v k none = some r) : ∃ z, v = vI z ∧ k z = some r := by
  rcases v with z | z | z | z | z <;> first | exact ⟨z, rfl, h⟩ | cases h
theorem eL_some {α : Type} {v : AV} {k : BitVec 64 → Option α} {r : α} (h : eL v k none = some r) : ∃ z, v = vL z ∧ k z = some r := by
  rcases v with z | z | z | z | z <;> first | exact ⟨z, rfl, h⟩ | cases h
theorem eD_some {α : Type} {v : AV} {k : UInt64 → Option α} {r : α} (h : eD v k none = some r) : ∃ z, v = vD z ∧ k z = some r := by
  rcases v with z | z | z | z | z <;> first | exact ⟨z, rfl, h⟩ | cases h
theorem eF_some {α : Type} {v : AV} {k : UInt32 → Option α} {r : α} (h : eF v k none = some r) : ∃ z, v = vF z ∧ k z = some r := by
  rcases v with z | z | z | z | z <;> first | exact ⟨z, rfl, h⟩ | cases h
theorem eR_some {α : Type} {v : AV} {k : Nat → Option α} {r : α} (h : eR v k none = some r) : ∃ z, v = vR z ∧ k z = some r := by
  rcases v with z | z | z | z | z <;> first | exact ⟨z, rfl, h⟩ | cases h
theorem if_some {α : Type} {c : Prop} [Decidable c] {x : Option α} {r : α} (h : (if c then x else none) = some r) : c ∧ x = some r := by
  by_cases hc : c
  · rw [if_pos hc] at h; exact ⟨hc, h⟩
  · rw [if_neg hc] at h; cases h
theorem if_negs {α : Type} {c : Prop} [Decidable c] {x y : Option α} {r : α} (h : (if c then x else y) = some r) (hc : ¬ c) : y = some r := by rwa [if_neg hc] at h
theorem len_ok {n k : Nat} (h : (eqN n k || eqN k 0) = true) (hk : eqN k 0 = false) : n = k := by
  rw [hk, Bool.or_false] at h
  exact Nat.eq_of_beq_eq_true h
def TS : List Cond := lw_tbl.filter okw
theorem ts_mem {i : Nat} {w : Cond} (h : lw_tbl[i]? = some w) (g : okw w = true) : w ∈ TS := List.mem_filter.mpr ⟨List.mem_of_getElem? h, g⟩
theorem inLF_ok {ci i x : Nat} (h : inLF ci i x = true) : Cond.fieldLink (cN ci) i (cN ci) (fT ci x).2.1 (fT ci x).2.2.1 ∈ TS := by
  obtain ⟨e, he, h2⟩ := List.any_eq_true.mp h
  have h3 := List.all_eq_true.mp LF_ok e he
  simp only [Bool.and_eq_true] at h2
  have e1 := Nat.eq_of_beq_eq_true h2.1
  have e2 := Nat.eq_of_beq_eq_true h2.2.1
  have e3 := Nat.eq_of_beq_eq_true h2.2.2
  subst e1; subst e2; subst e3
  exact ts_mem (of_decide_eq_true h3) rfl
theorem inLM_ok {ci i x : Nat} (h : inLM ci i x = true) : Cond.methodLink (cN ci) i (mY x) ∈ TS := by
  obtain ⟨e, he, h2⟩ := List.any_eq_true.mp h
  have h3 := List.all_eq_true.mp LM_ok e he
  simp only [Bool.and_eq_true] at h2
  have e1 := Nat.eq_of_beq_eq_true h2.1
  have e2 := Nat.eq_of_beq_eq_true h2.2.1
  have e3 := Nat.eq_of_beq_eq_true h2.2.2
  subst e1; subst e2; subst e3
  exact ts_mem (of_decide_eq_true h3) rfl
theorem inLN_ok {ci i x : Nat} (h : inLN ci i x = true) : Cond.methodLinkNest (cN ci) i (mY x) hostN ∈ TS := by
  obtain ⟨e, he, h2⟩ := List.any_eq_true.mp h
  have h3 := List.all_eq_true.mp LN_ok e he
  simp only [Bool.and_eq_true] at h2
  have e1 := Nat.eq_of_beq_eq_true h2.1
  have e2 := Nat.eq_of_beq_eq_true h2.2.1
  have e3 := Nat.eq_of_beq_eq_true h2.2.2
  subst e1; subst e2; subst e3
  exact ts_mem (of_decide_eq_true h3) rfl
theorem inLL_ok {ci i : Nat} {z : Int} (h : inLL ci i z = true) : Cond.constantLong (cN ci) i (Int64.ofInt z) ∈ TS := by
  obtain ⟨e, he, h2⟩ := List.any_eq_true.mp h
  have h3 := List.all_eq_true.mp LL_ok e he
  simp only [Bool.and_eq_true] at h2
  have e1 := Nat.eq_of_beq_eq_true h2.1
  have e2 := Nat.eq_of_beq_eq_true h2.2.1
  have e3 := of_decide_eq_true h2.2.2
  subst e1; subst e2; subst e3
  exact ts_mem (of_decide_eq_true h3) rfl
theorem ul_0 : u_ws (cN 0) (fT 0) (nf 0) = [157, 159, 161, 163].filterMap (fun i => lw_tbl[i]?) := by decide +kernel
theorem uo_0 : (u_ws (cN 0) (fT 0) (nf 0)).all okw = true := by decide +kernel
theorem ul_1 : u_ws (cN 1) (fT 1) (nf 1) = [233, 235, 237, 239].filterMap (fun i => lw_tbl[i]?) := by decide +kernel
theorem uo_1 : (u_ws (cN 1) (fT 1) (nf 1)).all okw = true := by decide +kernel
theorem ul_2 : u_ws (cN 2) (fT 2) (nf 2) = [177, 179, 181, 183].filterMap (fun i => lw_tbl[i]?) := by decide +kernel
theorem uo_2 : (u_ws (cN 2) (fT 2) (nf 2)).all okw = true := by decide +kernel
theorem ul_3 : u_ws (cN 3) (fT 3) (nf 3) = [306].filterMap (fun i => lw_tbl[i]?) := by decide +kernel
theorem uo_3 : (u_ws (cN 3) (fT 3) (nf 3)).all okw = true := by decide +kernel
theorem ul_4 : u_ws (cN 4) (fT 4) (nf 4) = [255, 257, 259, 261, 263, 265, 267, 269, 271, 273, 275, 277, 279].filterMap (fun i => lw_tbl[i]?) := by decide +kernel
theorem uo_4 : (u_ws (cN 4) (fT 4) (nf 4)).all okw = true := by decide +kernel
theorem ul_5 : u_ws (cN 5) (fT 5) (nf 5) = [326, 328, 330, 332, 334, 336, 338, 340, 342, 344, 346].filterMap (fun i => lw_tbl[i]?) := by decide +kernel
theorem uo_5 : (u_ws (cN 5) (fT 5) (nf 5)).all okw = true := by decide +kernel
theorem ul_6 : u_ws (cN 6) (fT 6) (nf 6) = [200, 202, 204, 206, 208, 210, 212, 214].filterMap (fun i => lw_tbl[i]?) := by decide +kernel
theorem uo_6 : (u_ws (cN 6) (fT 6) (nf 6)).all okw = true := by decide +kernel
theorem ul_7 : u_ws (cN 7) (fT 7) (nf 7) = [292, 294, 296].filterMap (fun i => lw_tbl[i]?) := by decide +kernel
theorem uo_7 : (u_ws (cN 7) (fT 7) (nf 7)).all okw = true := by decide +kernel
theorem ul_8 : u_ws (cN 8) (fT 8) (nf 8) = [360, 362, 364, 366, 368, 370, 372, 374, 376, 378, 380].filterMap (fun i => lw_tbl[i]?) := by decide +kernel
theorem uo_8 : (u_ws (cN 8) (fT 8) (nf 8)).all okw = true := by decide +kernel
theorem ul_9 : u_ws (cN 9) (fT 9) (nf 9) = [1425, 1427, 1429, 1431, 1433, 1435, 1437, 1439, 1441, 1443, 1445, 1447, 1449, 1451, 1453, 1455, 1457, 1459, 1461, 1463, 1465, 1467, 1469, 1471, 1473, 1475, 1477, 1479, 1481, 1483, 1485, 1487, 1489, 1491, 1493, 1495, 1497, 1499, 1501, 1503, 1505, 1507, 1509, 1511, 1513].filterMap (fun i => lw_tbl[i]?) := by decide +kernel
theorem uo_9 : (u_ws (cN 9) (fT 9) (nf 9)).all okw = true := by decide +kernel
theorem u_in_of {ws : List Cond} {ps : List Nat} (h : ws = ps.filterMap (fun i => lw_tbl[i]?)) (g : ws.all okw = true) : ∀ w ∈ ws, w ∈ TS := by
  intro w hw
  have h1 := List.all_eq_true.mp g w hw
  rw [h] at hw
  obtain ⟨i, -, hi⟩ := List.mem_filterMap.mp hw
  exact ts_mem hi h1
theorem u_in {ci : Nat} (h : ci < 10) : ∀ w ∈ u_ws (cN ci) (fT ci) (nf ci), w ∈ TS := by
  rcases (show ci = 0 ∨ ci = 1 ∨ ci = 2 ∨ ci = 3 ∨ ci = 4 ∨ ci = 5 ∨ ci = 6 ∨ ci = 7 ∨ ci = 8 ∨ ci = 9 by omega) with rfl | rfl | rfl | rfl | rfl | rfl | rfl | rfl | rfl | rfl
  · exact u_in_of ul_0 uo_0
  · exact u_in_of ul_1 uo_1
  · exact u_in_of ul_2 uo_2
  · exact u_in_of ul_3 uo_3
  · exact u_in_of ul_4 uo_4
  · exact u_in_of ul_5 uo_5
  · exact u_in_of ul_6 uo_6
  · exact u_in_of ul_7 uo_7
  · exact u_in_of ul_8 uo_8
  · exact u_in_of ul_9 uo_9
theorem f_all : (List.range 10).all (fun ci => (List.range (nf ci)).all (fun k => decide ((fT ci k).1 = cN ci) && (decide (parseFieldDescriptor (fT ci k).2.2.1 = some (fTy ci k)) && ((decide (fk ci k = 0) && decide (fTy ci k = .int)) || ((decide (fk ci k = 1) && decide (fTy ci k = .boolean)) || decide (fk ci k = 2)))))) = true := by decide +kernel
theorem f_nm : (List.range 10).all (fun ci => (List.range (nf ci)).all (fun a => (List.range (nf ci)).all (fun b => decide (a = b) || !decide ((fT ci a).2.1 = (fT ci b).2.1)))) = true := by decide +kernel
theorem f_at {ci k : Nat} (h : ci < 10) (hk : k < nf ci) : (fT ci k).1 = cN ci ∧ parseFieldDescriptor (fT ci k).2.2.1 = some (fTy ci k) ∧ ((fk ci k = 0 ∧ fTy ci k = .int) ∨ (fk ci k = 1 ∧ fTy ci k = .boolean) ∨ fk ci k = 2) := by
  have h1 := List.all_eq_true.mp (List.all_eq_true.mp f_all ci (List.mem_range.mpr h)) k (List.mem_range.mpr hk)
  simp only [Bool.and_eq_true, Bool.or_eq_true, decide_eq_true_eq] at h1
  exact h1
theorem f_apart {ci : Nat} (h : ci < 10) : ∀ a, a < nf ci → ∀ b, b < nf ci → a ≠ b → (fT ci a).2.1 ≠ (fT ci b).2.1 := by
  intro a ha b hb hn
  have h1 := List.all_eq_true.mp (List.all_eq_true.mp (List.all_eq_true.mp f_nm ci (List.mem_range.mpr h)) a (List.mem_range.mpr ha)) b (List.mem_range.mpr hb)
  simp only [Bool.or_eq_true, decide_eq_true_eq, Bool.not_eq_true', decide_eq_false_iff_not] at h1
  exact h1.resolve_left hn
theorem clA_get {ci : Nat} (h : ci < 10) : clA[ci]? = some (cN ci, fT ci, nf ci) := by
  unfold clA
  rw [List.getElem?_map, List.getElem?_range h]
  rfl
theorem int_bool {a : Int} (h : a = 0 ∨ a = 1) : narrow .boolean (.int (Int32.ofInt a)) = .int (Int32.ofInt a) ∧ fits .boolean (.int (Int32.ofInt a)) = true := by
  rcases h with rfl | rfl <;> exact ⟨rfl, rfl⟩
theorem lt_ok {a b : Nat} (h : ltN a b = true) : a < b := by simpa [ltN, Nat.blt_eq] using h
theorem cv_vI {α : Nat → Nat} {z : Int} : cv α (vI z) = .int (Int32.ofInt z) := rfl
theorem cv_vL {α : Nat → Nat} {z : BitVec 64} : cv α (vL z) = .long (Int64.ofBitVec z) := rfl
theorem cv_vD {α : Nat → Nat} {z : UInt64} : cv α (vD z) = .double z := rfl
theorem cv_vF {α : Nat → Nat} {z : UInt32} : cv α (vF z) = .float z := rfl
theorem cv_vR {α : Nat → Nat} {z : Nat} : cv α (vR z) = .ref (α z) := rfl
theorem lc_small {a : Nat} (h : a < 79) : ¬ lc a = 104 := by
  have : (List.range 79).all (fun c => !decide (lc c = 104)) = true := by decide +kernel
  have := List.all_eq_true.mp this a (List.mem_range.mpr h)
  simpa using this
theorem lc_far {a : Nat} (h : 79 < a) : lc a = 999 := by
  rcases lc_big (c := a) (by omega) with h2 | h2
  · have : lcT.length = 80 := by decide +kernel
    unfold lc at h2
    rw [List.getD_eq_getElem?_getD, List.getElem?_eq_none (by omega)] at h2
    cases h2
  · exact h2
theorem n_lcmp (a b : BitVec 64) : lg_cmp (Int64.ofBitVec a) (Int64.ofBitVec b) = Int32.ofInt (lCmp a b) := by
  unfold lg_cmp lCmp
  have e1 : (Int64.ofBitVec b < Int64.ofBitVec a) ↔ b.slt a = true := Iff.rfl
  have e2 : (Int64.ofBitVec a = Int64.ofBitVec b) ↔ a = b := ⟨fun h => by have := congrArg Int64.toBitVec h; exact this, fun h => by rw [h]⟩
  by_cases h1 : b.slt a = true
  · have h2 : ¬ a = b := by
      rintro rfl
      simp [BitVec.slt] at h1
    simp [e1, e2, h1, h2]
  · by_cases h2 : a = b
    · subst h2; simp
    · simp [e1, e2, h1, h2]
section SND
variable {p : Program} {l : Launch} {e : Env} {R : Room} {s : State} {m : MethodId} {args : Array Value} {below : List Frame} {meth : Method} {c : Code} {H : Heap} {locs : List Loc} {cells slots : Nat} {Q : State → Prop}
set_option maxHeartbeats 40000000 in
set_option maxRecDepth 100000 in
theorem snd_ss {κ : Nat → ClassId} {α : Nat → Nat} {D : va_G} {A : Nat → Prop} {H0 : Heap} {mi pc : Nat} {en : Ent} {L : Lo} {st : List AV} {σ : St} {ls : Array Slot}
    (hx : p.tables.exec = Jvm.exec) (hb : c.code = mB mi) (hm : mi < 306) (hown : s.vm.findClass (cN (mC mi)) = some m.cls) (hts : ∀ w ∈ TS, w.before args s = true)
    (hK : va_K D clA [(κ 0, .int), (κ 1, .long), (κ 2, .double)] s) (hDa : ∀ σ, va_D A (wd κ α σ))
    (hsx : ∀ (H1 : Heap) (locs1 : List Loc), va_S A H0 H1 locs1 → va_X (α 79) (gI σ 79 (-1)).toNat (fun j => Int32.ofInt (gI σ 79 (j : Nat))) s H1) (hsn : 0 ≤ gI σ 79 (-1) ∧ gI σ 79 (-1) < 2147483648)
    (hcd : cd mi pc = some en)
    (hl : lv_has ls (mL mi) (lvs α 0 L)) (hP : va_P D clA (wd κ α σ) H) (hS : va_S A H0 H locs)
    {K : Nat → Lo → List AV → St → Option (Res × St)} {r : Res × St} (h : ss en pc L st σ K none = some r)
    (kk : ∀ (pc1 : Nat) (L1 : Lo) (st1 : List AV) (σ1 : St) (H1 : Heap) (locs1 : List Loc) (ls1 : Array Slot), K pc1 L1 st1 σ1 = some r → (∀ j, gI σ1 79 j = gI σ 79 j) → lv_has ls1 (mL mi) (lvs α 0 L1) → va_P D clA (wd κ α σ1) H1 → va_S A H0 H1 locs1 → W p l e R s m args below meth c H1 locs1 cells slots Q (F0 m pc1 ls1 (st1.map (cv α)))) :
    W p l e R s m args below meth c H locs cells slots Q (F0 m pc ls (st.map (cv α))) := by
  have ok := cd_ok hm hcd
  unfold okB at ok
  rw [Bool.and_eq_true, Bool.and_eq_true] at ok
  obtain ⟨hdec0, hlen, hok⟩ := ok
  have hdec := of_decide_eq_true hdec0
  clear hdec0
  obtain ⟨i, n, x, y, w, z⟩ := en
  dsimp only at hdec hlen hok
  cases i
  case iconst q =>
    have hn : n = 1 := len_ok hlen rfl
    subst hn
    refine lv_iconst hx hb hdec rfl ?_
    exact kk _ _ _ _ H locs ls h (fun _ => rfl) hl hP hS
  case bipush q =>
    have hn : n = 2 := len_ok hlen rfl
    subst hn
    refine lv_bipush hx hb hdec (of_decide_eq_true hok) ?_
    exact kk _ _ _ _ H locs ls h (fun _ => rfl) hl hP hS
  case sipush q =>
    have hn : n = 3 := len_ok hlen rfl
    subst hn
    refine lv_sipush hx hb hdec (of_decide_eq_true hok) ?_
    exact kk _ _ _ _ H locs ls h (fun _ => rfl) hl hP hS
  case lconst q =>
    have hn : n = 1 := len_ok hlen rfl
    subst hn
    refine lv_lconst hx hb hdec rfl ?_
    exact kk _ _ _ _ H locs ls h (fun _ => rfl) hl hP hS
  case fconst q =>
    have hn : n = 1 := len_ok hlen rfl
    subst hn
    obtain ⟨hq, h⟩ := if_some h
    have hq : q = 0 := Fin.ext hq
    subst hq
    refine lv_fconst0 hx hb hdec ?_
    exact kk _ _ _ _ H locs ls h (fun _ => rfl) hl hP hS
  case dconst q =>
    have hn : n = 1 := len_ok hlen rfl
    subst hn
    obtain ⟨hq, h⟩ := if_some h
    have hq : q = 0 := Fin.ext hq
    subst hq
    refine lv_dconst0 hx hb hdec ?_
    exact kk _ _ _ _ H locs ls h (fun _ => rfl) hl hP hS
  case ldc2_w q =>
    have hn : n = 3 := len_ok hlen rfl
    subst hn
    refine lv_ldc2 hx hb hown (hts _ (inLL_ok hok)) hdec ?_
    exact kk _ _ _ _ H locs ls h (fun _ => rfl) hl hP hS
  case iload_n q =>
    have hn : n = 1 := len_ok hlen rfl
    subst hn
    obtain ⟨v, hv, h⟩ := eO_some h
    obtain ⟨a, rfl, h⟩ := eI_some h
    refine lv_iload_n hx hb hdec rfl (lv_get hl hv) ?_
    exact kk _ _ _ _ H locs ls h (fun _ => rfl) hl hP hS
  case iload q =>
    have hn : n = 2 := len_ok hlen rfl
    subst hn
    obtain ⟨v, hv, h⟩ := eO_some h
    obtain ⟨a, rfl, h⟩ := eI_some h
    refine lv_iload hx hb hdec (lv_get hl hv) ?_
    exact kk _ _ _ _ H locs ls h (fun _ => rfl) hl hP hS
  case lload_n q =>
    have hn : n = 1 := len_ok hlen rfl
    subst hn
    obtain ⟨v, hv, h⟩ := eO_some h
    obtain ⟨a, rfl, h⟩ := eL_some h
    refine lv_lload_n hx hb hdec rfl (lv_get hl hv) ?_
    exact kk _ _ _ _ H locs ls h (fun _ => rfl) hl hP hS
  case lload q =>
    have hn : n = 2 := len_ok hlen rfl
    subst hn
    obtain ⟨v, hv, h⟩ := eO_some h
    obtain ⟨a, rfl, h⟩ := eL_some h
    refine lv_lload hx hb hdec (lv_get hl hv) ?_
    exact kk _ _ _ _ H locs ls h (fun _ => rfl) hl hP hS
  case aload_n q =>
    have hn : n = 1 := len_ok hlen rfl
    subst hn
    obtain ⟨v, hv, h⟩ := eO_some h
    obtain ⟨a, rfl, h⟩ := eR_some h
    refine lv_aload_n hx hb hdec rfl (lv_get hl hv) ?_
    exact kk _ _ _ _ H locs ls h (fun _ => rfl) hl hP hS
  case aload q =>
    have hn : n = 2 := len_ok hlen rfl
    subst hn
    obtain ⟨v, hv, h⟩ := eO_some h
    obtain ⟨a, rfl, h⟩ := eR_some h
    refine lv_aload hx hb hdec (lv_get hl hv) ?_
    exact kk _ _ _ _ H locs ls h (fun _ => rfl) hl hP hS
  case dload q =>
    have hn : n = 2 := len_ok hlen rfl
    subst hn
    obtain ⟨v, hv, h⟩ := eO_some h
    obtain ⟨a, rfl, h⟩ := eD_some h
    refine lv_dload hx hb hdec (lv_get hl hv) ?_
    exact kk _ _ _ _ H locs ls h (fun _ => rfl) hl hP hS
  case fload q =>
    have hn : n = 2 := len_ok hlen rfl
    subst hn
    obtain ⟨v, hv, h⟩ := eO_some h
    obtain ⟨a, rfl, h⟩ := eF_some h
    refine lv_fload hx hb hdec (lv_get hl hv) ?_
    exact kk _ _ _ _ H locs ls h (fun _ => rfl) hl hP hS
  case istore_n q =>
    have hn : n = 1 := len_ok hlen rfl
    subst hn
    obtain ⟨v0, r0, rfl, h⟩ := eP_some h
    obtain ⟨a, rfl, h⟩ := eI_some h
    refine lv_istore_n hx hb hdec rfl hl (lt_ok hok) rfl (fun ls1 hl1 => ?_)
    exact kk _ _ _ _ H locs ls1 h (fun _ => rfl) (lv_set1 rfl hl1) hP hS
  case istore q =>
    have hn : n = 2 := len_ok hlen rfl
    subst hn
    obtain ⟨v0, r0, rfl, h⟩ := eP_some h
    obtain ⟨a, rfl, h⟩ := eI_some h
    refine lv_istore hx hb hdec hl (lt_ok hok) rfl (fun ls1 hl1 => ?_)
    exact kk _ _ _ _ H locs ls1 h (fun _ => rfl) (lv_set1 rfl hl1) hP hS
  case lstore_n q =>
    have hn : n = 1 := len_ok hlen rfl
    subst hn
    obtain ⟨v0, r0, rfl, h⟩ := eP_some h
    obtain ⟨a, rfl, h⟩ := eL_some h
    refine lv_lstore_n hx hb hdec rfl hl (lt_ok hok) rfl (fun ls1 hl1 => ?_)
    exact kk _ _ _ _ H locs ls1 h (fun _ => rfl) (lv_set2 rfl hl1) hP hS
  case lstore q =>
    have hn : n = 2 := len_ok hlen rfl
    subst hn
    obtain ⟨v0, r0, rfl, h⟩ := eP_some h
    obtain ⟨a, rfl, h⟩ := eL_some h
    refine lv_lstore hx hb hdec hl (lt_ok hok) rfl (fun ls1 hl1 => ?_)
    exact kk _ _ _ _ H locs ls1 h (fun _ => rfl) (lv_set2 rfl hl1) hP hS
  case astore_n q =>
    have hn : n = 1 := len_ok hlen rfl
    subst hn
    obtain ⟨v0, r0, rfl, h⟩ := eP_some h
    obtain ⟨a, rfl, h⟩ := eR_some h
    refine lv_astore_n hx hb hdec rfl hl (lt_ok hok) rfl (fun ls1 hl1 => ?_)
    exact kk _ _ _ _ H locs ls1 h (fun _ => rfl) (lv_set1 rfl hl1) hP hS
  case astore q =>
    have hn : n = 2 := len_ok hlen rfl
    subst hn
    obtain ⟨v0, r0, rfl, h⟩ := eP_some h
    obtain ⟨a, rfl, h⟩ := eR_some h
    refine lv_astore hx hb hdec hl (lt_ok hok) rfl (fun ls1 hl1 => ?_)
    exact kk _ _ _ _ H locs ls1 h (fun _ => rfl) (lv_set1 rfl hl1) hP hS
  case dstore q =>
    have hn : n = 2 := len_ok hlen rfl
    subst hn
    obtain ⟨v0, r0, rfl, h⟩ := eP_some h
    obtain ⟨a, rfl, h⟩ := eD_some h
    refine lv_dstore hx hb hdec hl (lt_ok hok) rfl (fun ls1 hl1 => ?_)
    exact kk _ _ _ _ H locs ls1 h (fun _ => rfl) (lv_set2 rfl hl1) hP hS
  case fstore q =>
    have hn : n = 2 := len_ok hlen rfl
    subst hn
    obtain ⟨v0, r0, rfl, h⟩ := eP_some h
    obtain ⟨a, rfl, h⟩ := eF_some h
    refine lv_fstore hx hb hdec hl (lt_ok hok) rfl (fun ls1 hl1 => ?_)
    exact kk _ _ _ _ H locs ls1 h (fun _ => rfl) (lv_set1 rfl hl1) hP hS
  case iinc q u =>
    have hn : n = 3 := len_ok hlen rfl
    subst hn
    obtain ⟨v, hv, h⟩ := eO_some h
    obtain ⟨a, rfl, h⟩ := eI_some h
    obtain ⟨k0, hk0⟩ := List.getElem?_of_mem (lvs_get (α := α) L 0 q _ hv)
    rw [Nat.zero_add] at hk0
    refine lv_iinc hx hb hdec hl hk0 (Int32.ofInt_add a u).symm (lt_ok hok) rfl (fun ls1 hl1 => ?_)
    exact kk _ _ _ _ H locs ls1 h (fun _ => rfl) (lv_set1 (v := vI (a + u)) rfl hl1) hP hS
  case dup =>
    have hn : n = 1 := len_ok hlen rfl
    subst hn
    obtain ⟨v0, r0, rfl, h⟩ := eP_some h
    obtain ⟨hc, h⟩ := if_some h
    refine lv_dup hx hb hdec (by rw [cv_cat, hc]; rfl) ?_
    exact kk _ _ _ _ H locs ls h (fun _ => rfl) hl hP hS
  case pop =>
    have hn : n = 1 := len_ok hlen rfl
    subst hn
    obtain ⟨v0, r0, rfl, h⟩ := eP_some h
    obtain ⟨hc, h⟩ := if_some h
    refine lv_pop hx hb hdec (by rw [cv_cat, hc]; rfl) ?_
    exact kk _ _ _ _ H locs ls h (fun _ => rfl) hl hP hS
  case dup2 =>
    have hn : n = 1 := len_ok hlen rfl
    subst hn
    obtain ⟨v0, r0, rfl, h⟩ := eP_some h
    obtain ⟨v1, r1, rfl, h⟩ := eP_some h
    obtain ⟨hc, h⟩ := if_some h
    refine lv_dup2_11 hx hb hdec (by rw [cv_cat, hc.1]; rfl) (by rw [cv_cat, hc.2]; rfl) ?_
    exact kk _ _ _ _ H locs ls h (fun _ => rfl) hl hP hS
  case iadd =>
    have hn : n = 1 := len_ok hlen rfl
    subst hn
    obtain ⟨v0, r0, rfl, h⟩ := eP_some h
    obtain ⟨v1, r1, rfl, h⟩ := eP_some h
    obtain ⟨b, rfl, h⟩ := eI_some h
    obtain ⟨a, rfl, h⟩ := eI_some h
    have k1 := kk _ _ _ _ H locs ls h (fun _ => rfl) hl hP hS
    simp only [List.map_cons, cv_vI, cv_vL, cv_vD, cv_vF] at k1 ⊢
    rw [Int32.ofInt_add] at k1
    exact lv_iadd hx hb hdec k1
  case isub =>
    have hn : n = 1 := len_ok hlen rfl
    subst hn
    obtain ⟨v0, r0, rfl, h⟩ := eP_some h
    obtain ⟨v1, r1, rfl, h⟩ := eP_some h
    obtain ⟨b, rfl, h⟩ := eI_some h
    obtain ⟨a, rfl, h⟩ := eI_some h
    have k1 := kk _ _ _ _ H locs ls h (fun _ => rfl) hl hP hS
    simp only [List.map_cons, cv_vI, cv_vL, cv_vD, cv_vF] at k1 ⊢
    rw [Int32.ofInt_sub] at k1
    exact lv_isub hx hb hdec k1
  case imul =>
    have hn : n = 1 := len_ok hlen rfl
    subst hn
    obtain ⟨v0, r0, rfl, h⟩ := eP_some h
    obtain ⟨v1, r1, rfl, h⟩ := eP_some h
    obtain ⟨b, rfl, h⟩ := eI_some h
    obtain ⟨a, rfl, h⟩ := eI_some h
    have k1 := kk _ _ _ _ H locs ls h (fun _ => rfl) hl hP hS
    simp only [List.map_cons, cv_vI, cv_vL, cv_vD, cv_vF] at k1 ⊢
    rw [Int32.ofInt_mul] at k1
    exact lv_imul hx hb hdec k1
  case iand =>
    have hn : n = 1 := len_ok hlen rfl
    subst hn
    obtain ⟨v0, r0, rfl, h⟩ := eP_some h
    obtain ⟨v1, r1, rfl, h⟩ := eP_some h
    obtain ⟨b, rfl, h⟩ := eI_some h
    obtain ⟨a, rfl, h⟩ := eI_some h
    have k1 := kk _ _ _ _ H locs ls h (fun _ => rfl) hl hP hS
    simp only [List.map_cons, cv_vI, cv_vL, cv_vD, cv_vF] at k1 ⊢
    rw [← n_and] at k1
    exact lv_iand hx hb hdec k1
  case ior =>
    have hn : n = 1 := len_ok hlen rfl
    subst hn
    obtain ⟨v0, r0, rfl, h⟩ := eP_some h
    obtain ⟨v1, r1, rfl, h⟩ := eP_some h
    obtain ⟨b, rfl, h⟩ := eI_some h
    obtain ⟨a, rfl, h⟩ := eI_some h
    have k1 := kk _ _ _ _ H locs ls h (fun _ => rfl) hl hP hS
    simp only [List.map_cons, cv_vI, cv_vL, cv_vD, cv_vF] at k1 ⊢
    rw [← n_or] at k1
    exact lv_ior hx hb hdec k1
  case idiv =>
    have hn : n = 1 := len_ok hlen rfl
    subst hn
    obtain ⟨v0, r0, rfl, h⟩ := eP_some h
    obtain ⟨v1, r1, rfl, h⟩ := eP_some h
    obtain ⟨b, rfl, h⟩ := eI_some h
    obtain ⟨a, rfl, h⟩ := eI_some h
    obtain ⟨hc, h⟩ := if_some h
    have k1 := kk _ _ _ _ H locs ls h (fun _ => rfl) hl hP hS
    simp only [List.map_cons, cv_vI, cv_vL, cv_vD, cv_vF] at k1 ⊢
    rw [← n_div hc.1 hc.2.1 hc.2.2] at k1
    exact lv_idiv hx hb hdec (n_ne0 hc.2.1 hc.2.2) k1
  case irem =>
    have hn : n = 1 := len_ok hlen rfl
    subst hn
    obtain ⟨v0, r0, rfl, h⟩ := eP_some h
    obtain ⟨v1, r1, rfl, h⟩ := eP_some h
    obtain ⟨b, rfl, h⟩ := eI_some h
    obtain ⟨a, rfl, h⟩ := eI_some h
    obtain ⟨hc, h⟩ := if_some h
    have k1 := kk _ _ _ _ H locs ls h (fun _ => rfl) hl hP hS
    simp only [List.map_cons, cv_vI, cv_vL, cv_vD, cv_vF] at k1 ⊢
    rw [← n_rem hc.1 hc.2.1 hc.2.2] at k1
    exact lv_irem hx hb hdec (n_ne0 hc.2.1 hc.2.2) k1
  case ishl =>
    have hn : n = 1 := len_ok hlen rfl
    subst hn
    obtain ⟨v0, r0, rfl, h⟩ := eP_some h
    obtain ⟨v1, r1, rfl, h⟩ := eP_some h
    obtain ⟨b, rfl, h⟩ := eI_some h
    obtain ⟨a, rfl, h⟩ := eI_some h
    obtain ⟨hc, h⟩ := if_some h
    have k1 := kk _ _ _ _ H locs ls h (fun _ => rfl) hl hP hS
    simp only [List.map_cons, cv_vI, cv_vL, cv_vD, cv_vF] at k1 ⊢
    rw [← n_shl a hc.1 hc.2] at k1
    exact lv_ishl hx hb hdec k1
  case ishr =>
    have hn : n = 1 := len_ok hlen rfl
    subst hn
    obtain ⟨v0, r0, rfl, h⟩ := eP_some h
    obtain ⟨v1, r1, rfl, h⟩ := eP_some h
    obtain ⟨b, rfl, h⟩ := eI_some h
    obtain ⟨a, rfl, h⟩ := eI_some h
    obtain ⟨hc, h⟩ := if_some h
    have k1 := kk _ _ _ _ H locs ls h (fun _ => rfl) hl hP hS
    simp only [List.map_cons, cv_vI, cv_vL, cv_vD, cv_vF] at k1 ⊢
    rw [← n_shr hc.1 hc.2.1 hc.2.2] at k1
    exact lv_ishr hx hb hdec k1
  case ladd =>
    have hn : n = 1 := len_ok hlen rfl
    subst hn
    obtain ⟨v0, r0, rfl, h⟩ := eP_some h
    obtain ⟨v1, r1, rfl, h⟩ := eP_some h
    obtain ⟨b, rfl, h⟩ := eL_some h
    obtain ⟨a, rfl, h⟩ := eL_some h
    have k1 := kk _ _ _ _ H locs ls h (fun _ => rfl) hl hP hS
    simp only [List.map_cons, cv_vI, cv_vL, cv_vD, cv_vF] at k1 ⊢
    exact lv_ladd hx hb hdec k1
  case lsub =>
    have hn : n = 1 := len_ok hlen rfl
    subst hn
    obtain ⟨v0, r0, rfl, h⟩ := eP_some h
    obtain ⟨v1, r1, rfl, h⟩ := eP_some h
    obtain ⟨b, rfl, h⟩ := eL_some h
    obtain ⟨a, rfl, h⟩ := eL_some h
    have k1 := kk _ _ _ _ H locs ls h (fun _ => rfl) hl hP hS
    simp only [List.map_cons, cv_vI, cv_vL, cv_vD, cv_vF] at k1 ⊢
    exact lv_lsub hx hb hdec k1
  case land =>
    have hn : n = 1 := len_ok hlen rfl
    subst hn
    obtain ⟨v0, r0, rfl, h⟩ := eP_some h
    obtain ⟨v1, r1, rfl, h⟩ := eP_some h
    obtain ⟨b, rfl, h⟩ := eL_some h
    obtain ⟨a, rfl, h⟩ := eL_some h
    have k1 := kk _ _ _ _ H locs ls h (fun _ => rfl) hl hP hS
    simp only [List.map_cons, cv_vI, cv_vL, cv_vD, cv_vF] at k1 ⊢
    exact lv_land hx hb hdec k1
  case lor =>
    have hn : n = 1 := len_ok hlen rfl
    subst hn
    obtain ⟨v0, r0, rfl, h⟩ := eP_some h
    obtain ⟨v1, r1, rfl, h⟩ := eP_some h
    obtain ⟨b, rfl, h⟩ := eL_some h
    obtain ⟨a, rfl, h⟩ := eL_some h
    have k1 := kk _ _ _ _ H locs ls h (fun _ => rfl) hl hP hS
    simp only [List.map_cons, cv_vI, cv_vL, cv_vD, cv_vF] at k1 ⊢
    exact lv_lor hx hb hdec k1
  case lxor =>
    have hn : n = 1 := len_ok hlen rfl
    subst hn
    obtain ⟨v0, r0, rfl, h⟩ := eP_some h
    obtain ⟨v1, r1, rfl, h⟩ := eP_some h
    obtain ⟨b, rfl, h⟩ := eL_some h
    obtain ⟨a, rfl, h⟩ := eL_some h
    have k1 := kk _ _ _ _ H locs ls h (fun _ => rfl) hl hP hS
    simp only [List.map_cons, cv_vI, cv_vL, cv_vD, cv_vF] at k1 ⊢
    exact lv_lxor hx hb hdec k1
  case lshl =>
    have hn : n = 1 := len_ok hlen rfl
    subst hn
    obtain ⟨v0, r0, rfl, h⟩ := eP_some h
    obtain ⟨v1, r1, rfl, h⟩ := eP_some h
    obtain ⟨b, rfl, h⟩ := eI_some h
    obtain ⟨a, rfl, h⟩ := eL_some h
    have k1 := kk _ _ _ _ H locs ls h (fun _ => rfl) hl hP hS
    simp only [List.map_cons, cv_vI, cv_vL, cv_vD, cv_vF] at k1 ⊢
    exact lv_lshl hx hb hdec (n_lshl a b) k1
  case lushr =>
    have hn : n = 1 := len_ok hlen rfl
    subst hn
    obtain ⟨v0, r0, rfl, h⟩ := eP_some h
    obtain ⟨v1, r1, rfl, h⟩ := eP_some h
    obtain ⟨b, rfl, h⟩ := eI_some h
    obtain ⟨a, rfl, h⟩ := eL_some h
    have k1 := kk _ _ _ _ H locs ls h (fun _ => rfl) hl hP hS
    simp only [List.map_cons, cv_vI, cv_vL, cv_vD, cv_vF] at k1 ⊢
    exact lv_lushr hx hb hdec (n_lushr a b) k1
  case lshr =>
    have hn : n = 1 := len_ok hlen rfl
    subst hn
    obtain ⟨v0, r0, rfl, h⟩ := eP_some h
    obtain ⟨v1, r1, rfl, h⟩ := eP_some h
    obtain ⟨b, rfl, h⟩ := eI_some h
    obtain ⟨a, rfl, h⟩ := eL_some h
    have k1 := kk _ _ _ _ H locs ls h (fun _ => rfl) hl hP hS
    simp only [List.map_cons, cv_vI, cv_vL, cv_vD, cv_vF] at k1 ⊢
    exact lv_lshr hx hb hdec (n_lshr a b) k1
  case lcmp =>
    have hn : n = 1 := len_ok hlen rfl
    subst hn
    obtain ⟨v0, r0, rfl, h⟩ := eP_some h
    obtain ⟨v1, r1, rfl, h⟩ := eP_some h
    obtain ⟨b, rfl, h⟩ := eL_some h
    obtain ⟨a, rfl, h⟩ := eL_some h
    have k1 := kk _ _ _ _ H locs ls h (fun _ => rfl) hl hP hS
    simp only [List.map_cons, cv_vI, cv_vL, cv_vD, cv_vF] at k1 ⊢
    rw [← n_lcmp] at k1
    exact W.lcmp hx hb hdec k1
  case dcmp op =>
    have hn : n = 1 := len_ok hlen rfl
    subst hn
    obtain ⟨v0, r0, rfl, h⟩ := eP_some h
    obtain ⟨v1, r1, rfl, h⟩ := eP_some h
    obtain ⟨b, rfl, h⟩ := eD_some h
    obtain ⟨a, rfl, h⟩ := eD_some h
    have k1 := kk _ _ _ _ H locs ls h (fun _ => rfl) hl hP hS
    simp only [List.map_cons, cv_vI, cv_vL, cv_vD, cv_vF] at k1 ⊢
    rw [Int32.ofInt_toInt] at k1
    exact lv_dcmp hx hb hdec k1
  case ddiv =>
    have hn : n = 1 := len_ok hlen rfl
    subst hn
    obtain ⟨v0, r0, rfl, h⟩ := eP_some h
    obtain ⟨v1, r1, rfl, h⟩ := eP_some h
    obtain ⟨b, rfl, h⟩ := eD_some h
    obtain ⟨a, rfl, h⟩ := eD_some h
    obtain ⟨hc, h⟩ := if_some h
    have k1 := kk _ _ _ _ H locs ls h (fun _ => rfl) hl hP hS
    simp only [List.map_cons, cv_vI, cv_vL, cv_vD, cv_vF] at k1 ⊢
    exact lv_ddiv hx hb hdec hc k1
  case fdiv =>
    have hn : n = 1 := len_ok hlen rfl
    subst hn
    obtain ⟨v0, r0, rfl, h⟩ := eP_some h
    obtain ⟨v1, r1, rfl, h⟩ := eP_some h
    obtain ⟨b, rfl, h⟩ := eF_some h
    obtain ⟨a, rfl, h⟩ := eF_some h
    obtain ⟨hc, h⟩ := if_some h
    have k1 := kk _ _ _ _ H locs ls h (fun _ => rfl) hl hP hS
    simp only [List.map_cons, cv_vI, cv_vL, cv_vD, cv_vF] at k1 ⊢
    exact lv_fdiv hx hb hdec hc k1
  case i2l =>
    have hn : n = 1 := len_ok hlen rfl
    subst hn
    obtain ⟨v0, r0, rfl, h⟩ := eP_some h
    obtain ⟨a, rfl, h⟩ := eI_some h
    obtain ⟨hc, h⟩ := if_some h
    have k1 := kk _ _ _ _ H locs ls h (fun _ => rfl) hl hP hS
    simp only [List.map_cons, cv_vI, cv_vL, cv_vD, cv_vF] at k1 ⊢
    exact lv_i2l hx hb hdec (n_i2l hc) k1
  case l2i =>
    have hn : n = 1 := len_ok hlen rfl
    subst hn
    obtain ⟨v0, r0, rfl, h⟩ := eP_some h
    obtain ⟨a, rfl, h⟩ := eL_some h
    have k1 := kk _ _ _ _ H locs ls h (fun _ => rfl) hl hP hS
    simp only [List.map_cons, cv_vI, cv_vL, cv_vD, cv_vF] at k1 ⊢
    exact lv_l2i hx hb hdec (n_l2i a) k1
  case i2d =>
    have hn : n = 1 := len_ok hlen rfl
    subst hn
    obtain ⟨v0, r0, rfl, h⟩ := eP_some h
    obtain ⟨a, rfl, h⟩ := eI_some h
    have k1 := kk _ _ _ _ H locs ls h (fun _ => rfl) hl hP hS
    simp only [List.map_cons, cv_vI, cv_vL, cv_vD, cv_vF] at k1 ⊢
    exact lv_i2d hx hb hdec k1
  case i2f =>
    have hn : n = 1 := len_ok hlen rfl
    subst hn
    obtain ⟨v0, r0, rfl, h⟩ := eP_some h
    obtain ⟨a, rfl, h⟩ := eI_some h
    have k1 := kk _ _ _ _ H locs ls h (fun _ => rfl) hl hP hS
    simp only [List.map_cons, cv_vI, cv_vL, cv_vD, cv_vF] at k1 ⊢
    exact lv_i2f hx hb hdec k1
  case f2d =>
    have hn : n = 1 := len_ok hlen rfl
    subst hn
    obtain ⟨v0, r0, rfl, h⟩ := eP_some h
    obtain ⟨a, rfl, h⟩ := eF_some h
    obtain ⟨hc, h⟩ := if_some h
    have k1 := kk _ _ _ _ H locs ls h (fun _ => rfl) hl hP hS
    simp only [List.map_cons, cv_vI, cv_vL, cv_vD, cv_vF] at k1 ⊢
    exact lv_f2d hx hb hdec hc k1
  case goto off =>
    have hn : n = 3 := len_ok hlen rfl
    subst hn
    exact lv_goto hx hb hdec (of_decide_eq_true hok) (kk _ _ _ _ H locs ls h (fun _ => rfl) hl hP hS)
  case if_icmp q off =>
    have hn : n = 3 := len_ok hlen rfl
    subst hn
    have ht := of_decide_eq_true hok
    cases q
    case eq =>
      obtain ⟨v0, r0, rfl, h⟩ := eP_some h
      obtain ⟨v1, r1, rfl, h⟩ := eP_some h
      obtain ⟨b, rfl, h⟩ := eI_some h
      obtain ⟨a, rfl, h⟩ := eI_some h
      obtain ⟨hc, h⟩ := if_some h
      have e1 := n_eq hc.1 hc.2
      have e2 := n_lt hc.1 hc.2
      have e3 := n_lt hc.2 hc.1
      have e4 := n_le hc.1 hc.2
      have e5 := n_le hc.2 hc.1
      by_cases hq : a = b
      · rw [if_pos hq] at h
        refine lv_icmp_eq hx hb hdec ht (fun hr => ?_) (fun hr => ?_)
        · first | exact kk _ _ _ _ H locs ls h (fun _ => rfl) hl hP hS | (exfalso; simp only [gt_iff_lt, ge_iff_le, e1, e2, e3, e4, e5] at hr; omega)
        · exfalso; simp only [gt_iff_lt, ge_iff_le, ne_eq, e1, e2, e3, e4, e5] at hr; omega
      · rw [if_neg hq] at h
        refine lv_icmp_eq hx hb hdec ht (fun hr => ?_) (fun hr => ?_)
        · exfalso; simp only [gt_iff_lt, ge_iff_le, ne_eq, e1, e2, e3, e4, e5] at hr; omega
        · exact kk _ _ _ _ H locs ls h (fun _ => rfl) hl hP hS
    case ne =>
      obtain ⟨v0, r0, rfl, h⟩ := eP_some h
      obtain ⟨v1, r1, rfl, h⟩ := eP_some h
      obtain ⟨b, rfl, h⟩ := eI_some h
      obtain ⟨a, rfl, h⟩ := eI_some h
      obtain ⟨hc, h⟩ := if_some h
      have e1 := n_eq hc.1 hc.2
      have e2 := n_lt hc.1 hc.2
      have e3 := n_lt hc.2 hc.1
      have e4 := n_le hc.1 hc.2
      have e5 := n_le hc.2 hc.1
      by_cases hq : a = b
      · rw [if_pos hq] at h
        refine lv_icmp_ne hx hb hdec ht (fun hr => ?_) (fun hr => ?_)
        · exfalso; simp only [gt_iff_lt, ge_iff_le, ne_eq, e1, e2, e3, e4, e5] at hr; omega
        · exact kk _ _ _ _ H locs ls h (fun _ => rfl) hl hP hS
      · rw [if_neg hq] at h
        refine lv_icmp_ne hx hb hdec ht (fun hr => ?_) (fun hr => ?_)
        · exact kk _ _ _ _ H locs ls h (fun _ => rfl) hl hP hS
        · exfalso; simp only [gt_iff_lt, ge_iff_le, ne_eq, e1, e2, e3, e4, e5] at hr; omega
    case lt =>
      obtain ⟨v0, r0, rfl, h⟩ := eP_some h
      obtain ⟨v1, r1, rfl, h⟩ := eP_some h
      obtain ⟨b, rfl, h⟩ := eI_some h
      obtain ⟨a, rfl, h⟩ := eI_some h
      obtain ⟨hc, h⟩ := if_some h
      have e1 := n_eq hc.1 hc.2
      have e2 := n_lt hc.1 hc.2
      have e3 := n_lt hc.2 hc.1
      have e4 := n_le hc.1 hc.2
      have e5 := n_le hc.2 hc.1
      by_cases hq : a < b
      · rw [if_pos hq] at h
        refine lv_icmp_lt hx hb hdec ht (fun hr => ?_) (fun hr => ?_)
        · first | exact kk _ _ _ _ H locs ls h (fun _ => rfl) hl hP hS | (exfalso; simp only [gt_iff_lt, ge_iff_le, e1, e2, e3, e4, e5] at hr; omega)
        · exfalso; simp only [gt_iff_lt, ge_iff_le, ne_eq, e1, e2, e3, e4, e5] at hr; omega
      · rw [if_neg hq] at h
        refine lv_icmp_lt hx hb hdec ht (fun hr => ?_) (fun hr => ?_)
        · exfalso; simp only [gt_iff_lt, ge_iff_le, ne_eq, e1, e2, e3, e4, e5] at hr; omega
        · exact kk _ _ _ _ H locs ls h (fun _ => rfl) hl hP hS
    case ge =>
      obtain ⟨v0, r0, rfl, h⟩ := eP_some h
      obtain ⟨v1, r1, rfl, h⟩ := eP_some h
      obtain ⟨b, rfl, h⟩ := eI_some h
      obtain ⟨a, rfl, h⟩ := eI_some h
      obtain ⟨hc, h⟩ := if_some h
      have e1 := n_eq hc.1 hc.2
      have e2 := n_lt hc.1 hc.2
      have e3 := n_lt hc.2 hc.1
      have e4 := n_le hc.1 hc.2
      have e5 := n_le hc.2 hc.1
      by_cases hq : a < b
      · rw [if_pos hq] at h
        refine lv_icmp_ge hx hb hdec ht (fun hr => ?_) (fun hr => ?_)
        · exfalso; simp only [gt_iff_lt, ge_iff_le, ne_eq, e1, e2, e3, e4, e5] at hr; omega
        · exact kk _ _ _ _ H locs ls h (fun _ => rfl) hl hP hS
      · rw [if_neg hq] at h
        refine lv_icmp_ge hx hb hdec ht (fun hr => ?_) (fun hr => ?_)
        · exact kk _ _ _ _ H locs ls h (fun _ => rfl) hl hP hS
        · exfalso; simp only [gt_iff_lt, ge_iff_le, ne_eq, e1, e2, e3, e4, e5] at hr; omega
    case gt =>
      obtain ⟨v0, r0, rfl, h⟩ := eP_some h
      obtain ⟨v1, r1, rfl, h⟩ := eP_some h
      obtain ⟨b, rfl, h⟩ := eI_some h
      obtain ⟨a, rfl, h⟩ := eI_some h
      obtain ⟨hc, h⟩ := if_some h
      have e1 := n_eq hc.1 hc.2
      have e2 := n_lt hc.1 hc.2
      have e3 := n_lt hc.2 hc.1
      have e4 := n_le hc.1 hc.2
      have e5 := n_le hc.2 hc.1
      by_cases hq : b < a
      · rw [if_pos hq] at h
        refine lv_icmp_gt hx hb hdec ht (fun hr => ?_) (fun hr => ?_)
        · first | exact kk _ _ _ _ H locs ls h (fun _ => rfl) hl hP hS | (exfalso; simp only [gt_iff_lt, ge_iff_le, e1, e2, e3, e4, e5] at hr; omega)
        · exfalso; simp only [gt_iff_lt, ge_iff_le, ne_eq, e1, e2, e3, e4, e5] at hr; omega
      · rw [if_neg hq] at h
        refine lv_icmp_gt hx hb hdec ht (fun hr => ?_) (fun hr => ?_)
        · exfalso; simp only [gt_iff_lt, ge_iff_le, ne_eq, e1, e2, e3, e4, e5] at hr; omega
        · exact kk _ _ _ _ H locs ls h (fun _ => rfl) hl hP hS
    case le =>
      obtain ⟨v0, r0, rfl, h⟩ := eP_some h
      obtain ⟨v1, r1, rfl, h⟩ := eP_some h
      obtain ⟨b, rfl, h⟩ := eI_some h
      obtain ⟨a, rfl, h⟩ := eI_some h
      obtain ⟨hc, h⟩ := if_some h
      have e1 := n_eq hc.1 hc.2
      have e2 := n_lt hc.1 hc.2
      have e3 := n_lt hc.2 hc.1
      have e4 := n_le hc.1 hc.2
      have e5 := n_le hc.2 hc.1
      by_cases hq : b < a
      · rw [if_pos hq] at h
        refine lv_icmp_le hx hb hdec ht (fun hr => ?_) (fun hr => ?_)
        · exfalso; simp only [gt_iff_lt, ge_iff_le, ne_eq, e1, e2, e3, e4, e5] at hr; omega
        · exact kk _ _ _ _ H locs ls h (fun _ => rfl) hl hP hS
      · rw [if_neg hq] at h
        refine lv_icmp_le hx hb hdec ht (fun hr => ?_) (fun hr => ?_)
        · exact kk _ _ _ _ H locs ls h (fun _ => rfl) hl hP hS
        · exfalso; simp only [gt_iff_lt, ge_iff_le, ne_eq, e1, e2, e3, e4, e5] at hr; omega
  case ifCond q off =>
    have hn : n = 3 := len_ok hlen rfl
    subst hn
    have ht := of_decide_eq_true hok
    cases q
    case eq =>
      obtain ⟨v0, r0, rfl, h⟩ := eP_some h
      obtain ⟨a, rfl, h⟩ := eI_some h
      obtain ⟨hc, h⟩ := if_some h
      have hz : inR 0 := by decide
      have e1 : Int32.ofInt a = 0 ↔ a = 0 := n_eq hc hz
      have e2 : Int32.ofInt a < 0 ↔ a < 0 := n_lt hc hz
      have e3 : 0 < Int32.ofInt a ↔ 0 < a := n_lt hz hc
      have e4 : Int32.ofInt a ≤ 0 ↔ a ≤ 0 := n_le hc hz
      have e5 : 0 ≤ Int32.ofInt a ↔ 0 ≤ a := n_le hz hc
      by_cases hq : a = 0
      · rw [if_pos hq] at h
        refine lv_if_eq hx hb hdec ht (fun hr => ?_) (fun hr => ?_)
        · exact kk _ _ _ _ H locs ls h (fun _ => rfl) hl hP hS
        · exfalso; simp only [gt_iff_lt, ge_iff_le, ne_eq, e1, e2, e3, e4, e5] at hr; omega
      · rw [if_neg hq] at h
        refine lv_if_eq hx hb hdec ht (fun hr => ?_) (fun hr => ?_)
        · exfalso; simp only [gt_iff_lt, ge_iff_le, ne_eq, e1, e2, e3, e4, e5] at hr; omega
        · exact kk _ _ _ _ H locs ls h (fun _ => rfl) hl hP hS
    case ne =>
      obtain ⟨v0, r0, rfl, h⟩ := eP_some h
      obtain ⟨a, rfl, h⟩ := eI_some h
      obtain ⟨hc, h⟩ := if_some h
      have hz : inR 0 := by decide
      have e1 : Int32.ofInt a = 0 ↔ a = 0 := n_eq hc hz
      have e2 : Int32.ofInt a < 0 ↔ a < 0 := n_lt hc hz
      have e3 : 0 < Int32.ofInt a ↔ 0 < a := n_lt hz hc
      have e4 : Int32.ofInt a ≤ 0 ↔ a ≤ 0 := n_le hc hz
      have e5 : 0 ≤ Int32.ofInt a ↔ 0 ≤ a := n_le hz hc
      by_cases hq : a = 0
      · rw [if_pos hq] at h
        refine lv_if_ne hx hb hdec ht (fun hr => ?_) (fun hr => ?_)
        · exfalso; simp only [gt_iff_lt, ge_iff_le, ne_eq, e1, e2, e3, e4, e5] at hr; omega
        · exact kk _ _ _ _ H locs ls h (fun _ => rfl) hl hP hS
      · rw [if_neg hq] at h
        refine lv_if_ne hx hb hdec ht (fun hr => ?_) (fun hr => ?_)
        · exact kk _ _ _ _ H locs ls h (fun _ => rfl) hl hP hS
        · exfalso; simp only [gt_iff_lt, ge_iff_le, ne_eq, e1, e2, e3, e4, e5] at hr; omega
    case lt =>
      obtain ⟨v0, r0, rfl, h⟩ := eP_some h
      obtain ⟨a, rfl, h⟩ := eI_some h
      obtain ⟨hc, h⟩ := if_some h
      have hz : inR 0 := by decide
      have e1 : Int32.ofInt a = 0 ↔ a = 0 := n_eq hc hz
      have e2 : Int32.ofInt a < 0 ↔ a < 0 := n_lt hc hz
      have e3 : 0 < Int32.ofInt a ↔ 0 < a := n_lt hz hc
      have e4 : Int32.ofInt a ≤ 0 ↔ a ≤ 0 := n_le hc hz
      have e5 : 0 ≤ Int32.ofInt a ↔ 0 ≤ a := n_le hz hc
      by_cases hq : a < 0
      · rw [if_pos hq] at h
        refine lv_if_lt hx hb hdec ht (fun hr => ?_) (fun hr => ?_)
        · exact kk _ _ _ _ H locs ls h (fun _ => rfl) hl hP hS
        · exfalso; simp only [gt_iff_lt, ge_iff_le, ne_eq, e1, e2, e3, e4, e5] at hr; omega
      · rw [if_neg hq] at h
        refine lv_if_lt hx hb hdec ht (fun hr => ?_) (fun hr => ?_)
        · exfalso; simp only [gt_iff_lt, ge_iff_le, ne_eq, e1, e2, e3, e4, e5] at hr; omega
        · exact kk _ _ _ _ H locs ls h (fun _ => rfl) hl hP hS
    case ge =>
      obtain ⟨v0, r0, rfl, h⟩ := eP_some h
      obtain ⟨a, rfl, h⟩ := eI_some h
      obtain ⟨hc, h⟩ := if_some h
      have hz : inR 0 := by decide
      have e1 : Int32.ofInt a = 0 ↔ a = 0 := n_eq hc hz
      have e2 : Int32.ofInt a < 0 ↔ a < 0 := n_lt hc hz
      have e3 : 0 < Int32.ofInt a ↔ 0 < a := n_lt hz hc
      have e4 : Int32.ofInt a ≤ 0 ↔ a ≤ 0 := n_le hc hz
      have e5 : 0 ≤ Int32.ofInt a ↔ 0 ≤ a := n_le hz hc
      by_cases hq : a < 0
      · rw [if_pos hq] at h
        refine lv_if_ge hx hb hdec ht (fun hr => ?_) (fun hr => ?_)
        · exfalso; simp only [gt_iff_lt, ge_iff_le, ne_eq, e1, e2, e3, e4, e5] at hr; omega
        · exact kk _ _ _ _ H locs ls h (fun _ => rfl) hl hP hS
      · rw [if_neg hq] at h
        refine lv_if_ge hx hb hdec ht (fun hr => ?_) (fun hr => ?_)
        · exact kk _ _ _ _ H locs ls h (fun _ => rfl) hl hP hS
        · exfalso; simp only [gt_iff_lt, ge_iff_le, ne_eq, e1, e2, e3, e4, e5] at hr; omega
    case gt =>
      obtain ⟨v0, r0, rfl, h⟩ := eP_some h
      obtain ⟨a, rfl, h⟩ := eI_some h
      obtain ⟨hc, h⟩ := if_some h
      have hz : inR 0 := by decide
      have e1 : Int32.ofInt a = 0 ↔ a = 0 := n_eq hc hz
      have e2 : Int32.ofInt a < 0 ↔ a < 0 := n_lt hc hz
      have e3 : 0 < Int32.ofInt a ↔ 0 < a := n_lt hz hc
      have e4 : Int32.ofInt a ≤ 0 ↔ a ≤ 0 := n_le hc hz
      have e5 : 0 ≤ Int32.ofInt a ↔ 0 ≤ a := n_le hz hc
      by_cases hq : 0 < a
      · rw [if_pos hq] at h
        refine lv_if_gt hx hb hdec ht (fun hr => ?_) (fun hr => ?_)
        · exact kk _ _ _ _ H locs ls h (fun _ => rfl) hl hP hS
        · exfalso; simp only [gt_iff_lt, ge_iff_le, ne_eq, e1, e2, e3, e4, e5] at hr; omega
      · rw [if_neg hq] at h
        refine lv_if_gt hx hb hdec ht (fun hr => ?_) (fun hr => ?_)
        · exfalso; simp only [gt_iff_lt, ge_iff_le, ne_eq, e1, e2, e3, e4, e5] at hr; omega
        · exact kk _ _ _ _ H locs ls h (fun _ => rfl) hl hP hS
    case le =>
      obtain ⟨v0, r0, rfl, h⟩ := eP_some h
      obtain ⟨a, rfl, h⟩ := eI_some h
      obtain ⟨hc, h⟩ := if_some h
      have hz : inR 0 := by decide
      have e1 : Int32.ofInt a = 0 ↔ a = 0 := n_eq hc hz
      have e2 : Int32.ofInt a < 0 ↔ a < 0 := n_lt hc hz
      have e3 : 0 < Int32.ofInt a ↔ 0 < a := n_lt hz hc
      have e4 : Int32.ofInt a ≤ 0 ↔ a ≤ 0 := n_le hc hz
      have e5 : 0 ≤ Int32.ofInt a ↔ 0 ≤ a := n_le hz hc
      by_cases hq : 0 < a
      · rw [if_pos hq] at h
        refine lv_if_le hx hb hdec ht (fun hr => ?_) (fun hr => ?_)
        · exfalso; simp only [gt_iff_lt, ge_iff_le, ne_eq, e1, e2, e3, e4, e5] at hr; omega
        · exact kk _ _ _ _ H locs ls h (fun _ => rfl) hl hP hS
      · rw [if_neg hq] at h
        refine lv_if_le hx hb hdec ht (fun hr => ?_) (fun hr => ?_)
        · exact kk _ _ _ _ H locs ls h (fun _ => rfl) hl hP hS
        · exfalso; simp only [gt_iff_lt, ge_iff_le, ne_eq, e1, e2, e3, e4, e5] at hr; omega
  case tableswitch d lo hi offs =>
    simp only [okI, Bool.and_eq_true, decide_eq_true_eq] at hok
    obtain ⟨o1, o2, o3, o4, o5⟩ := hok
    obtain ⟨v0, r0, rfl, h⟩ := eP_some h
    obtain ⟨a, rfl, h⟩ := eI_some h
    obtain ⟨hc, h⟩ := if_some h
    have ea := n_toInt hc
    by_cases hq : lo ≤ a ∧ a ≤ hi
    · rw [if_pos hq] at h
      have hlt : (a - lo).toNat < offs.size := by omega
      have hof : offs[(a - lo).toNat]? = some (offs.getD (a - lo).toNat 0) := by simp [Array.getD, hlt]
      have hnn := of_decide_eq_true (List.all_eq_true.mp o2 (offs.getD (a - lo).toNat 0) (Array.mem_def.mp (Array.mem_of_getElem? hof)))
      refine lv_tableIn (off := offs.getD (a - lo).toNat 0) (tgt := ((pc : Int) + offs.getD (a - lo).toNat 0).toNat) hx hb hdec (by rw [ea]; omega) (by rw [ea]; omega) (by rw [ea]; exact hof) (by omega) ?_
      exact kk _ _ _ _ H locs ls h (fun _ => rfl) hl hP hS
    · rw [if_neg hq] at h
      refine lv_tableOut (tgt := ((pc : Int) + d).toNat) hx hb hdec (by rw [ea]; omega) (by omega) ?_
      exact kk _ _ _ _ H locs ls h (fun _ => rfl) hl hP hS
  case getfield q =>
    have hn : n = 3 := len_ok hlen rfl
    subst hn
    simp only [okI, Bool.and_eq_true] at hok
    obtain ⟨o1, o2, o3, o4⟩ := hok
    have o2 : x < nf (mC mi) := by simpa [ltN, Nat.blt_eq] using o2
    have o4 : mC mi < 10 := by simpa [ltN, Nat.blt_eq] using o4
    have o3 := Nat.eq_of_beq_eq_true o3
    try dsimp only at o2 o3
    obtain ⟨v0, r0, rfl, h⟩ := eP_some h
    obtain ⟨a, rfl, h⟩ := eR_some h
    obtain ⟨hc, h⟩ := if_some h
    try dsimp only at hc h
    rw [o3] at hc h
    have hlt := lc_lt (c := a) (by omega)
    obtain ⟨f1, f2, f3⟩ := f_at o4 o2
    have hg := wd_get (κ := κ) (α := α) (σ := σ) hlt
    rw [cE_obj (by omega), hc] at hg
    refine va_get (v := if fk (mC mi) x = 2 then Value.ref (α (rf a x)) else .int (Int32.ofInt (gI σ a (x : Nat)))) hx hb hts (u_in o4) hown hK hP a hg (clA_get o4) x o2 (hts _ (inLF_ok o1)) (fun x0 h0 => by rw [← f1]; exact h0) ?_ hdec ?_
    · rw [List.getElem?_map, List.getElem?_range o2]; rfl
    · by_cases hk2 : fk (mC mi) x = 2
      · rw [if_pos hk2] at h ⊢; exact kk _ _ _ _ H locs ls h (fun _ => rfl) hl hP hS
      · rw [if_neg hk2] at h ⊢; exact kk _ _ _ _ H locs ls h (fun _ => rfl) hl hP hS
  case putfield q =>
    have hn : n = 3 := len_ok hlen rfl
    subst hn
    simp only [okI, Bool.and_eq_true] at hok
    obtain ⟨o1, o2, o3, o4, o5⟩ := hok
    have o2 : x < nf (mC mi) := by simpa [ltN, Nat.blt_eq] using o2
    have o4 : mC mi < 10 := by simpa [ltN, Nat.blt_eq] using o4
    have o3 := Nat.eq_of_beq_eq_true o3
    try dsimp only at o2 o3
    obtain ⟨v0, r0, rfl, h⟩ := eP_some h
    obtain ⟨v1, r1, rfl, h⟩ := eP_some h
    obtain ⟨a, rfl, h⟩ := eI_some h
    obtain ⟨o, rfl, h⟩ := eR_some h
    obtain ⟨⟨hc, hfk⟩, h⟩ := if_some h
    try dsimp only at hc hfk h
    rw [o3] at hc hfk
    have hlt := lc_lt (c := o) (by omega)
    obtain ⟨f1, f2, f3⟩ := f_at o4 o2
    have hg := wd_get (κ := κ) (α := α) (σ := σ) hlt
    have hg0 := hg
    rw [cE_obj (by omega), hc] at hg
    have hty : narrow (fTy (mC mi) x) (.int (Int32.ofInt a)) = .int (Int32.ofInt a) ∧ fits (fTy (mC mi) x) (.int (Int32.ofInt a)) = true := by
      rcases f3 with ⟨g1, g2⟩ | ⟨g1, g2⟩ | g1
      · rw [g2]; exact ⟨rfl, rfl⟩
      · rw [g2]; exact int_bool (by omega)
      · omega
    refine va_put hx hb hts (u_in o4) (fTy (mC mi)) (fun k hk => (f_at o4 hk).2.1) (f_apart o4) hown hK hP (hDa σ) hS o hg (clA_get o4) x o2 (hts _ (inLF_ok o1)) (fun x0 h0 => by rw [← f1]; exact h0) (by simpa using o5) f2 hty.1 hty.2 (by simpa using o2) hdec (fun H1 locs1 hP1 _ hS1 => ?_)
    refine kk _ _ _ _ H1 locs1 ls h (fun j => by rw [gI_sI, if_neg (by omega)]) hl ?_ hS1
    rw [wd_set (σ' := sI σ o (x : Nat) a) ?_ (fun d hd => cE_sI hd)] at hP1
    · exact hP1
    · rw [cE_obj (by omega), hc]
      congr 2
      apply List.ext_getElem?
      intro k
      by_cases hk : k < nf (mC mi)
      · rw [List.getElem?_set, List.getElem?_map, List.getElem?_map, List.getElem?_range hk]
        by_cases hkx : x = k
        · subst hkx
          rw [if_pos rfl, if_pos (by simpa using hk)]
          have : ¬ fk (mC mi) x = 2 := by omega
          simp [this, gI_sI, cv_vI]
        · rw [if_neg hkx]
          have : ¬ ((k : Int) = (x : Int)) := by omega
          simp [gI_sI, this, cv_vI]
      · rw [List.getElem?_eq_none (by simp; omega), List.getElem?_eq_none (by simp; omega)]
  case laload =>
    have hn : n = 1 := len_ok hlen rfl
    subst hn
    obtain ⟨v0, r0, rfl, h⟩ := eP_some h
    obtain ⟨v1, r1, rfl, h⟩ := eP_some h
    obtain ⟨b, rfl, h⟩ := eI_some h
    obtain ⟨a, rfl, h⟩ := eR_some h
    obtain ⟨hc, h⟩ := if_some h
    have hlt := lc_lt (c := a) (by omega)
    have hg := wd_get (κ := κ) (α := α) (σ := σ) hlt
    rw [cE_102 hc.1] at hg
    have hll := ln_lt hlt
    refine va_lald hx hb hK hP a 1 hg rfl (n_in hc.2.1 hc.2.2 hll) hdec ?_
    rw [n_nat hc.2.1 (by omega)]
    have k1 := kk _ _ _ _ H locs ls h (fun _ => rfl) hl hP hS
    simp only [List.map_cons, cv_vI, cv_vL, cv_vD, cv_vF, Int.toNat_of_nonneg hc.2.1] at k1 ⊢
    exact k1
  case daload =>
    have hn : n = 1 := len_ok hlen rfl
    subst hn
    obtain ⟨v0, r0, rfl, h⟩ := eP_some h
    obtain ⟨v1, r1, rfl, h⟩ := eP_some h
    obtain ⟨b, rfl, h⟩ := eI_some h
    obtain ⟨a, rfl, h⟩ := eR_some h
    obtain ⟨hc, h⟩ := if_some h
    have hlt := lc_lt (c := a) (by omega)
    have hg := wd_get (κ := κ) (α := α) (σ := σ) hlt
    rw [cE_103 hc.1] at hg
    have hll := ln_lt hlt
    refine va_dald hx hb hK hP a 2 hg rfl (n_in hc.2.1 hc.2.2 hll) hdec ?_
    rw [n_nat hc.2.1 (by omega)]
    have k1 := kk _ _ _ _ H locs ls h (fun _ => rfl) hl hP hS
    simp only [List.map_cons, cv_vI, cv_vL, cv_vD, cv_vF, Int.toNat_of_nonneg hc.2.1] at k1 ⊢
    exact k1
  case iaload =>
    have hn : n = 1 := len_ok hlen rfl
    subst hn
    obtain ⟨v0, r0, rfl, h⟩ := eP_some h
    obtain ⟨v1, r1, rfl, h⟩ := eP_some h
    obtain ⟨b, rfl, h⟩ := eI_some h
    obtain ⟨a, rfl, h⟩ := eR_some h
    by_cases hx1 : x = 1
    · simp only [hx1, if_true] at h
      obtain ⟨hc, h⟩ := if_some h
      have ha79 : a = 79 := by
        rcases Nat.lt_or_ge a 79 with q | q
        · exact absurd hc.1 (lc_small q)
        · rcases Nat.lt_or_ge 79 a with q2 | q2
          · have := lc_far q2; omega
          · omega
      subst ha79
      obtain ⟨scr, x1, x2, x3, x4, x5⟩ := hsx H locs hS
      have hin : b.toNat < (gI σ 79 (-1)).toNat := by omega
      have hin2 : vp_in (Int32.ofInt b) (gI σ 79 (-1)).toNat := n_in hc.2.1 (by omega) (by omega)
      have hv := x5 b.toNat hin
      refine W.iald (v := .int (Int32.ofInt (gI σ 79 b))) hx hb x1 x2 x3 (by rw [x4]; exact hin2) (by rw [n_nat hc.2.1 (by omega), hv]; show some (Value.int (Int32.ofInt (gI σ 79 ((b.toNat : Nat) : Int)))) = _; rw [Int.toNat_of_nonneg hc.2.1]) rfl rfl hdec ?_
      exact kk _ _ _ _ H locs ls h (fun _ => rfl) hl hP hS
    · have h := if_negs h hx1
      obtain ⟨hc, h⟩ := if_some h
      have hlt := lc_lt (c := a) (by omega)
      have hg := wd_get (κ := κ) (α := α) (σ := σ) hlt
      rw [cE_101 hc.1] at hg
      have hll := ln_lt hlt
      refine va_iald hx hb hK hP a 0 hg rfl (n_in hc.2.1 hc.2.2 hll) hdec ?_
      rw [n_nat hc.2.1 (by omega)]
      have k1 := kk _ _ _ _ H locs ls h (fun _ => rfl) hl hP hS
      simp only [List.map_cons, cv_vI, Int.toNat_of_nonneg hc.2.1] at k1 ⊢
      exact k1
  case iastore =>
    have hn : n = 1 := len_ok hlen rfl
    subst hn
    obtain ⟨v0, r0, rfl, h⟩ := eP_some h
    obtain ⟨v1, r1, rfl, h⟩ := eP_some h
    obtain ⟨v2, r2, rfl, h⟩ := eP_some h
    obtain ⟨b, rfl, h⟩ := eI_some h
    obtain ⟨i, rfl, h⟩ := eI_some h
    obtain ⟨a, rfl, h⟩ := eR_some h
    obtain ⟨hc, h⟩ := if_some h
    have hlt := lc_lt (c := a) (by omega)
    have hg := wd_get (κ := κ) (α := α) (σ := σ) hlt
    rw [cE_101 hc.1] at hg
    have hll := ln_lt hlt
    refine va_iast hx hb hK hP (hDa σ) hS a 0 hg rfl (n_in hc.2.1 hc.2.2 hll) hdec (fun H1 locs1 hP1 _ hS1 => ?_)
    refine kk _ _ _ _ H1 locs1 ls h (fun j => by rw [gI_sI, if_neg (by rintro ⟨q, -⟩; subst q; have := lc_79; omega)]) hl ?_ hS1
    rw [wd_set (σ' := sI σ a i b) ?_ (fun d hd => cE_sI hd)] at hP1
    · exact hP1
    · rw [cE_101 hc.1, n_nat hc.2.1 (by omega)]
      rw [upd_conc hc.2.1 (fun _ => rfl)]
      congr 3
      congr 1
      funext j
      simp [gI_sI]
  case lastore =>
    have hn : n = 1 := len_ok hlen rfl
    subst hn
    obtain ⟨v0, r0, rfl, h⟩ := eP_some h
    obtain ⟨v1, r1, rfl, h⟩ := eP_some h
    obtain ⟨v2, r2, rfl, h⟩ := eP_some h
    obtain ⟨b, rfl, h⟩ := eL_some h
    obtain ⟨i, rfl, h⟩ := eI_some h
    obtain ⟨a, rfl, h⟩ := eR_some h
    obtain ⟨hc, h⟩ := if_some h
    have hlt := lc_lt (c := a) (by omega)
    have hg := wd_get (κ := κ) (α := α) (σ := σ) hlt
    rw [cE_102 hc.1] at hg
    have hll := ln_lt hlt
    refine va_last hx hb hK hP (hDa σ) hS a 1 hg rfl (n_in hc.2.1 hc.2.2 hll) hdec (fun H1 locs1 hP1 _ hS1 => ?_)
    refine kk _ _ _ _ H1 locs1 ls h (fun j => rfl) hl ?_ hS1
    rw [wd_set (σ' := sL σ a i b) ?_ (fun d hd => cE_sL hd)] at hP1
    · exact hP1
    · rw [cE_102 hc.1, n_nat hc.2.1 (by omega)]
      congr 4
      refine congrArg Sum.inl (funext fun j => ?_)
      rw [gL_sL]
      unfold vp_updL
      by_cases hj : j = i.toNat
      · rw [if_pos hj, if_pos ⟨rfl, by omega⟩]
      · rw [if_neg hj, if_neg (by rintro ⟨-, q⟩; omega)]
  case dastore =>
    have hn : n = 1 := len_ok hlen rfl
    subst hn
    obtain ⟨v0, r0, rfl, h⟩ := eP_some h
    obtain ⟨v1, r1, rfl, h⟩ := eP_some h
    obtain ⟨v2, r2, rfl, h⟩ := eP_some h
    obtain ⟨b, rfl, h⟩ := eD_some h
    obtain ⟨i, rfl, h⟩ := eI_some h
    obtain ⟨a, rfl, h⟩ := eR_some h
    obtain ⟨hc, h⟩ := if_some h
    have hlt := lc_lt (c := a) (by omega)
    have hg := wd_get (κ := κ) (α := α) (σ := σ) hlt
    rw [cE_103 hc.1] at hg
    have hll := ln_lt hlt
    refine va_dast hx hb hK hP (hDa σ) hS a 2 hg rfl (n_in hc.2.1 hc.2.2 hll) hdec (fun H1 locs1 hP1 _ hS1 => ?_)
    refine kk _ _ _ _ H1 locs1 ls h (fun j => rfl) hl ?_ hS1
    rw [wd_set (σ' := sD σ a i b) ?_ (fun d hd => cE_sD hd)] at hP1
    · exact hP1
    · rw [cE_103 hc.1, n_nat hc.2.1 (by omega)]
      congr 6
      refine congrArg Sum.inl (funext fun j => ?_)
      rw [gD_sD]
      unfold vf_upd
      by_cases hj : j = i.toNat
      · rw [if_pos hj, if_pos ⟨rfl, by omega⟩]
      · rw [if_neg hj, if_neg (by rintro ⟨-, q⟩; omega)]
  case arraylength =>
    have hn : n = 1 := len_ok hlen rfl
    subst hn
    obtain ⟨v0, r0, rfl, h⟩ := eP_some h
    obtain ⟨a, rfl, h⟩ := eR_some h
    by_cases hx1 : x = 1
    · simp only [hx1, if_true] at h
      obtain ⟨hc, h⟩ := if_some h
      have ha79 : a = 79 := by
        rcases Nat.lt_or_ge a 79 with q | q
        · exact absurd hc (lc_small q)
        · rcases Nat.lt_or_ge 79 a with q2 | q2
          · have := lc_far q2; omega
          · omega
      subst ha79
      obtain ⟨scr, x1, x2, x3, x4, x5⟩ := hsx H locs hS
      refine W.alen (n := Int32.ofInt (gI σ 79 (-1))) hx hb x1 x2 (by rw [x4]; exact (n_nI hsn.1).symm) rfl rfl hdec ?_
      exact kk _ _ _ _ H locs ls h (fun _ => rfl) hl hP hS
    · have h := if_negs h hx1
      obtain ⟨hc, h⟩ := if_some h
      have hlt := lc_lt (c := a) (by omega)
      have hg := wd_get (κ := κ) (α := α) (σ := σ) hlt
      rcases hc with hc | hc
      · rw [cE_101 hc] at hg
        refine va_alen (v := Int32.ofInt (ln a)) hx hb hK hP a 0 hg rfl rfl hdec ?_
        exact kk _ _ _ _ H locs ls h (fun _ => rfl) hl hP hS
      · rw [cE_102 hc] at hg
        refine va_alen (v := Int32.ofInt (ln a)) hx hb hK hP a 1 hg rfl rfl hdec ?_
        exact kk _ _ _ _ H locs ls h (fun _ => rfl) hl hP hS
  all_goals exact nomatch (show (none : Option (Res × St)) = some r from h)
end SND
end
section
abbrev HRow : Type := Nat × (Nat × (Nat × (Nat × (Nat × (Nat × (Nat × (Nat × (Nat × Nat))))))))
def hxT : List HRow := [(279, 0, 9, 1, 13, 3, 12, 13, 805, 813), (279, 0, 9, 2, 16, 3, 15, 15, 806, 888), (280, 0, 9, 3, 13, 3, 12, 20, 910, 944), (280, 0, 9, 1, 16, 3, 15, 13, 805, 813), (280, 0, 9, 2, 19, 3, 18, 15, 806, 888), (281, 0, 9, 3, 13, 3, 12, 20, 910, 944), (282, 0, 9, 3, 13, 3, 12, 20, 910, 944), (283, 0, 9, 1, 13, 3, 12, 13, 805, 813), (284, 0, 9, 3, 13, 3, 12, 20, 910, 944), (285, 0, 10, 3, 15, 4, 13, 20, 910, 944), (286, 0, 12, 3, 17, 5, 15, 20, 910, 944), (287, 0, 8, 3, 12, 3, 11, 20, 910, 944), (288, 0, 9, 3, 14, 4, 12, 20, 910, 944), (289, 0, 9, 3, 14, 4, 12, 20, 910, 944), (290, 0, 17, 3, 22, 4, 20, 20, 910, 944), (291, 0, 8, 3, 12, 3, 11, 20, 910, 944), (292, 0, 10, 3, 15, 4, 13, 20, 910, 944), (292, 0, 10, 4, 19, 4, 17, 63, 1204, 1217), (293, 0, 10, 3, 15, 4, 13, 20, 910, 944), (293, 0, 10, 4, 19, 4, 17, 63, 1204, 1217), (294, 0, 8, 3, 12, 3, 11, 20, 910, 944), (295, 0, 17, 3, 22, 4, 20, 20, 910, 944), (296, 0, 8, 3, 12, 3, 11, 20, 910, 944), (297, 0, 16, 3, 20, 3, 19, 20, 910, 944), (298, 0, 16, 3, 20, 3, 19, 20, 910, 944), (299, 0, 9, 3, 13, 3, 12, 20, 910, 944), (300, 0, 8, 3, 12, 3, 11, 20, 910, 944), (301, 0, 9, 3, 14, 4, 12, 20, 910, 944), (302, 0, 7, 5, 11, 2, 10, 97, 1332, 1344), (303, 0, 8, 5, 12, 2, 11, 97, 1332, 1344), (304, 0, 4, 2, 8, 1, 7, 15, 806, 888)]
abbrev hPr (e : HRow) : Nat × (Nat × (Nat × (Nat × (Nat × Nat)))) := (e.1, e.2.1, e.2.2.1, e.2.2.2.1, e.2.2.2.2.1, e.2.2.2.2.2.1)
theorem hx_1 : hdT = hxT.map hPr := by decide +kernel
def HX (mi : Nat) : List HRow := hxT.filter (fun e => Nat.beq e.1 mi)
theorem hx_2 : (List.range 306).all (fun mi => decide (mH mi = (HX mi).map (fun e => (e.2.1, e.2.2.1, e.2.2.2.2.2.2.1, e.2.2.2.2.2.2.2.1)))) = true := by decide +kernel
def okHX (e : HRow) : Bool := decide (lw_tbl[e.2.2.2.2.2.2.2.2.1]? = some (.classLink (cN 12) e.2.2.2.2.2.2.2.1 (xN e.2.2.2.1))) && (decide (lw_tbl[e.2.2.2.2.2.2.2.2.2]? = some (.castable (xN e.2.2.2.1) (xN e.2.2.2.1))) && (decide (mC e.1 = 12) && (decide (e.2.2.2.2.2.2.2.1 ≠ 0) && (ltN e.2.2.2.2.2.1 (mL e.1) && (ltN e.2.2.2.1 6 && (ltN 0 e.2.2.2.1 && ((decide (decode (mB e.1) e.2.2.2.2.2.2.1 = .ok (.astore e.2.2.2.2.2.1, 2)) && eqN e.2.2.2.2.1 (e.2.2.2.2.2.2.1 + 2)) || (match e.2.2.2.2.2.1 with | 2 => decide (decode (mB e.1) e.2.2.2.2.2.2.1 = .ok (.astore_n 2, 1)) | 3 => decide (decode (mB e.1) e.2.2.2.2.2.2.1 = .ok (.astore_n 3, 1)) | 1 => decide (decode (mB e.1) e.2.2.2.2.2.2.1 = .ok (.astore_n 1, 1)) | _ => false) && eqN e.2.2.2.2.1 (e.2.2.2.2.2.2.1 + 1))))))))
theorem hx_3 : hxT.all okHX = true := by decide +kernel
def okTH (e : Nat × (Nat × (Nat × (Nat × (Nat × (Nat × (Nat × (Nat × String)))))))) : Bool := decide (decode (mB e.1) (e.2.1 + 3) = .ok (.dup, 1)) && ((if e.2.2.2.2.2.2.1 = 0 then decide (decode (mB e.1) (e.2.1 + 4) = .ok (.ldc e.2.2.2.2.1, 2)) && (decide (decode (mB e.1) (e.2.1 + 6) = .ok (.invokespecial e.2.2.2.2.2.1, 3)) && decide (decode (mB e.1) (e.2.1 + 9) = .ok (.athrow, 1))) else decide (decode (mB e.1) (e.2.1 + 4) = .ok (.ldc_w e.2.2.2.2.1, 3)) && (decide (decode (mB e.1) (e.2.1 + 7) = .ok (.invokespecial e.2.2.2.2.2.1, 3)) && decide (decode (mB e.1) (e.2.1 + 10) = .ok (.athrow, 1)))) && (decide (mC e.1 = 8) && ((mH e.1).isEmpty && (decide (7 ≤ mFr e.1) && decide (90 ≤ mLo e.1)))))
theorem th_ok : THS.all okTH = true := by decide +kernel
theorem th_cb : THS.all (fun e => (eqN e.2.2.1 1 && (eqN e.2.2.2.1 72 && eqN e.2.2.2.2.2.1 76)) || (eqN e.2.2.1 2 && (eqN e.2.2.2.1 83 && eqN e.2.2.2.2.2.1 87)) || (eqN e.2.2.1 3 && (eqN e.2.2.2.1 167 && eqN e.2.2.2.2.2.1 171)) || (eqN e.2.2.1 5 && (eqN e.2.2.2.1 268 && eqN e.2.2.2.2.2.1 272)) || (eqN e.2.2.1 4 && (eqN e.2.2.2.1 317 && eqN e.2.2.2.2.2.1 321))) = true := by decide +kernel
/-- all that a throw wants of the words, by the row's kind -/
def ThW (own : String) (ik ic : Nat) (X : String) : Prop := ∃ (ix : Nat) (rx : ByteArray), decode rx 0 = .ok (.aload_n 0, 1) ∧ decode rx 1 = .ok (.aload_n 1, 1) ∧ decode rx 2 = .ok (.invokespecial ix, 3) ∧ decode rx 5 = .ok (.return_, 1) ∧ Bundle.fit X = true ∧
  ∀ w ∈ Cond.classLink own ik X :: Cond.initialized X :: (px_at own ic X ix rx "java/lang/RuntimeException" ["java/lang/Exception"]).filter vx_no, w ∈ TS
theorem thw_0 : ThW "PointerAnalyzer" 72 76 "java/lang/IllegalArgumentException" := by
  refine ⟨7, prog_18_method_2_code, ax_0.1, ax_0.2.1, ax_0.2.2.1, ax_0.2.2.2, by decide +kernel, fun w hw => ?_⟩
  have h1 := List.all_eq_true.mp ao_0 w hw
  rcases List.mem_cons.mp hw with rfl | hw
  · exact ts_mem ai_0.1 h1
  · rcases List.mem_cons.mp hw with rfl | hw
    · exact ts_mem ai_0.2 h1
    · have hw : w ∈ pa_0 := hw
      rw [at_0] at hw
      obtain ⟨i, -, hi⟩ := List.mem_filterMap.mp hw
      exact ts_mem hi h1
theorem thw_1 : ThW "PointerAnalyzer" 83 87 "java/lang/IllegalStateException" := by
  refine ⟨7, prog_19_method_2_code, ax_1.1, ax_1.2.1, ax_1.2.2.1, ax_1.2.2.2, by decide +kernel, fun w hw => ?_⟩
  have h1 := List.all_eq_true.mp ao_1 w hw
  rcases List.mem_cons.mp hw with rfl | hw
  · exact ts_mem ai_1.1 h1
  · rcases List.mem_cons.mp hw with rfl | hw
    · exact ts_mem ai_1.2 h1
    · have hw : w ∈ pa_1 := hw
      rw [at_1] at hw
      obtain ⟨i, -, hi⟩ := List.mem_filterMap.mp hw
      exact ts_mem hi h1
theorem thw_2 : ThW "PointerAnalyzer" 167 171 "java/lang/IndexOutOfBoundsException" := by
  refine ⟨7, prog_20_method_2_code, ax_2.1, ax_2.2.1, ax_2.2.2.1, ax_2.2.2.2, by decide +kernel, fun w hw => ?_⟩
  have h1 := List.all_eq_true.mp ao_2 w hw
  rcases List.mem_cons.mp hw with rfl | hw
  · exact ts_mem ai_2.1 h1
  · rcases List.mem_cons.mp hw with rfl | hw
    · exact ts_mem ai_2.2 h1
    · have hw : w ∈ pa_2 := hw
      rw [at_2] at hw
      obtain ⟨i, -, hi⟩ := List.mem_filterMap.mp hw
      exact ts_mem hi h1
theorem thw_3 : ThW "PointerAnalyzer" 268 272 "java/lang/ArithmeticException" := by
  refine ⟨7, prog_15_method_2_code, ax_3.1, ax_3.2.1, ax_3.2.2.1, ax_3.2.2.2, by decide +kernel, fun w hw => ?_⟩
  have h1 := List.all_eq_true.mp ao_3 w hw
  rcases List.mem_cons.mp hw with rfl | hw
  · exact ts_mem ai_3.1 h1
  · rcases List.mem_cons.mp hw with rfl | hw
    · exact ts_mem ai_3.2 h1
    · have hw : w ∈ pa_3 := hw
      rw [at_3] at hw
      obtain ⟨i, -, hi⟩ := List.mem_filterMap.mp hw
      exact ts_mem hi h1
theorem thw_4 : ThW "PointerAnalyzer" 317 321 "java/util/NoSuchElementException" := by
  refine ⟨13, prog_25_method_4_code, ax_4.1, ax_4.2.1, ax_4.2.2.1, ax_4.2.2.2, by decide +kernel, fun w hw => ?_⟩
  have h1 := List.all_eq_true.mp ao_4 w hw
  rcases List.mem_cons.mp hw with rfl | hw
  · exact ts_mem ai_4.1 h1
  · rcases List.mem_cons.mp hw with rfl | hw
    · exact ts_mem ai_4.2 h1
    · have hw : w ∈ pa_4 := hw
      rw [at_4] at hw
      obtain ⟨i, -, hi⟩ := List.mem_filterMap.mp hw
      exact ts_mem hi h1
theorem thw {e : Nat × (Nat × (Nat × (Nat × (Nat × (Nat × (Nat × (Nat × String)))))))} (he : e ∈ THS) : ThW (cN 8) e.2.2.2.1 e.2.2.2.2.2.1 (xN e.2.2.1) := by
  have h := List.all_eq_true.mp th_cb e he
  simp only [Bool.or_eq_true, Bool.and_eq_true] at h
  rcases h with (((h | h) | h) | h) | h
  · rw [Nat.eq_of_beq_eq_true h.1, Nat.eq_of_beq_eq_true h.2.1, Nat.eq_of_beq_eq_true h.2.2]; exact thw_0
  · rw [Nat.eq_of_beq_eq_true h.1, Nat.eq_of_beq_eq_true h.2.1, Nat.eq_of_beq_eq_true h.2.2]; exact thw_1
  · rw [Nat.eq_of_beq_eq_true h.1, Nat.eq_of_beq_eq_true h.2.1, Nat.eq_of_beq_eq_true h.2.2]; exact thw_2
  · rw [Nat.eq_of_beq_eq_true h.1, Nat.eq_of_beq_eq_true h.2.1, Nat.eq_of_beq_eq_true h.2.2]; exact thw_3
  · rw [Nat.eq_of_beq_eq_true h.1, Nat.eq_of_beq_eq_true h.2.1, Nat.eq_of_beq_eq_true h.2.2]; exact thw_4
theorem m_all : (List.range 306).all (fun x => plainName (mY x).cls && (decide ((mY x).cls ≠ "java/lang/invoke/MethodHandle") && (decide ((mY x).cls ≠ "java/lang/invoke/VarHandle") && decide ((mY x).cls = cN (mC x))))) = true := by decide +kernel
theorem m_at {x : Nat} (h : x < 306) : plainName (mY x).cls = true ∧ (mY x).cls ≠ "java/lang/invoke/MethodHandle" ∧ (mY x).cls ≠ "java/lang/invoke/VarHandle" ∧ (mY x).cls = cN (mC x) := by
  have h1 := List.all_eq_true.mp m_all x (List.mem_range.mpr h)
  simp only [Bool.and_eq_true, decide_eq_true_eq] at h1
  exact h1
theorem hx_at {mi : Nat} (h : mi < 306) : mH mi = (HX mi).map (fun e => (e.2.1, e.2.2.1, e.2.2.2.2.2.2.1, e.2.2.2.2.2.2.2.1)) := of_decide_eq_true (List.all_eq_true.mp hx_2 mi (List.mem_range.mpr h))
theorem hdF_some : ∀ (l : List HRow) (mi pc X : Nat) (q : Nat × Nat), hdF (l.map hPr) mi pc X = some q → ∃ pre e suf, l.filter (fun e => Nat.beq e.1 mi) = pre ++ e :: suf ∧ (∀ z ∈ pre, ¬ (z.2.1 ≤ pc ∧ pc < z.2.2.1) ∨ z.2.2.2.1 ≠ X) ∧ (e.2.1 ≤ pc ∧ pc < e.2.2.1) ∧ e.2.2.2.1 = X ∧ q = (e.2.2.2.2.1, e.2.2.2.2.2.1) ∧ e.1 = mi
  | [], _, _, _, _, h => by cases h
  | e :: r, mi, pc, X, q, h => by
    have h : (bif Nat.beq e.1 mi && (Nat.ble e.2.1 pc && (Nat.blt pc e.2.2.1 && Nat.beq e.2.2.2.1 X)) then some (e.2.2.2.2.1, e.2.2.2.2.2.1) else hdF (r.map hPr) mi pc X) = some q := h
    cases h1 : Nat.beq e.1 mi with
    | false =>
      rw [h1] at h
      obtain ⟨pre, e2, suf, g1, g2⟩ := hdF_some r mi pc X q h
      exact ⟨pre, e2, suf, by rw [List.filter_cons_of_neg (p := fun e : HRow => Nat.beq e.1 mi) (show ¬ Nat.beq e.1 mi = true from by rw [h1]; decide)]; exact g1, g2⟩
    | true =>
      cases h2 : (Nat.ble e.2.1 pc && (Nat.blt pc e.2.2.1 && Nat.beq e.2.2.2.1 X)) with
      | true =>
        rw [h1, h2] at h
        simp only [Bool.and_eq_true] at h2
        refine ⟨[], e, r.filter (fun e => Nat.beq e.1 mi), by rw [List.filter_cons_of_pos (p := fun e : HRow => Nat.beq e.1 mi) h1]; rfl, fun _ hz => (by cases hz), ⟨Nat.le_of_ble_eq_true h2.1, by simpa [Nat.blt_eq] using h2.2.1⟩, Nat.eq_of_beq_eq_true h2.2.2, ?_, Nat.eq_of_beq_eq_true h1⟩
        exact (Option.some.inj h).symm
      | false =>
        rw [h1, h2] at h
        obtain ⟨pre, e2, suf, g1, g2, g3⟩ := hdF_some r mi pc X q h
        refine ⟨e :: pre, e2, suf, by rw [List.filter_cons_of_pos (p := fun e : HRow => Nat.beq e.1 mi) h1, g1]; rfl, ?_, g3⟩
        intro z hz
        rcases List.mem_cons.mp hz with rfl | hz
        · by_cases hc : z.2.1 ≤ pc ∧ pc < z.2.2.1
          · right
            rintro rfl
            have e1 : Nat.ble z.2.1 pc = true := Nat.ble_eq_true_of_le hc.1
            have e2 : Nat.blt pc z.2.2.1 = true := by simpa [Nat.blt_eq] using hc.2
            rw [e1, e2] at h2
            simp at h2
          · exact Or.inl hc
        · exact g2 z hz
theorem hdF_none : ∀ (l : List HRow) (mi pc X : Nat), hdF (l.map hPr) mi pc X = none → ∀ z ∈ l.filter (fun e => Nat.beq e.1 mi), ¬ (z.2.1 ≤ pc ∧ pc < z.2.2.1) ∨ z.2.2.2.1 ≠ X
  | [], _, _, _, _, _, hz => by cases hz
  | e :: r, mi, pc, X, h, z, hz => by
    have h : (bif Nat.beq e.1 mi && (Nat.ble e.2.1 pc && (Nat.blt pc e.2.2.1 && Nat.beq e.2.2.2.1 X)) then some (e.2.2.2.2.1, e.2.2.2.2.2.1) else hdF (r.map hPr) mi pc X) = none := h
    cases h0 : (Nat.beq e.1 mi && (Nat.ble e.2.1 pc && (Nat.blt pc e.2.2.1 && Nat.beq e.2.2.2.1 X))) with
    | true => rw [h0] at h; cases h
    | false =>
      rw [h0] at h
      cases h1 : Nat.beq e.1 mi with
      | false =>
        rw [List.filter_cons_of_neg (p := fun e : HRow => Nat.beq e.1 mi) (show ¬ Nat.beq e.1 mi = true from by rw [h1]; decide)] at hz
        exact hdF_none r mi pc X h z hz
      | true =>
        rw [List.filter_cons_of_pos (p := fun e : HRow => Nat.beq e.1 mi) h1] at hz
        rcases List.mem_cons.mp hz with rfl | hz
        · by_cases hc : z.2.1 ≤ pc ∧ pc < z.2.2.1
          · right
            rintro rfl
            have e1 : Nat.ble z.2.1 pc = true := Nat.ble_eq_true_of_le hc.1
            have e2 : Nat.blt pc z.2.2.1 = true := by simpa [Nat.blt_eq] using hc.2
            rw [h1, e1, e2] at h0
            simp at h0
          · exact Or.inl hc
        · exact hdF_none r mi pc X h z hz
/-- the cells that a method may write: the layout's, and new ones -/
def AA (α : Nat → Nat) (n : Nat) : Nat → Prop := fun q => (∃ c, c < 79 ∧ q = α c) ∨ n ≤ q
theorem AA.mono {α : Nat → Nat} {n k : Nat} (h : n ≤ k) : ∀ q, AA α k q → AA α n q := fun _ hq => hq.elim Or.inl (fun g => Or.inr (Nat.le_trans h g))
/-- what the tables say at a state -/
def CX (κ : Nat → ClassId) (D : va_G) (s : State) : Prop := va_K D clA [(κ 0, .int), (κ 1, .long), (κ 2, .double)] s ∧ (∀ w ∈ TS, va_Nw w s) ∧ (∀ a b, 0 < a → a < 6 → 0 < b → b < 6 → a ≠ b → va_Nc (xN a) (xN b) s) ∧ (∀ e ∈ THS, ∃ sa, vk_R (cN 8) e.2.2.2.2.1 e.2.2.2.2.2.2.2.2 sa s)
theorem nw_warm {w : Cond} (hw : okw w = true) {s U : State} (hW : s.WarmedH U.vm) (h : va_Nw w s) : va_Nw w U := by
  unfold okw at hw
  simp only [Bool.and_eq_true, Bool.or_eq_true] at hw
  rcases hw.2 with hk | hn
  · exact word_at hW (Or.inl (by rw [hw.1, hk]; rfl)) h
  · cases w <;> first
      | exact va_Nw.warmM hW h
      | exact va_Nw.warmC hW h
      | exact va_tabs rfl (rfl : (s.setVm U.vm).vm = U.vm) (by rw [Cond.declares_setVm hW.alike]; exact h)
      | exact nomatch hn
      | (simp [isN] at hn; done)
theorem CX.moved {κ : Nat → ClassId} {D : va_G} {s U : State} (hW : s.WarmedH U.vm) (h : CX κ D s) : CX κ D U :=
  ⟨va_K.moved hW.alike h.1, fun w hw => nw_warm (List.mem_filter.mp hw).2 hW (h.2.1 w hw), fun a b a0 a1 b0 b1 hn => va_Nc.moved hW.alike (h.2.2.1 a b a0 a1 b0 b1 hn), fun e he => (h.2.2.2 e he).elim fun sa hs => ⟨sa, vk_R.warm hW hs⟩⟩
theorem CX.words {κ : Nat → ClassId} {D : va_G} {s : State} {args : Array Value} (h : CX κ D s) : ∀ w ∈ TS, w.before args s = true := fun w hw => by
  have h2 := (List.mem_filter.mp hw).2
  unfold okw at h2
  rw [Bool.and_eq_true] at h2
  exact va_Nw.use h2.1 (h.2.1 w hw)
/-- what the heap holds beside the layout -/
def HF (α : Nat → Nat) (ix : Int → Int) (n : Nat) (U : State) : Prop := vx_Zq Bundle.tN "UNASSIGNED_STACK" Bundle.steD (AA α n) U U.heap ∧ vx_Zq Bundle.tN "SUPPRESSED_SENTINEL" Bundle.listD (AA α n) U U.heap ∧ va_X (α 79) (ix (-1)).toNat (fun j => Int32.ofInt (ix (j : Nat))) U U.heap ∧ α 79 < n
def SF (α : Nat → Nat) (ix : Int → Int) : Prop := (∀ i j, i < 79 → j < 79 → α i = α j → i = j) ∧ (∀ c, c < 79 → α c ≠ α 79) ∧ 0 ≤ ix (-1) ∧ ix (-1) < 2147483648
theorem HF.moved {α : Nat → Nat} {ix : Int → Int} {s U : State} {H : Heap} {locs : List Loc} (h : HF α ix s.heap.size s) (hf : SF α ix) (hS : va_S (AA α s.heap.size) s.heap H locs) (hU : U.heap = H) (hW : s.WarmedH U.vm) : HF α ix H.size U := by
  obtain ⟨h1, h2, h3, h4⟩ := h
  have hb : ¬ AA α s.heap.size (α 79) := by
    rintro (⟨c, hc, e⟩ | e)
    · exact hf.2.1 c hc e.symm
    · omega
  refine ⟨?_, ?_, ?_, Nat.lt_of_lt_of_le h4 hS.1⟩
  · rw [hU]; exact vx_Zq.narrow (vx_Zq.moved hW.alike (h1.kept hS.2.1)) (AA.mono hS.1)
  · rw [hU]; exact vx_Zq.narrow (vx_Zq.moved hW.alike (h2.kept hS.2.1)) (AA.mono hS.1)
  · rw [hU]; exact va_X.moved hW.alike (h3.kept (hS.2.1 _ h4 hb))
theorem wd_D {κ : Nat → ClassId} {α : Nat → Nat} {ix : Int → Int} (h : SF α ix) (n : Nat) (σ : St) : va_D (AA α n) (wd κ α σ) := by
  have key : ∀ (k : Nat) (q : Nat × va_E), (wd κ α σ)[k]? = some q → k < 79 ∧ q.1 = α k := by
    intro k q hk
    by_cases hl : k < 79
    · rw [wd_get hl] at hk
      cases hk
      exact ⟨hl, rfl⟩
    · have l2 : (wd κ α σ).length = 79 := by unfold wd; simp
      rw [List.getElem?_eq_none (by omega)] at hk
      cases hk
  refine ⟨fun i j x y hi hj hxy => ?_, fun k q hk => ?_⟩
  · obtain ⟨h1, h2⟩ := key i x hi
    obtain ⟨h3, h4⟩ := key j y hj
    exact h.1 i j h1 h3 (by rw [← h2, ← h4, hxy])
  · obtain ⟨h1, h2⟩ := key k q hk
    exact Or.inl ⟨k, h1, h2⟩
def rmX (x : Nat) : Room := { frames := mFr x, cells := mBu x, slots := 6 * mBu x, locals := mLo x }
def WDX (κ : Nat → ClassId) (D : va_G) (α : Nat → Nat) (ix : Int → Int) (σ : St) (H : Heap) : Prop := va_P D clA (wd κ α σ) H ∧ ∀ j, gI σ 79 j = ix j
def PcX (κ : Nat → ClassId) (D : va_G) (α : Nat → Nat) (ix : Int → Int) (as : List AV) (σ : St) (n : Nat) : Array Value → State → Prop := fun v U => v = (as.map (cv α)).toArray ∧ U.heap.size = n ∧ CX κ D U ∧ HF α ix n U ∧ WDX κ D α ix σ U.heap
def QcX (κ : Nat → ClassId) (D : va_G) (α : Nat → Nat) (ix : Int → Int) (r : Res × St) (n : Nat) : Array Value → State → Outcome → State → Prop := fun _ st o t => (∃ v σ1, r = (.inl v, σ1) ∧ o = .returned (v.map (cv α)) ∧ WDX κ D α ix σ1 t.heap) ∧ va_F (AA α n) st t
def XcX (κ : Nat → ClassId) (D : va_G) (α : Nat → Nat) (ix : Int → Int) (r : Res × St) (n : Nat) : String → State → State → Prop := fun E st t => (∃ X σ1, r = (.inr X, σ1) ∧ 0 < X ∧ X < 6 ∧ E = xN X ∧ WDX κ D α ix σ1 t.heap) ∧ va_F (AA α n) st t
def MetX (l : Launch) (κ : Nat → ClassId) (D : va_G) (α : Nat → Nat) (ix : Int → Int) (x : Nat) (as : List AV) (σ : St) (r : Res × St) (n : Nat) : Prop :=
  vx_Met l (mY x) [cdW x] (rmX x) (PcX κ D α ix as σ n) (QcX κ D α ix r n) (XcX κ D α ix r n) (mBu x) (6 * mBu x) (AA α n)
theorem PcX.blind {κ : Nat → ClassId} {D : va_G} {α : Nat → Nat} {ix : Int → Int} {as : List AV} {σ : St} {n : Nat} : FrameBlind (PcX κ D α ix as σ n) := by
  intro a U g mk ⟨h1, h2, h3, h4, h5⟩
  refine ⟨h1, h2, CX.moved (U := U.calling g mk a) (State.WarmedH.refl U) h3, ?_, h5⟩
  obtain ⟨a1, a2, a3, a4⟩ := h4
  exact ⟨vx_Zq.moved (Vm.Alike.refl U.vm) a1, vx_Zq.moved (Vm.Alike.refl U.vm) a2, va_X.moved (Vm.Alike.refl U.vm) a3, a4⟩
/-- a frame of method mi -/
def Ctx (κ : Nat → ClassId) (D : va_G) (α : Nat → Nat) (ix : Int → Int) (l : Launch) (p : Program) (s : State) (m : MethodId) (meth : Method) (c : Code) (mi : Nat) : Prop :=
  p.tables.exec = Jvm.exec ∧ c.code = mB mi ∧ c.maxLocals = mL mi ∧ mi < 306 ∧ s.vm.findClass (cN (mC mi)) = some m.cls ∧ meth.locks = false ∧ l.stackTraces = false ∧ c.exceptionTable.toList = tableOf (mH mi) ∧ CX κ D s ∧ HF α ix s.heap.size s ∧ SF α ix
def retI (i : Jvm.ClassFile.Instr) (x : Nat) (v : Option AV) (st : List AV) : Prop :=
  (i = .ireturn ∧ ∃ z, v = some (vI z) ∧ st = [vI z] ∧ (x = 1 → (z = 0 ∨ z = 1))) ∨ (i = .lreturn ∧ ∃ z, v = some (vL z) ∧ st = [vL z]) ∨ (i = .freturn ∧ ∃ z, v = some (vF z) ∧ st = [vF z]) ∨ (i = .dreturn ∧ ∃ z, v = some (vD z) ∧ st = [vD z]) ∨ (i = .areturn ∧ ∃ z, v = some (vR z) ∧ st = [vR z]) ∨ (i = .return_ ∧ v = none ∧ st = [])
section MAIN
variable {p : Program} {l : Launch} {e : Env} {R : Room} {s : State} {m : MethodId} {args : Array Value} {below : List Frame} {meth : Method} {c : Code} {H : Heap} {locs : List Loc} {cells slots : Nat} {Q : State → Prop}
variable {κ : Nat → ClassId} {D : va_G} {α : Nat → Nat} {ix : Int → Int}
theorem run_go {mc ms pc : Nat} {ls : Array Slot} {st0 rest : List Value} {Qa : State → Outcome → State → Prop} {XC : String → State → State → Prop} {free : Addr → Prop} (hr : vx_Run p l e R s m args below meth c H locs cells slots mc ms (F0 m pc ls st0) rest Qa XC free)
    (kk : ∀ (v : Option Value) (st₀ t : State) (L : List Loc), st₀.heap = H → (∀ q ∈ L, free q.base) → Qa st₀ (.returned v) t → W p l e R s m args below meth c t.heap (locs ++ L) (cells + mc) (slots + ms) Q (F0 m (pc + 3) ls (v.toList ++ rest)))
    (kx : ∀ (q : Addr) (st₀ t : State) (L : List Loc) (E : String) (ce : Cell), st₀.heap = H → (∀ z ∈ L, free z.base) → XC E st₀ t → t.heap[q]? = some ce → ce.vm = .none → s.vm.findClass E = some ce.cls → vx_W p l e R s m args below meth c t.heap (locs ++ L) (cells + mc) (slots + ms) Q (F0 m pc ls rest) q) :
    W p l e R s m args below meth c H locs cells slots Q (F0 m pc ls st0) := by
  intro T hT X
  rcases hr T hT X with ⟨v, st₀, t, T', L, h0, X', hL, e1, e2, hq, st⟩ | ⟨q, st₀, t, T', L, E, ce, h0, X', hL, e1, e2, hxc, hce, hcv, hcl, st⟩
  · obtain ⟨t2, a1, b1⟩ := kk v st₀ t L h0 hL hq T' e1 X'
    exact ⟨t2, st t2 a1, b1⟩
  · obtain ⟨t2, a1, b1⟩ := kx q st₀ t L E ce h0 hL hxc hce hcv hcl T' e1 X'
    exact ⟨t2, st.trans a1, b1⟩
def EndR (κ : Nat → ClassId) (D : va_G) (α : Nat → Nat) (ix : Int → Int) (p : Program) (l : Launch) (e : Env) (R : Room) (s : State) (m : MethodId) (args : Array Value) (below : List Frame) (meth : Method) (c : Code) (mi : Nat) (Q : State → Prop) (r : Res × St) : Prop :=
  ∀ (pc : Nat) (en : Ent) (v : Option AV) (σ1 : St) (st1 : List AV) (H1 : Heap) (locs1 : List Loc) (cells1 slots1 : Nat) (ls1 : Array Slot), r = (.inl v, σ1) → cd mi pc = some en → retI en.1 en.2.2.1 v st1 → WDX κ D α ix σ1 H1 → va_S (AA α s.heap.size) s.heap H1 locs1 → cells1 ≤ R.cells → slots1 ≤ R.slots → W p l e R s m args below meth c H1 locs1 cells1 slots1 Q (F0 m pc ls1 (st1.map (cv α)))
def EndT (κ : Nat → ClassId) (D : va_G) (α : Nat → Nat) (ix : Int → Int) (p : Program) (l : Launch) (e : Env) (R : Room) (s : State) (m : MethodId) (args : Array Value) (below : List Frame) (meth : Method) (c : Code) (mi : Nat) (Q : State → Prop) (r : Res × St) : Prop :=
  ∀ (pc i n x : Nat) (y : Nat × Int) (σ1 : St) (H1 : Heap) (locs1 : List Loc) (cells1 slots1 : Nat) (ls1 : Array Slot), r = (.inr x, σ1) → cd mi pc = some (.new i, n, x, 1, y) → WDX κ D α ix σ1 H1 → va_S (AA α s.heap.size) s.heap H1 locs1 → cells1 + 1 ≤ R.cells → slots1 + 6 ≤ R.slots → ls1.size = mL mi → W p l e R s m args below meth c H1 locs1 cells1 slots1 Q (F0 m pc ls1 [])
def EndX (κ : Nat → ClassId) (D : va_G) (α : Nat → Nat) (ix : Int → Int) (p : Program) (l : Launch) (e : Env) (R : Room) (s : State) (m : MethodId) (args : Array Value) (below : List Frame) (meth : Method) (c : Code) (mi : Nat) (Q : State → Prop) (r : Res × St) : Prop :=
  ∀ (pc X q : Nat) (ce : Cell) (σ1 : St) (rest : List Value) (H1 : Heap) (locs1 : List Loc) (cells1 slots1 : Nat) (ls1 : Array Slot), r = (.inr X, σ1) → hd mi pc X = none → 0 < X → X < 6 → WDX κ D α ix σ1 H1 → va_S (AA α s.heap.size) s.heap H1 locs1 → cells1 ≤ R.cells → slots1 ≤ R.slots → H1[q]? = some ce → ce.vm = .none → s.vm.findClass (xN X) = some ce.cls → vx_W p l e R s m args below meth c H1 locs1 cells1 slots1 Q (F0 m pc ls1 rest) q
end MAIN
def FRAME (n : Nat) : Prop := ∀ (κ : Nat → ClassId) (D : va_G) (α : Nat → Nat) (ix : Int → Int) (p : Program) (l : Launch) (e : Env) (R : Room) (s : State) (m : MethodId) (args : Array Value) (below : List Frame) (meth : Method) (c : Code) (mi t pc : Nat) (L : Lo) (st : List AV) (σ : St) (r : Res × St) (H : Heap) (locs : List Loc) (cells slots : Nat) (ls : Array Slot) (Q : State → Prop),
  Ctx κ D α ix l p s m meth c mi → mFr mi ≤ R.frames → mLo mi ≤ R.locals → cells + t ≤ R.cells → slots + 6 * t ≤ R.slots →
  EndR κ D α ix p l e R s m args below meth c mi Q r → EndT κ D α ix p l e R s m args below meth c mi Q r → EndX κ D α ix p l e R s m args below meth c mi Q r →
  lv_has ls (mL mi) (lvs α 0 L) → WDX κ D α ix σ H → va_S (AA α s.heap.size) s.heap H locs → ex n t mi pc L st σ = some r → W p l e R s m args below meth c H locs cells slots Q (F0 m pc ls (st.map (cv α)))
def METS (n : Nat) : Prop := ∀ (κ : Nat → ClassId) (D : va_G) (α : Nat → Nat) (ix : Int → Int) (l : Launch) (x : Nat) (as : List AV) (σ : St) (r : Res × St) (k : Nat), l.stackTraces = false → SF α ix → x < 306 → wt as ≤ mL x → ex n (mBu x) x 0 (entry (mL x) as) [] σ = some r → MetX l κ D α ix x as σ r k
theorem wt_nil : wt [] = 0 := rfl
theorem wt_cons (v : AV) (r : List AV) : wt (v :: r) = (if c2 v then 2 else 1) + wt r := rfl
theorem lg_len (α : Nat → Nat) : ∀ as : List AV, (lg_sl (as.map (cv α))).length = wt as
  | [] => rfl
  | v :: r => by
    rw [wt_cons, ← lg_len α r]
    rcases v with z | z | z | z | z <;> simp [lg_sl, cv, c2, Value.category] <;> omega
theorem ent_sub (α : Nat → Nat) : ∀ (as : List AV) (i n : Nat) (q : Nat × Value), q ∈ lvs α i (entL as ++ List.replicate n none) → q ∈ lv_args i (as.map (cv α))
  | [], i, n, q, h => by
    exfalso
    have key : ∀ (n i : Nat), q ∉ lvs α i (List.replicate n none) := by
      intro n
      induction n with
      | zero => intro i hq; cases hq
      | succ n ih => intro i hq; exact ih (i + 1) hq
    exact key n i h
  | v :: r, i, n, q, h => by
    have h : q ∈ lvs α i (some v :: ((if c2 v then none :: entL r else entL r) ++ List.replicate n none)) := h
    show q ∈ (i, cv α v) :: lv_args (if (cv α v).category = 2 then i + 2 else i + 1) (r.map (cv α))
    rcases List.mem_cons.mp h with rfl | h
    · exact List.mem_cons_self
    · refine List.mem_cons_of_mem _ ?_
      rw [cv_cat]
      cases hc : c2 v with
      | true =>
        rw [hc] at h
        exact ent_sub α r (i + 2) n q h
      | false =>
        rw [hc] at h
        exact ent_sub α r (i + 1) n q h
theorem lw_at {x : Nat} (h : inLW x = true) : cdW x ∈ TS ∧ goodWord (cdW x) = true ∧ Cond.initialized (mY x).cls ∈ TS ∧ (mS x = true → Cond.static (mY x) ∈ TS) ∧ (mS x = false → Cond.instanceMethod (mY x) ∈ TS ∧ Cond.selects (mY x).cls (mY x) (mY x) ∈ TS) := by
  obtain ⟨e, he, h2⟩ := List.any_eq_true.mp h
  have e1 := Nat.eq_of_beq_eq_true h2
  subst e1
  have h3 := LW_ok e he
  unfold okLW at h3
  simp only [Bool.and_eq_true, decide_eq_true_eq] at h3
  obtain ⟨h4, h5, h6, h7⟩ := h3
  refine ⟨ts_mem h4 ?_, h5, ts_mem h6 rfl, fun hs => ?_, fun hs => ?_⟩
  · unfold cdW; split <;> rfl
  · rw [hs] at h7
    simp only [if_true, decide_eq_true_eq] at h7
    exact ts_mem h7 rfl
  · rw [hs] at h7
    simp only [Bool.and_eq_true, decide_eq_true_eq, Bool.false_eq_true, if_false] at h7
    exact ⟨ts_mem h7.1 rfl, ts_mem h7.2 rfl⟩
theorem cdW_t {x : Nat} (h : (mH x).isEmpty = true) : cdW x = .code (mY x) (mB x) (mL x) (mR x) := if_pos h
theorem cdW_f {x : Nat} (h : (mH x).isEmpty = false) : cdW x = .codeWith (mY x) (mB x) (mL x) (mR x) (mH x) := if_neg (by rw [h]; decide)
theorem cd_dec {mi pc : Nat} {en : Ent} (hm : mi < 306) (h : cd mi pc = some en) : decode (mB mi) pc = .ok (en.1, en.2.1) ∧ (eqN en.2.1 (lenI en.1) || eqN (lenI en.1) 0) = true ∧ okI mi pc en.1 en.2.2 = true := by
  have ok := cd_ok hm h
  unfold okB at ok
  rw [Bool.and_eq_true, Bool.and_eq_true] at ok
  exact ⟨of_decide_eq_true ok.1, ok.2.1, ok.2.2⟩
section MAIN2
variable {p : Program} {l : Launch} {e : Env} {R : Room} {s : State} {m : MethodId} {args : Array Value} {below : List Frame} {meth : Method} {c : Code}
variable {κ : Nat → ClassId} {D : va_G} {α : Nat → Nat} {ix : Int → Int}
set_option maxHeartbeats 4000000 in
/-- the ends of a method that is called by contract -/
theorem ends_R {mi nn : Nat} {r : Res × St} (C0 : Ctx κ D α ix l p s m meth c mi) (hn : s.heap.size = nn) (hr : meth.sig.returnType = mR mi) : EndR κ D α ix p l e (rmX mi) s m args below meth c mi (vx_MQ below (QcX κ D α ix r nn) (XcX κ D α ix r nn) args s (mBu mi) (6 * mBu mi) (AA α nn)) r := by
  intro pc en v σ1 st1 H1 locs1 cells1 slots1 ls1 hrr hcd hret hW hS hc hs
  obtain ⟨hx, hb, hml, hm, hown, hlocks, hl, htab, hC, hH, hSF⟩ := C0
  subst hn
  obtain ⟨hdec, hlen, hok⟩ := cd_dec hm hcd
  have hq : ∀ t : State, t.heap = H1 → QcX κ D α ix r s.heap.size args s (.returned (v.map (cv α))) t := fun t ht => ⟨⟨v, σ1, hrr, rfl, by rw [ht]; exact hW⟩, hS.F ht⟩
  obtain ⟨i, n, x, y⟩ := en
  dsimp only at hdec hlen hok hret
  rcases hret with ⟨rfl, z, rfl, rfl, hz⟩ | ⟨rfl, z, rfl, rfl⟩ | ⟨rfl, z, rfl, rfl⟩ | ⟨rfl, z, rfl, rfl⟩ | ⟨rfl, z, rfl, rfl⟩ | ⟨rfl, rfl, rfl⟩
  · have e1 : n = 1 := len_ok hlen rfl
    subst e1
    rcases of_decide_eq_true hok with h1 | ⟨h1, h2⟩
    · exact vx_ret (W.widen hc hs (W.iret hx hb (hr.trans h1) (fun t ht _ => hq t ht) hS.2.2 hdec hlocks))
    · exact vx_ret (W.widen hc hs (W.zret hx hb (hr.trans h1) (int_bool (hz h2)).1 (fun t ht _ => hq t ht) hS.2.2 hdec hlocks))
  · have e1 : n = 1 := len_ok hlen rfl
    subst e1
    exact vx_ret (W.widen hc hs (W.lret hx hb (hr.trans (of_decide_eq_true hok)) (fun t ht _ => hq t ht) hS.2.2 hdec hlocks))
  · have e1 : n = 1 := len_ok hlen rfl
    subst e1
    exact vx_ret (W.widen hc hs (W.fret hx hb (hr.trans (of_decide_eq_true hok)) (fun t ht _ => hq t ht) hS.2.2 hdec hlocks))
  · have e1 : n = 1 := len_ok hlen rfl
    subst e1
    exact vx_ret (W.widen hc hs (W.dret hx hb (hr.trans (of_decide_eq_true hok)) (fun t ht _ => hq t ht) hS.2.2 hdec hlocks))
  · have e1 : n = 1 := len_ok hlen rfl
    subst e1
    exact vx_ret (W.widen hc hs (W.aret hx hb (hr.trans (of_decide_eq_true hok)) (Or.inl ⟨_, rfl⟩) (Or.inr ⟨_, rfl⟩) (fun t ht _ => hq t ht) hS.2.2 hdec hlocks))
  · have e1 : n = 1 := len_ok hlen rfl
    subst e1
    exact vx_ret (W.widen hc hs (W.vret hx hb (hr.trans (of_decide_eq_true hok)) (fun t ht _ => hq t ht) hS.2.2 hdec hlocks))
set_option maxHeartbeats 4000000 in
theorem ends_T {mi nn : Nat} {r : Res × St} (C0 : Ctx κ D α ix l p s m meth c mi) (hn : s.heap.size = nn) : EndT κ D α ix p l e (rmX mi) s m args below meth c mi (vx_MQ below (QcX κ D α ix r nn) (XcX κ D α ix r nn) args s (mBu mi) (6 * mBu mi) (AA α nn)) r := by
  intro pc i n x y σ1 H1 locs1 cells1 slots1 ls1 hrr hcd hW hS hc hs hsz
  obtain ⟨hx, hb, hml, hm, hown, hlocks, hl, htab, hC, hH, hSF⟩ := C0
  subst hn
  obtain ⟨hdec, hlen, hok⟩ := cd_dec hm hcd
  dsimp only at hdec hlen
  have hok : inTH mi pc i x = true := hok
  obtain ⟨f, hf, h2⟩ := List.any_eq_true.mp hok
  simp only [Bool.and_eq_true] at h2
  have e1 := Nat.eq_of_beq_eq_true h2.1
  have e2 := Nat.eq_of_beq_eq_true h2.2.1
  have e3 := Nat.eq_of_beq_eq_true h2.2.2.1
  have e4 := Nat.eq_of_beq_eq_true h2.2.2.2
  have hth := List.all_eq_true.mp th_ok f hf
  obtain ⟨ix9, rx, x0, x1, x2, x5, hfit, hws⟩ := thw hf
  obtain ⟨sa, hstr⟩ := hC.2.2.2 f hf
  obtain ⟨f1, f2, f3, f4, f5, f6, f7, f8, f9⟩ := f
  dsimp only at e1 e2 e3 e4 hws hstr hth hfit
  subst e1; subst e2; subst e3; subst e4
  unfold okTH at hth
  simp only [Bool.and_eq_true, decide_eq_true_eq] at hth
  obtain ⟨d3, hd, hmC, hemp, hfr, hlo⟩ := hth
  rw [hmC] at hown
  have hn3 : n = 3 := len_ok hlen rfl
  subst hn3
  have hcw := hC.words (args := args)
  have hk := hcw _ (hws _ List.mem_cons_self)
  have hini := hcw _ (hws _ (List.mem_cons_of_mem _ List.mem_cons_self))
  have hat := fun w hw => hcw w (hws w (List.mem_cons_of_mem _ (List.mem_cons_of_mem _ hw)))
  have hgood : ∀ w ∈ Cond.classLink (cN 8) f4 (xN f3) :: Cond.initialized (xN f3) :: (px_at (cN 8) f6 (xN f3) ix9 rx "java/lang/RuntimeException" ["java/lang/Exception"]).filter vx_no, vx_ot w = true := fun w hw => by
    have h2 := (List.mem_filter.mp (hws w hw)).2
    unfold okw at h2
    rw [Bool.and_eq_true] at h2
    unfold vx_ot
    rw [h2.1]; rfl
  have hout : ∀ q9 : Nat, ∀ z ∈ c.exceptionTable.toList, covers z q9 = false := fun q9 z hz => by
    rw [htab, List.isEmpty_iff.mp hemp] at hz
    cases hz
  have hX : ∀ t : State, s.vm.Alike t.vm → H1.size ≤ t.heap.size → (∀ q : Nat, q < H1.size → t.heap[q]? = H1[q]?) → XcX κ D α ix r s.heap.size (xN f3) s t := by
    intro t _ h1 h2
    refine ⟨⟨f3, σ1, hrr, ?_, ?_, rfl, hW.1.kept (fun k q hk => h2 q.1 (hW.1 k q hk).lt), hW.2⟩, Nat.le_trans hS.1 h1, fun q g1 g2 => ?_⟩
    · have := List.all_eq_true.mp th_cb _ hf
      simp only [Bool.or_eq_true, Bool.and_eq_true] at this
      rcases this with (((h | h) | h) | h) | h <;> rw [Nat.eq_of_beq_eq_true h.1] <;> decide
    · have := List.all_eq_true.mp th_cb _ hf
      simp only [Bool.or_eq_true, Bool.and_eq_true] at this
      rcases this with (((h | h) | h) | h) | h <;> rw [Nat.eq_of_beq_eq_true h.1] <;> decide
    · rw [h2 q (Nat.lt_of_lt_of_le g1 hS.1)]
      exact hS.2.1 q g1 g2
  by_cases hw : f7 = 0
  · rw [if_pos hw] at hd
    simp only [Bool.and_eq_true, decide_eq_true_eq] at hd
    exact pv_throwS hx hb hl x0 x1 x2 x5 hown hfit (by decide +kernel) (fun n hn => by rw [List.mem_singleton.mp hn]; decide +kernel) hk hini hstr hat hgood hH.1 hH.2.1 hS (by rw [hsz, hml]) hdec d3 hd.1 hd.2.1 hd.2.2 (hout _) (by show 1 + 1 + 3 < mFr f1; omega) (by show 0 + (13 * (1 + 1 + 1) + 43) ≤ mLo f1; omega) hc hs hlocks hX hS.2.2 hc hs
  · rw [if_neg hw] at hd
    simp only [Bool.and_eq_true, decide_eq_true_eq] at hd
    exact pv_throwSW hx hb hl x0 x1 x2 x5 hown hfit (by decide +kernel) (fun n hn => by rw [List.mem_singleton.mp hn]; decide +kernel) hk hini hstr hat hgood hH.1 hH.2.1 hS (by rw [hsz, hml]) hdec d3 hd.1 hd.2.1 hd.2.2 (hout _) (by show 1 + 1 + 3 < mFr f1; omega) (by show 0 + (13 * (1 + 1 + 1) + 43) ≤ mLo f1; omega) hc hs hlocks hX hS.2.2 hc hs
theorem hx_link {z : HRow} (hz : z ∈ hxT) : Cond.classLink (cN 12) z.2.2.2.2.2.2.2.1 (xN z.2.2.2.1) ∈ TS ∧ Cond.castable (xN z.2.2.2.1) (xN z.2.2.2.1) ∈ TS ∧ mC z.1 = 12 ∧ z.2.2.2.2.2.2.2.1 ≠ 0 ∧ z.2.2.2.2.2.1 < mL z.1 ∧ z.2.2.2.1 < 6 ∧ 0 < z.2.2.2.1 := by
  have h := List.all_eq_true.mp hx_3 z hz
  unfold okHX at h
  simp only [Bool.and_eq_true] at h
  obtain ⟨h1, h2, h3, h4, h5, h6, h7, -⟩ := h
  exact ⟨ts_mem (of_decide_eq_true h1) rfl, ts_mem (of_decide_eq_true h2) rfl, of_decide_eq_true h3, of_decide_eq_true h4, lt_ok h5, lt_ok h6, lt_ok h7⟩
set_option maxHeartbeats 4000000 in
theorem ends_X {mi nn : Nat} {r : Res × St} (C0 : Ctx κ D α ix l p s m meth c mi) (hn : s.heap.size = nn) : EndX κ D α ix p l e (rmX mi) s m args below meth c mi (vx_MQ below (QcX κ D α ix r nn) (XcX κ D α ix r nn) args s (mBu mi) (6 * mBu mi) (AA α nn)) r := by
  intro pc X q ce σ1 rest H1 locs1 cells1 slots1 ls1 hrr hhd h0 h6 hW hS hc hs hce hcv hcl
  obtain ⟨hx, hb, hml, hm, hown, hlocks, hl, htab, hC, hH, hSF⟩ := C0
  subst hn
  unfold hd at hhd
  rw [hx_1] at hhd
  have hno := hdF_none _ _ _ _ hhd
  refine vx_outP (own := cN (mC mi)) hown hlocks (fun z hz => ?_) hce hcv hcl (fun t ht _ => ⟨⟨X, σ1, hrr, h0, h6, rfl, by rw [ht]; exact hW⟩, hS.F ht⟩) hS.2.2 hc hs
  rw [htab, hx_at hm] at hz
  unfold tableOf at hz
  rw [List.map_map] at hz
  obtain ⟨f, hf, rfl⟩ := List.mem_map.mp hz
  have hft := List.mem_filter.mp hf
  obtain ⟨g1, g2, g3, g4, g5, g6, g7⟩ := hx_link hft.1
  have e1 := Nat.eq_of_beq_eq_true hft.2
  rcases hno f hf with h | h
  · left
    show (decide _ && decide _) = false
    rw [Bool.and_eq_false_iff, decide_eq_false_iff_not, decide_eq_false_iff_not]
    by_cases h1 : f.2.1 ≤ pc
    · exact Or.inr fun h2 => h ⟨h1, h2⟩
    · exact Or.inl h1
  · right
    refine ⟨g4, xN f.2.2.2.1, ?_, hC.2.2.1 X f.2.2.2.1 h0 h6 g7 g6 (fun e => h e.symm)⟩
    rw [show mC mi = 12 by rw [← e1]; exact g3]
    exact hC.words _ g1
set_option maxHeartbeats 4000000 in
theorem met_of {n : Nat} (fr : FRAME n) : METS n := by
  intro κ D α ix l x as σ r k hl hSF hx6 hwt hex
  have hpn := m_at hx6
  cases hh : (mH x).isEmpty with
  | true =>
    refine vx_ofW (cc := mB x) (maxL := mL x) (ret := mR x) (ws' := []) hpn.1 (by rw [cdW_t hh]) ?_
    intro p e s m args below meth c s₁ B hml ht hPc
    obtain ⟨rfl, hsz, hC, hH, hW⟩ := hPc
    have hown : s.vm.findClass (cN (mC x)) = some m.cls := by rw [← hpn.2.2.2]; exact findClass_of_methodNamed B.named
    have C0 : Ctx κ D α ix l p s m meth c x := ⟨B.exec, B.bytes, hml, hx6, hown, B.notSynchronized, hl, by
      rw [List.isEmpty_iff.mp hh]
      rcases hct : c.exceptionTable.toList with _ | ⟨z, zs⟩
      · rfl
      · exact (ht z (by rw [hct]; exact List.mem_cons_self)).elim, hC, by rw [hsz]; exact hH, hSF⟩
    have hl9 := lv_entry (as.map (cv α)) (n := mL x) (by rw [lg_len]; exact hwt)
    rw [lg_entry_eq]
    have hl2 : lv_has ((lg_sl (as.map (cv α)) ++ List.replicate (mL x - (lg_sl (as.map (cv α))).length) Slot.unset).toArray) (mL x) (lvs α 0 (entry (mL x) as)) := ⟨hl9.1, hl9.2.1, fun q hq => hl9.2.2 q (ent_sub α as 0 _ q hq)⟩
    exact fr κ D α ix p l e (rmX x) s m _ below meth c x (mBu x) 0 (entry (mL x) as) [] σ r s.heap [] 0 0 _ _ C0 (Nat.le_refl _) (Nat.le_refl _) (by show 0 + mBu x ≤ mBu x; omega) (by show 0 + 6 * mBu x ≤ 6 * mBu x; omega) (ends_R C0 hsz B.returns) (ends_T C0 hsz) (ends_X C0 hsz) hl2 hW va_S.rf hex
  | false =>
    refine vx_ofWH (cc := mB x) (maxL := mL x) (ret := mR x) (hh := mH x) (ws' := []) hpn.1 (by rw [cdW_f hh]) ?_
    intro p e s m args below meth c s₁ B hml hPc
    have hcw : (Cond.codeWith (mY x) (mB x) (mL x) (mR x) (mH x)).before args s = true := by
      have := atoms_spec (ws := [cdW x]) B.pre (cdW x) List.mem_cons_self
      rwa [cdW_f hh] at this
    have htab := vx_table (x := mY x) B hcw
    obtain ⟨rfl, hsz, hC, hH, hW⟩ := hPc
    have hown : s.vm.findClass (cN (mC x)) = some m.cls := by rw [← hpn.2.2.2]; exact findClass_of_methodNamed B.named
    have C0 : Ctx κ D α ix l p s m meth c x := ⟨B.exec, B.bytes, hml, hx6, hown, B.notSynchronized, hl, htab, hC, by rw [hsz]; exact hH, hSF⟩
    have hl9 := lv_entry (as.map (cv α)) (n := mL x) (by rw [lg_len]; exact hwt)
    rw [lg_entry_eq]
    have hl2 : lv_has ((lg_sl (as.map (cv α)) ++ List.replicate (mL x - (lg_sl (as.map (cv α))).length) Slot.unset).toArray) (mL x) (lvs α 0 (entry (mL x) as)) := ⟨hl9.1, hl9.2.1, fun q hq => hl9.2.2 q (ent_sub α as 0 _ q hq)⟩
    exact fr κ D α ix p l e (rmX x) s m _ below meth c x (mBu x) 0 (entry (mL x) as) [] σ r s.heap [] 0 0 _ _ C0 (Nat.le_refl _) (Nat.le_refl _) (by show 0 + mBu x ≤ mBu x; omega) (by show 0 + 6 * mBu x ≤ 6 * mBu x; omega) (ends_R C0 hsz B.returns) (ends_T C0 hsz) (ends_X C0 hsz) hl2 hW va_S.rf hex
end MAIN2
theorem wt_sum (α : Nat → Nat) : ∀ st : List AV, ((st.map (cv α)).map fun v => v.category).sum = wt st
  | [] => rfl
  | v :: r => by
    rw [wt_cons, ← wt_sum α r]
    simp only [List.map_cons, List.sum_cons, cv_cat]
theorem wt_rev (st : List AV) : wt st.reverse = wt st := by
  unfold wt
  rw [List.map_reverse, List.sum_reverse]
section MAIN3
variable {p : Program} {l : Launch} {e : Env} {R : Room} {s : State} {m : MethodId} {args : Array Value} {below : List Frame} {meth : Method} {c : Code} {H : Heap} {locs : List Loc} {cells slots : Nat}
variable {κ : Nat → ClassId} {D : va_G} {α : Nat → Nat} {ix : Int → Int}
theorem stk_map (α : Nat → Nat) (st : List AV) (k : Nat) : st.map (cv α) = ((st.take k).reverse.map (cv α)).reverse ++ (st.drop k).map (cv α) := by
  rw [← List.map_reverse, List.reverse_reverse, ← List.map_append, List.take_append_drop]
theorem room_z (m : MethodId) (pc : Nat) (ls : Array Slot) (st : List Value) {st2 : List AV} (h : wt st2 ≤ 8) : 2 * (F0 m pc ls st).monitorRoom + ((st2.map (cv α)).map fun v => v.category).sum ≤ 8 := by
  rw [wt_sum]
  show 2 * 0 + wt st2 ≤ 8
  omega
theorem pre_S {as : List AV} {σ : St} {mi : Nat} (C0 : Ctx κ D α ix l p s m meth c mi) (hW : WDX κ D α ix σ H) (hS : va_S (AA α s.heap.size) s.heap H locs) : ∀ U : State, U.heap = H → s.WarmedH U.vm → PcX κ D α ix as σ H.size (as.map (cv α)).toArray U := by
  obtain ⟨hx, hb, hml, hm, hown, hlocks, hl, htab, hC, hH, hSF⟩ := C0
  intro U hU hWm
  exact ⟨rfl, by rw [hU], hC.moved hWm, hH.moved hSF hS hU hWm, by rw [hU]; exact hW⟩
theorem good_w {x : Nat} (h : goodWord (cdW x) = true) : ∀ w ∈ [cdW x], ∀ (a' : Array Value) (U : State), s.WarmedH U.vm → w.before args s = true → w.before a' U = true := by
  intro w hw a' U hWm hb
  rw [List.mem_singleton.mp hw] at hb ⊢
  exact word_at hWm (good_of_word h) hb
set_option maxHeartbeats 4000000 in
theorem run_S {mi pc i n x y w : Nat} {z : Int} {st : List AV} {σ : St} {rr : Res × St} {ls : Array Slot} (C0 : Ctx κ D α ix l p s m meth c mi) (hf : mFr mi ≤ R.frames) (hlo : mLo mi ≤ R.locals) (hcd : cd mi pc = some (.invokestatic i, n, x, y, w, z))
    (hk : y ≤ st.length ∧ wt (st.drop y) ≤ 8 ∧ wt (st.take y) ≤ mL x) (hlsz : ls.size = mL mi) (hc : cells + mBu x ≤ R.cells ∧ slots + 6 * mBu x ≤ R.slots)
    (hW : WDX κ D α ix σ H) (hS : va_S (AA α s.heap.size) s.heap H locs) (hM : MetX l κ D α ix x (st.take y).reverse σ rr H.size) :
    vx_Run p l e R s m args below meth c H locs cells slots (mBu x) (6 * mBu x) (F0 m pc ls (st.map (cv α))) ((st.drop y).map (cv α)) (QcX κ D α ix rr H.size ((st.take y).reverse.map (cv α)).toArray) (XcX κ D α ix rr H.size) (AA α H.size) := by
  have C1 := C0
  obtain ⟨hx, hb, hml, hm, hown, hlocks, hl, htab, hC, hH, hSF⟩ := C0
  obtain ⟨hdec, hlen, hok⟩ := cd_dec hm hcd
  dsimp only at hdec hlen
  have hn : n = 3 := len_ok hlen rfl
  subst hn
  have hok : (okC mi (x, y, w, z) && (mS x && (decide ((parseMethodDescriptor (mY x).desc).map (fun d => d.parameters.length) = some y) && (inLM (mC mi) i x || (inLN (mC mi) i x && (mH x).isEmpty))))) = true := hok
  simp only [Bool.and_eq_true, okC, decide_eq_true_eq] at hok
  obtain ⟨⟨k1, k2, k3, k4⟩, k5, k6, k7⟩ := hok
  have k3 := Nat.le_of_ble_eq_true k3
  have k4 := Nat.le_of_ble_eq_true k4
  obtain ⟨w1, w2, w3, w4, -⟩ := lw_at k1
  have hcw := hC.words (args := args)
  have hx6 : x < 306 := by
    rcases Nat.lt_or_ge x 306 with h | h
    · exact h
    · exfalso
      have hL : mT.length = 306 := by decide +kernel
      have : mrw x = mr_0 := by
        unfold mrw
        rw [List.getD_eq_getElem?_getD, List.getElem?_eq_none (by omega)]
        rfl
      have h2 : mS x = false := by show (mrw x).2.2.2.2.1 = false; rw [this]; rfl
      rw [h2] at k5; cases k5
  have hpn := m_at hx6
  have hlen2 : ((st.take y).reverse.map (cv α)).length = y := by simp; omega
  have hpar : ∀ sig, parseMethodDescriptor (mY x).desc = some sig → y = sig.parameters.length := fun sig hs => by
    rw [hs] at k6
    exact (Option.some.inj k6).symm
  have hws : ∀ w ∈ [cdW x], ∀ (a' : Array Value) (U : State), s.WarmedH U.vm → w.before a' U = true := fun w hw a' U hWm => good_w (args := args) w2 w hw a' U hWm (by rw [List.mem_singleton.mp hw]; exact hcw _ w1)
  rcases Bool.or_eq_true _ _ |>.mp k7 with k7 | k7
  · cases hh : (mH x).isEmpty with
    | true =>
      have hcode := hcw _ w1
      rw [cdW_t hh] at hcode
      exact vx_runS (Ts := TS) (cc := mB mi) (nL := mL mi) (n := y) (own := cN (mC mi)) (index := i) (bytes := mB x) (maxL := mL x) (ret := mR x) ⟨hx, hb, hml, hown, hcw⟩ hM
        ⟨⟨rfl, rfl, Nat.le_trans k3 hf, Nat.le_trans k4 hlo, hws, by rw [cdW_t hh]; exact List.mem_singleton.mpr rfl, hcode, hcw _ w3, ⟨hpn.2.1, hpn.2.2.1⟩, hpar, hcw _ (inLM_ok k7)⟩, hcw _ (w4 k5)⟩
        ⟨PcX.blind, pre_S C1 hW hS⟩ rfl hlen2 hlsz (stk_map α st y) (room_z m pc ls _ hk.2.1) hdec hc
    | false =>
      have hcode := hcw _ w1
      rw [cdW_f hh] at hcode
      exact vx_runSX (Ts := TS) (cc := mB mi) (nL := mL mi) (n := y) (own := cN (mC mi)) (index := i) (bytes := mB x) (maxL := mL x) (ret := mR x) (hh := mH x) ⟨hx, hb, hml, hown, hcw⟩ hM
        ⟨⟨rfl, rfl, Nat.le_trans k3 hf, Nat.le_trans k4 hlo, hws, by rw [cdW_f hh]; exact List.mem_singleton.mpr rfl⟩, hcode, hcw _ w3, ⟨hpn.2.1, hpn.2.2.1⟩, hpar, hcw _ (inLM_ok k7), hcw _ (w4 k5)⟩
        ⟨PcX.blind, pre_S C1 hW hS⟩ rfl hlen2 hlsz (stk_map α st y) (room_z m pc ls _ hk.2.1) hdec hc
  · rw [Bool.and_eq_true] at k7
    obtain ⟨k7, hh⟩ := k7
    have hcode := hcw _ w1
    rw [cdW_t hh] at hcode
    exact vx_runSN (Ts := TS) (cc := mB mi) (nL := mL mi) (n := y) (own := cN (mC mi)) (index := i) (host := hostN) (bytes := mB x) (maxL := mL x) (ret := mR x) ⟨hx, hb, hml, hown, hcw⟩ hM
      ⟨⟨⟨rfl, rfl, Nat.le_trans k3 hf, Nat.le_trans k4 hlo, hws, by rw [cdW_t hh]; exact List.mem_singleton.mpr rfl⟩, hcode, hcw _ w3, ⟨hpn.2.1, hpn.2.2.1⟩, hpar, hcw _ (inLN_ok k7)⟩, hcw _ (w4 k5), trivial⟩
      ⟨PcX.blind, pre_S C1 hW hS⟩ rfl hlen2 hlsz (stk_map α st y) (room_z m pc ls _ hk.2.1) hdec hc
theorem rcv_ok {as : List AV} {ci : Nat} (h : rcv as ci = true) : ∃ o r, as.reverse = vR o :: r ∧ lc o = ci := by
  unfold rcv at h
  cases hg : as.getLast? with
  | none => rw [hg] at h; cases h
  | some v =>
    rw [hg] at h
    rcases v with z | z | z | z | o
    · cases h
    · cases h
    · cases h
    · cases h
    · have h : (lc o == ci) = true := h
      rw [← List.head?_reverse] at hg
      cases hr : as.reverse with
      | nil => rw [hr] at hg; cases hg
      | cons a r =>
        rw [hr] at hg
        cases hg
        exact ⟨o, r, rfl, by simpa using h⟩
set_option maxHeartbeats 4000000 in
theorem run_V {mi pc i n x y w : Nat} {z : Int} {st : List AV} {σ : St} {rr : Res × St} {ls : Array Slot} (C0 : Ctx κ D α ix l p s m meth c mi) (hf : mFr mi ≤ R.frames) (hlo : mLo mi ≤ R.locals) (hcd : cd mi pc = some (.invokevirtual i, n, x, y, w, z)) (hr : rcv (st.take y) w = true)
    (hk : y ≤ st.length ∧ wt (st.drop y) ≤ 8 ∧ wt (st.take y) ≤ mL x) (hlsz : ls.size = mL mi) (hc : cells + mBu x ≤ R.cells ∧ slots + 6 * mBu x ≤ R.slots)
    (hW : WDX κ D α ix σ H) (hS : va_S (AA α s.heap.size) s.heap H locs) (hM : MetX l κ D α ix x (st.take y).reverse σ rr H.size) :
    vx_Run p l e R s m args below meth c H locs cells slots (mBu x) (6 * mBu x) (F0 m pc ls (st.map (cv α))) ((st.drop y).map (cv α)) (QcX κ D α ix rr H.size ((st.take y).reverse.map (cv α)).toArray) (XcX κ D α ix rr H.size) (AA α H.size) := by
  have C1 := C0
  obtain ⟨hx, hb, hml, hm, hown, hlocks, hl, htab, hC, hH, hSF⟩ := C0
  obtain ⟨hdec, hlen, hok⟩ := cd_dec hm hcd
  dsimp only at hdec hlen
  have hn : n = 3 := len_ok hlen rfl
  subst hn
  have hok : (okC mi (x, y, w, z) && (!mS x && (decide ((parseMethodDescriptor (mY x).desc).map (fun d => d.parameters.length + 1) = some y) && (inLM (mC mi) i x && ((mH x).isEmpty && (eqN w (mC x) && ltN (mC x) 10)))))) = true := hok
  simp only [Bool.and_eq_true, okC, decide_eq_true_eq] at hok
  obtain ⟨⟨k1, k2, k3, k4⟩, k5, k6, k7, hh, k8, k9⟩ := hok
  have k3 := Nat.le_of_ble_eq_true k3
  have k4 := Nat.le_of_ble_eq_true k4
  have k5 : mS x = false := by simpa using k5
  have k8 := Nat.eq_of_beq_eq_true k8
  have k9 := lt_ok k9
  obtain ⟨w1, w2, w3, -, w4⟩ := lw_at k1
  obtain ⟨w4, w5⟩ := w4 k5
  have hcw := hC.words (args := args)
  have hx6 : x < 306 := by
    rcases Nat.lt_or_ge x 306 with h | h
    · exact h
    · exfalso
      have : LW.all (fun e => decide (e.1 < 306)) = true := by decide +kernel
      obtain ⟨e, he, h2⟩ := List.any_eq_true.mp k1
      have h3 := of_decide_eq_true (List.all_eq_true.mp this e he)
      have := Nat.eq_of_beq_eq_true h2
      omega
  have hpn := m_at hx6
  obtain ⟨o, r, ho, hlc⟩ := rcv_ok hr
  have hlen1 : (st.take y).reverse.length = y := by simp; omega
  have hlen2 : (r.map (cv α)).length = y - 1 := by
    rw [ho] at hlen1
    simp only [List.length_cons] at hlen1
    simp; omega
  have hpar : ∀ sig, parseMethodDescriptor (mY x).desc = some sig → y - 1 = sig.parameters.length := fun sig hs => by
    rw [hs] at k6
    have := Option.some.inj k6
    dsimp only at this
    omega
  have hws : ∀ w ∈ [cdW x], ∀ (a' : Array Value) (U : State), s.WarmedH U.vm → w.before a' U = true := fun w hw a' U hWm => good_w (args := args) w2 w hw a' U hWm (by rw [List.mem_singleton.mp hw]; exact hcw _ w1)
  have hcode := hcw _ w1
  rw [cdW_t hh] at hcode
  have ho79 : o < 79 := lc_lt (by omega)
  have hg := wd_get (κ := κ) (α := α) (σ := σ) ho79
  rw [cE_obj (by omega), hlc, k8] at hg
  have hrec := va_recv hC.1 hW.1 (clA_get k9) hg
  have hst : st.map (cv α) = (r.map (cv α)).reverse ++ Value.ref (α o) :: (st.drop y).map (cv α) := by
    rw [stk_map α st y, ho]
    simp [cv_vR]
  have hM2 := hM
  rw [ho] at hM2 ⊢
  exact vx_runV (Ts := TS) (cc := mB mi) (nL := mL mi) (n := y - 1) (own := cN (mC mi)) (C := (mY x).cls) (index := i) (bytes := mB x) (maxL := mL x) (ret := mR x) (b := α o) (As := r.map (cv α)) ⟨hx, hb, hml, hown, hcw⟩ hM2
    ⟨⟨rfl, rfl, Nat.le_trans k3 hf, Nat.le_trans k4 hlo, hws, by rw [cdW_t hh]; exact List.mem_singleton.mpr rfl, hcode, hcw _ w3, ⟨hpn.2.1, hpn.2.2.1⟩, hpar, hcw _ (inLM_ok k7)⟩, hcw _ w4, hcw _ w5⟩
    ⟨PcX.blind, by rw [hpn.2.2.2]; exact hrec, pre_S C1 hW hS⟩ rfl hlen2 hlsz hst (room_z m pc ls _ hk.2.1) hdec hc
set_option maxHeartbeats 4000000 in
/-- behind a call: back, or with an exception to this frame's handler or out -/
theorem go_call {k mi pc x y t : Nat} {L : Lo} {st : List AV} {rr r : Res × St} {ls : Array Slot} {Q : State → Prop} {σ : St} (fr : FRAME k) (C0 : Ctx κ D α ix l p s m meth c mi) (hf : mFr mi ≤ R.frames) (hlo : mLo mi ≤ R.locals) (hb : mBu x ≤ t) (hcs : cells + t ≤ R.cells) (hss : slots + 6 * t ≤ R.slots)
    (ER : EndR κ D α ix p l e R s m args below meth c mi Q r) (ET : EndT κ D α ix p l e R s m args below meth c mi Q r) (EX : EndX κ D α ix p l e R s m args below meth c mi Q r)
    (hl : lv_has ls (mL mi) (lvs α 0 L)) (hW : WDX κ D α ix σ H) (hS : va_S (AA α s.heap.size) s.heap H locs)
    (hrun : vx_Run p l e R s m args below meth c H locs cells slots (mBu x) (6 * mBu x) (F0 m pc ls (st.map (cv α))) ((st.drop y).map (cv α)) (QcX κ D α ix rr H.size ((st.take y).reverse.map (cv α)).toArray) (XcX κ D α ix rr H.size) (AA α H.size))
    (hgo : (match some rr with
      | none => none
      | some (.inl v, σ1) => ex k (t - mBu x) mi (pc + 3) L (optL v ++ st.drop y) σ1
      | some (.inr X, σ1) => (match hd mi pc X with
        | none => some (.inr X, σ1)
        | some q => ex k (t - mBu x) mi q.1 (lkill L q.2) [] σ1)) = some r) : W p l e R s m args below meth c H locs cells slots Q (F0 m pc ls (st.map (cv α))) := by
  have hAm : ∀ q, q < H.size → AA α H.size q → AA α s.heap.size q := fun q _ h => AA.mono hS.1 q h
  have hAf : ∀ q, AA α H.size q → AA α s.heap.size q := fun q h => AA.mono hS.1 q h
  refine run_go hrun (fun v st₀ t1 L1 h0 hL hq => ?_) (fun q st₀ t1 L1 E ce h0 hL hxc hce hcv hcl => ?_)
  · obtain ⟨⟨v1, σ1, hrr, hv, hw1⟩, hF⟩ := hq
    subst hrr
    have hv := Outcome.returned.inj hv
    subst hv
    obtain ⟨-, -, hS1⟩ := vx_keep h0 rfl hS hAm hAf hL hF
    have hgo : ex k (t - mBu x) mi (pc + 3) L (optL v1 ++ st.drop y) σ1 = some r := hgo
    have := fr κ D α ix p l e R s m args below meth c mi (t - mBu x) (pc + 3) L (optL v1 ++ st.drop y) σ1 r t1.heap (locs ++ L1) (cells + mBu x) (slots + 6 * mBu x) ls Q C0 hf hlo (by omega) (by omega) ER ET EX hl hw1 hS1 hgo
    rw [show (v1.map (cv α)).toList ++ (st.drop y).map (cv α) = (optL v1 ++ st.drop y).map (cv α) by cases v1 <;> rfl]
    exact this
  · obtain ⟨⟨X, σ1, hrr, x0, x6, hE, hw1⟩, hF⟩ := hxc
    subst hrr
    subst hE
    obtain ⟨-, -, hS1⟩ := vx_keep h0 rfl hS hAm hAf hL hF
    have C1 := C0
    obtain ⟨hx, hb0, hml, hm, hown, hlocks, hlt, htab, hC, hH, hSF⟩ := C0
    have hgo : (match hd mi pc X with
        | none => some (.inr X, σ1)
        | some q => ex k (t - mBu x) mi q.1 (lkill L q.2) [] σ1) = some r := hgo
    cases hhd : hd mi pc X with
    | none =>
      rw [hhd] at hgo
      exact EX pc X q ce σ1 _ t1.heap _ _ _ ls (Option.some.inj hgo).symm hhd x0 x6 hw1 hS1 (by omega) (by omega) hce hcv hcl
    | some q9 =>
      rw [hhd] at hgo
      have hgo : ex k (t - mBu x) mi q9.1 (lkill L q9.2) [] σ1 = some r := hgo
      unfold hd at hhd
      rw [hx_1] at hhd
      obtain ⟨pre, f, suf, g1, g2, g3, g4, g5, g6⟩ := hdF_some _ _ _ _ _ hhd
      have hfm : f ∈ hxT := (List.mem_filter.mp (show f ∈ HX mi by unfold HX; rw [g1]; simp)).1
      obtain ⟨f1, f2, f3, f4, f5, f6, f7⟩ := hx_link hfm
      subst g5
      have htab2 : c.exceptionTable.toList = (pre.map (fun e => (e.2.1, e.2.2.1, e.2.2.2.2.2.2.1, e.2.2.2.2.2.2.2.1))).map (fun q => (⟨q.1, q.2.1, q.2.2.1, q.2.2.2⟩ : ExceptionTableEntry)) ++ (⟨f.2.1, f.2.2.1, f.2.2.2.2.2.2.1, f.2.2.2.2.2.2.2.1⟩ : ExceptionTableEntry) :: (suf.map (fun e => (e.2.1, e.2.2.1, e.2.2.2.2.2.2.1, e.2.2.2.2.2.2.2.1))).map (fun q => (⟨q.1, q.2.1, q.2.2.1, q.2.2.2⟩ : ExceptionTableEntry)) := by
        rw [htab, hx_at hm]
        unfold tableOf HX
        rw [g1]
        simp
      have hmC : mC mi = 12 := by rw [← g6]; exact f3
      rw [hmC] at hown
      have hcw := hC.words (args := args)
      refine vx_catch (own := cN 12) (name := xN f.2.2.2.1) hown _ _ _ htab2 (fun z hz => ?_) (by show (decide _ && decide _) = true; rw [decide_eq_true g3.1, decide_eq_true g3.2]; rfl) f4 (hcw _ f1) (by rw [← g4]; exact hcw _ f2) hce hcv hcl ?_
      · rw [List.map_map] at hz
        obtain ⟨z, hz2, rfl⟩ := List.mem_map.mp hz
        have hzm : z ∈ hxT := (List.mem_filter.mp (show z ∈ HX mi by unfold HX; rw [g1]; exact List.mem_append_left _ hz2)).1
        obtain ⟨z1, z2, z3, z4, z5, z6, z7⟩ := hx_link hzm
        rcases g2 z hz2 with h | h
        · left
          show (decide _ && decide _) = false
          rw [Bool.and_eq_false_iff, decide_eq_false_iff_not, decide_eq_false_iff_not]
          by_cases h1 : z.2.1 ≤ pc
          · exact Or.inr fun h2 => h ⟨h1, h2⟩
          · exact Or.inl h1
        · exact Or.inr ⟨z4, xN z.2.2.2.1, hcw _ z1, hC.2.2.1 X z.2.2.2.1 x0 x6 z7 z6 (fun e => h e.symm)⟩
      · have key : ∀ ls1 : Array Slot, lv_has ls1 (mL mi) (lvs α 0 (lkill L f.2.2.2.2.2.1)) → W p l e R s m args below meth c t1.heap (locs ++ L1) (cells + mBu x) (slots + 6 * mBu x) Q (F0 m f.2.2.2.2.1 ls1 []) := fun ls1 hl1 =>
          fr κ D α ix p l e R s m args below meth c mi (t - mBu x) f.2.2.2.2.1 (lkill L f.2.2.2.2.2.1) [] σ1 r t1.heap (locs ++ L1) (cells + mBu x) (slots + 6 * mBu x) ls1 Q C1 hf hlo (by omega) (by omega) ER ET EX hl1 hw1 hS1 hgo
        have hkill : ∀ ls1 : Array Slot, lv_has ls1 (mL mi) ((f.2.2.2.2.2.1, Value.ref q) :: (lvs α 0 L).filter (fun q9 => !(q9.1 == f.2.2.2.2.2.1) && !(q9.1 + 1 == f.2.2.2.2.2.1 && q9.2.category == 2))) → lv_has ls1 (mL mi) (lvs α 0 (lkill L f.2.2.2.2.2.1)) := by
          intro ls1 h
          refine ⟨h.1, h.2.1, fun q9 hq9 => h.2.2 q9 (List.mem_cons_of_mem _ (List.mem_filter.mpr ?_))⟩
          obtain ⟨h1, h2, h4⟩ := lkill_sub L f.2.2.2.2.2.1 0 q9 hq9
          refine ⟨h1, ?_⟩
          rw [Nat.zero_add] at h2 h4
          simp only [Bool.and_eq_true, Bool.not_eq_true', beq_eq_false_iff_ne, ne_eq, Bool.and_eq_false_iff]
          refine ⟨h2, ?_⟩
          by_cases e : q9.1 + 1 = f.2.2.2.2.2.1
          · exact Or.inr fun e2 => h4 ⟨e, e2⟩
          · exact Or.inl e
        have h3 := List.all_eq_true.mp hx_3 f hfm
        unfold okHX at h3
        simp only [Bool.and_eq_true] at h3
        obtain ⟨-, -, -, -, -, -, -, h3⟩ := h3
        rw [g6] at h3 f5
        rcases Bool.or_eq_true _ _ |>.mp h3 with h3 | h3
        · rw [Bool.and_eq_true] at h3
          have e2 := Nat.eq_of_beq_eq_true h3.2
          refine lv_astore hx hb0 (of_decide_eq_true h3.1) hl f5 rfl (fun ls1 hl1 => ?_)
          have := key ls1 (hkill ls1 hl1)
          rw [e2] at this
          exact this
        · rw [Bool.and_eq_true] at h3
          have e2 := Nat.eq_of_beq_eq_true h3.2
          have key2 : ∀ ls1 : Array Slot, lv_has ls1 (mL mi) ((f.2.2.2.2.2.1, Value.ref q) :: (lvs α 0 L).filter (fun q9 => !(q9.1 == f.2.2.2.2.2.1) && !(q9.1 + 1 == f.2.2.2.2.2.1 && q9.2.category == 2))) → W p l e R s m args below meth c t1.heap (locs ++ L1) (cells + mBu x) (slots + 6 * mBu x) Q (F0 m (f.2.2.2.2.2.2.1 + 1) ls1 []) := fun ls1 hl1 => by
            have := key ls1 (hkill ls1 hl1)
            rw [e2] at this
            exact this
          generalize hsl : f.2.2.2.2.2.1 = sl at h3 f5 key2
          have h4 := h3.1
          match sl, h4 with
          | 2, h4 => exact lv_astore_n (k := 2) (i := 2) hx hb0 (of_decide_eq_true h4) rfl hl f5 rfl key2
          | 3, h4 => exact lv_astore_n (k := 3) (i := 3) hx hb0 (of_decide_eq_true h4) rfl hl f5 rfl key2
          | 1, h4 => exact lv_astore_n (k := 1) (i := 1) hx hb0 (of_decide_eq_true h4) rfl hl f5 rfl key2
          | 0, h4 => cases h4
          | n + 4, h4 => cases h4
end MAIN3
theorem bu_eq {mi x : Nat} {y : Nat × (Nat × Int)} (h : okC mi (x, y) = true) : y.2.2.toNat = mBu x := by
  unfold okC at h
  simp only [Bool.and_eq_true, decide_eq_true_eq] at h
  have := h.2.1
  rw [this]
  rfl
theorem bcall_some {i : Jvm.ClassFile.Instr} {n x y w t mi pc : Nat} {z : Int} {L : Lo} {st : List AV} {σ : St} {E : EF} {r : Res × St} (h : bcall (i, n, x, y, w, z) t mi pc L st σ E = some r) : (y ≤ st.length ∧ wt (st.drop y) ≤ 8 ∧ wt (st.take y) ≤ mL x ∧ z.toNat ≤ t) ∧ (match E z.toNat x 0 (entry (mL x) (st.take y).reverse) [] σ with
    | none => none
    | some (.inl v, σ') => E (t - z.toNat) mi (pc + 3) L (optL v ++ st.drop y) σ'
    | some (.inr X, σ') => (match hd mi pc X with
      | none => some (.inr X, σ')
      | some q => E (t - z.toNat) mi q.1 (lkill L q.2) [] σ')) = some r := by
  unfold bcall at h
  exact if_some h
set_option maxHeartbeats 8000000 in
theorem frame_succ {k : Nat} (fr : FRAME k) : FRAME (k + 1) := by
  intro κ D α ix p l e R s m args below meth c mi t pc L st σ r H locs cells slots ls Q C0 hf hlo hc hs ER ET EX hl hW hS hex
  have C1 := C0
  obtain ⟨hx, hb, hml, hm, hown, hlocks, hlt, htab, hC, hH, hSF⟩ := C0
  rw [ex_succ] at hex
  cases hcd : cd mi pc with
  | none => rw [hcd] at hex; cases hex
  | some en =>
    rw [hcd] at hex
    have hex : bod en t mi pc L st σ (ex k) = some r := hex
    by_cases hiS : isS en.1 = true
    · rw [bod_ss hiS] at hex
      have hb9 : ¬ AA α s.heap.size (α 79) := by
        rintro (⟨c9, hc9, e9⟩ | e9)
        · exact hSF.2.1 c9 hc9 e9.symm
        · have := hH.2.2.2; omega
      have e1 := hW.2
      refine snd_ss (A := AA α s.heap.size) (H0 := s.heap) hx hb hm hown hC.words hC.1 (wd_D hSF _) (fun H1 locs1 h1 => ?_) (by rw [e1]; exact hSF.2.2) hcd hl hW.1 hS hex ?_
      · have h2 := hH.2.2.1.kept (h1.2.1 _ hH.2.2.2 hb9)
        simp only [e1]
        exact h2
      · intro pc1 L1 st1 σ1 H1 locs1 ls1 hk hg hl1 hP1 hS1
        exact fr κ D α ix p l e R s m args below meth c mi t pc1 L1 st1 σ1 r H1 locs1 cells slots ls1 Q C1 hf hlo hc hs ER ET EX hl1 ⟨hP1, fun j => by rw [hg, e1]⟩ hS1 hk
    · obtain ⟨i, n, x, y, w, z⟩ := en
      have hcr : cells ≤ R.cells := by omega
      have hsr : slots ≤ R.slots := by omega
      cases i <;> first | exact absurd rfl hiS | skip
      case ireturn =>
        obtain ⟨v, r1, rfl, h⟩ := eP_some hex
        cases r1 with
        | cons a b => cases h
        | nil =>
          obtain ⟨a, rfl, h⟩ := eI_some h
          obtain ⟨h1, h⟩ := if_some h
          cases h
          exact ER pc _ (some (vI a)) σ [vI a] H locs cells slots ls rfl hcd (Or.inl ⟨rfl, a, rfl, rfl, h1⟩) hW hS hcr hsr
      case lreturn =>
        obtain ⟨v, r1, rfl, h⟩ := eP_some hex
        cases r1 with
        | cons a b => cases h
        | nil =>
          obtain ⟨a, rfl, h⟩ := eL_some h
          cases h
          exact ER pc _ (some (vL a)) σ [vL a] H locs cells slots ls rfl hcd (Or.inr (Or.inl ⟨rfl, a, rfl, rfl⟩)) hW hS hcr hsr
      case freturn =>
        obtain ⟨v, r1, rfl, h⟩ := eP_some hex
        cases r1 with
        | cons a b => cases h
        | nil =>
          obtain ⟨a, rfl, h⟩ := eF_some h
          cases h
          exact ER pc _ (some (vF a)) σ [vF a] H locs cells slots ls rfl hcd (Or.inr (Or.inr (Or.inl ⟨rfl, a, rfl, rfl⟩))) hW hS hcr hsr
      case dreturn =>
        obtain ⟨v, r1, rfl, h⟩ := eP_some hex
        cases r1 with
        | cons a b => cases h
        | nil =>
          obtain ⟨a, rfl, h⟩ := eD_some h
          cases h
          exact ER pc _ (some (vD a)) σ [vD a] H locs cells slots ls rfl hcd (Or.inr (Or.inr (Or.inr (Or.inl ⟨rfl, a, rfl, rfl⟩)))) hW hS hcr hsr
      case areturn =>
        obtain ⟨v, r1, rfl, h⟩ := eP_some hex
        cases r1 with
        | cons a b => cases h
        | nil =>
          obtain ⟨a, rfl, h⟩ := eR_some h
          cases h
          exact ER pc _ (some (vR a)) σ [vR a] H locs cells slots ls rfl hcd (Or.inr (Or.inr (Or.inr (Or.inr (Or.inl ⟨rfl, a, rfl, rfl⟩))))) hW hS hcr hsr
      case return_ =>
        cases st with
        | cons a b => cases hex
        | nil =>
          cases hex
          exact ER pc _ none σ [] H locs cells slots ls rfl hcd (Or.inr (Or.inr (Or.inr (Or.inr (Or.inr ⟨rfl, rfl, rfl⟩))))) hW hS hcr hsr
      case new i9 hx9 =>
        obtain ⟨⟨h1, h2, h3⟩, h⟩ := if_some hex
        dsimp only at h1 h
        subst h1
        subst h3
        cases h
        exact ET pc _ _ _ _ σ H locs cells slots ls rfl hcd hW hS (by omega) (by omega) hl.1
      case invokestatic i9 hx9 =>
        have hex : bcall (.invokestatic i9, n, x, y, w, z) t mi pc L st σ (ex k) = some r := hex
        obtain ⟨⟨h1, h2, h3, h4⟩, h⟩ := bcall_some hex
        obtain ⟨-, -, hok⟩ := cd_dec hm hcd
        have hoc : okC mi (x, y, w, z) = true := by
          have hok : (okC mi (x, y, w, z) && _) = true := hok
          exact (Bool.and_eq_true _ _ |>.mp hok).1
        have hbu := bu_eq hoc
        dsimp only at hbu
        rw [hbu] at h h4
        cases hcl : ex k (mBu x) x 0 (entry (mL x) (st.take y).reverse) [] σ with
        | none => rw [hcl] at h; cases h
        | some rr =>
          rw [hcl] at h
          have hM := fun hx6 => met_of fr κ D α ix l x (st.take y).reverse σ rr H.size hlt hSF hx6 (by rw [wt_rev]; exact h3) hcl
          have hx6 : x < 306 := by
            have h5 := (Bool.and_eq_true _ _ |>.mp (show (inLW x && _) = true from hoc)).1
            have : LW.all (fun e => decide (e.1 < 306)) = true := by decide +kernel
            obtain ⟨e9, he9, h6⟩ := List.any_eq_true.mp h5
            have h7 := of_decide_eq_true (List.all_eq_true.mp this e9 he9)
            have := Nat.eq_of_beq_eq_true h6
            omega
          exact go_call fr C1 hf hlo h4 hc hs ER ET EX hl hW hS (run_S C1 hf hlo hcd ⟨h1, h2, h3⟩ hl.1 ⟨by omega, by omega⟩ hW hS (hM hx6)) h
      case invokevirtual i9 hx9 =>
        obtain ⟨hrv, hex⟩ := if_some hex
        dsimp only at hrv
        obtain ⟨⟨h1, h2, h3, h4⟩, h⟩ := bcall_some hex
        obtain ⟨-, -, hok⟩ := cd_dec hm hcd
        have hoc : okC mi (x, y, w, z) = true := by
          have hok : (okC mi (x, y, w, z) && _) = true := hok
          exact (Bool.and_eq_true _ _ |>.mp hok).1
        have hbu := bu_eq hoc
        dsimp only at hbu
        rw [hbu] at h h4
        cases hcl : ex k (mBu x) x 0 (entry (mL x) (st.take y).reverse) [] σ with
        | none => rw [hcl] at h; cases h
        | some rr =>
          rw [hcl] at h
          have hM := fun hx6 => met_of fr κ D α ix l x (st.take y).reverse σ rr H.size hlt hSF hx6 (by rw [wt_rev]; exact h3) hcl
          have hx6 : x < 306 := by
            have h5 := (Bool.and_eq_true _ _ |>.mp (show (inLW x && _) = true from hoc)).1
            have : LW.all (fun e => decide (e.1 < 306)) = true := by decide +kernel
            obtain ⟨e9, he9, h6⟩ := List.any_eq_true.mp h5
            have h7 := of_decide_eq_true (List.all_eq_true.mp this e9 he9)
            have := Nat.eq_of_beq_eq_true h6
            omega
          exact go_call fr C1 hf hlo h4 hc hs ER ET EX hl hW hS (run_V C1 hf hlo hcd hrv ⟨h1, h2, h3⟩ hl.1 ⟨by omega, by omega⟩ hW hS (hM hx6)) h
theorem frame_zero : FRAME 0 := by
  unfold FRAME
  intros
  rename_i h
  cases h
theorem frame_all : ∀ n, FRAME n
  | 0 => frame_zero
  | n + 1 => frame_succ (frame_all n)
end
section
/-! frames -/
def fr (M : Nat → Int → Prop) (σ σ' : St) : Prop := ∀ c j, ¬ M c j → gI σ' c j = gI σ c j ∧ (gL σ' c j = gL σ c j ∧ gD σ' c j = gD σ c j)
theorem fr_refl {M : Nat → Int → Prop} {σ : St} : fr M σ σ := fun _ _ _ => ⟨rfl, rfl, rfl⟩
theorem fr_trans {M : Nat → Int → Prop} {σ σ1 σ2 : St} (h1 : fr M σ σ1) (h2 : fr M σ1 σ2) : fr M σ σ2 := fun c j h =>
  ⟨(h2 c j h).1.trans (h1 c j h).1, (h2 c j h).2.1.trans (h1 c j h).2.1, (h2 c j h).2.2.trans (h1 c j h).2.2⟩
theorem fr_mono {M M' : Nat → Int → Prop} {σ σ' : St} (h : fr M σ σ') (hm : ∀ c j, M c j → M' c j) : fr M' σ σ' := fun c j hn => h c j (fun g => hn (hm c j g))
theorem fr_I {M : Nat → Int → Prop} {σ σ' : St} (h : fr M σ σ') (c : Nat) (j : Int) (hn : ¬ M c j) : gI σ' c j = gI σ c j := (h c j hn).1
theorem fr_L {M : Nat → Int → Prop} {σ σ' : St} (h : fr M σ σ') (c : Nat) (j : Int) (hn : ¬ M c j) : gL σ' c j = gL σ c j := (h c j hn).2.1
theorem fr_D {M : Nat → Int → Prop} {σ σ' : St} (h : fr M σ σ') (c : Nat) (j : Int) (hn : ¬ M c j) : gD σ' c j = gD σ c j := (h c j hn).2.2
theorem fr_sI {M : Nat → Int → Prop} {σ σ1 : St} {c : Nat} {i v : Int} (h : fr M σ σ1) (hm : M c i) : fr M σ (sI σ1 c i v) := fun d j hn =>
  ⟨by rw [gI_sI, if_neg (fun g => hn (by rw [g.1, g.2]; exact hm))]; exact (h d j hn).1, (h d j hn).2.1, (h d j hn).2.2⟩
theorem fr_sL {M : Nat → Int → Prop} {σ σ1 : St} {c : Nat} {i : Int} {v : BitVec 64} (h : fr M σ σ1) (hm : M c i) : fr M σ (sL σ1 c i v) := fun d j hn =>
  ⟨(h d j hn).1, by rw [gL_sL, if_neg (fun g => hn (by rw [g.1, g.2]; exact hm))]; exact (h d j hn).2.1, (h d j hn).2.2⟩
theorem fr_sD {M : Nat → Int → Prop} {σ σ1 : St} {c : Nat} {i : Int} {v : UInt64} (h : fr M σ σ1) (hm : M c i) : fr M σ (sD σ1 c i v) := fun d j hn =>
  ⟨(h d j hn).1, (h d j hn).2.1, by rw [gD_sD, if_neg (fun g => hn (by rw [g.1, g.2]; exact hm))]; exact (h d j hn).2.2⟩
/-- a whole cell anew -/
def upI (σ : St) (c : Nat) (f : Int → Int) : St := (fun d j => if d = c then f j else σ.1 d j, σ.2)
def upL (σ : St) (c : Nat) (f : Int → BitVec 64) : St := (σ.1, (fun d j => if d = c then f j else σ.2.1 d j, σ.2.2))
theorem gI_upI {σ : St} {c d : Nat} {f : Int → Int} {j : Int} : gI (upI σ c f) d j = if d = c then f j else gI σ d j := rfl
theorem gL_upI {σ : St} {c d : Nat} {f : Int → Int} {j : Int} : gL (upI σ c f) d j = gL σ d j := rfl
theorem gD_upI {σ : St} {c d : Nat} {f : Int → Int} {j : Int} : gD (upI σ c f) d j = gD σ d j := rfl
theorem gI_upL {σ : St} {c d : Nat} {f : Int → BitVec 64} {j : Int} : gI (upL σ c f) d j = gI σ d j := rfl
theorem gL_upL {σ : St} {c d : Nat} {f : Int → BitVec 64} {j : Int} : gL (upL σ c f) d j = if d = c then f j else gL σ d j := rfl
theorem gD_upL {σ : St} {c d : Nat} {f : Int → BitVec 64} {j : Int} : gD (upL σ c f) d j = gD σ d j := rfl
theorem fr_upI {M : Nat → Int → Prop} {σ σ1 : St} {c : Nat} {f : Int → Int} (h : fr M σ σ1) (hm : ∀ j, M c j) : fr M σ (upI σ1 c f) := fun d j hn =>
  ⟨by rw [gI_upI, if_neg (fun g => hn (by rw [g]; exact hm j))]; exact (h d j hn).1, (h d j hn).2.1, (h d j hn).2.2⟩
theorem fr_upL {M : Nat → Int → Prop} {σ σ1 : St} {c : Nat} {f : Int → BitVec 64} (h : fr M σ σ1) (hm : ∀ j, M c j) : fr M σ (upL σ1 c f) := fun d j hn =>
  ⟨(h d j hn).1, by rw [gL_upL, if_neg (fun g => hn (by rw [g]; exact hm j))]; exact (h d j hn).2.1, (h d j hn).2.2⟩
theorem st_ext {σ τ : St} (h1 : ∀ c j, gI σ c j = gI τ c j) (h2 : ∀ c j, gL σ c j = gL τ c j) (h3 : ∀ c j, gD σ c j = gD τ c j) : σ = τ := by
  obtain ⟨a, b, c⟩ := σ
  obtain ⟨a2, b2, c2⟩ := τ
  have e1 : a = a2 := funext fun x => funext fun y => h1 x y
  have e2 : b = b2 := funext fun x => funext fun y => h2 x y
  have e3 : c = c2 := funext fun x => funext fun y => h3 x y
  subst e1; subst e2; subst e3; rfl
theorem sI_sI {σ : St} {c : Nat} {i v w : Int} : sI (sI σ c i v) c i w = sI σ c i w := st_ext (fun d j => by
  rw [gI_sI, gI_sI, gI_sI]; split <;> rfl) (fun _ _ => rfl) (fun _ _ => rfl)
theorem sI_self {σ : St} {c : Nat} {i : Int} : sI σ c i (gI σ c i) = σ := st_ext (fun d j => by
  rw [gI_sI]; split
  · rename_i h; rw [h.1, h.2]
  · rfl) (fun _ _ => rfl) (fun _ _ => rfl)
/-! bits -/
theorem bb_and1 (l : BitVec 64) : (l &&& BitVec.ofNat 64 1 = BitVec.ofNat 64 0) ↔ l.getLsbD 0 = false := by
  rw [BitVec.and_one_eq_setWidth_ofBool_getLsbD]
  cases l.getLsbD 0 <;> simp
theorem bb_and1' (l : BitVec 64) : (l &&& BitVec.ofNat 64 1 = BitVec.ofNat 64 1) ↔ l.getLsbD 0 = true := by
  rw [BitVec.and_one_eq_setWidth_ofBool_getLsbD]
  cases l.getLsbD 0 <;> simp
theorem bb_shr (l : BitVec 64) (k : Nat) : (l >>> k).getLsbD 0 = l.getLsbD k := by
  rw [BitVec.getLsbD_ushiftRight, Nat.add_zero]
theorem bb_sar (l : BitVec 64) {k : Nat} (hk : k < 64) : (l.sshiftRight k).getLsbD 0 = l.getLsbD k := by
  rw [BitVec.getLsbD_sshiftRight]
  simp
  intro h; omega
theorem bb_one {n i : Nat} (hn : n < 64) : (BitVec.ofNat 64 1 <<< n).getLsbD i = decide (i = n) := by
  rw [BitVec.getLsbD_shiftLeft, BitVec.getLsbD_one]
  by_cases h : i = n
  · subst h; simp [hn]
  · simp only [h, decide_false]
    by_cases h2 : i < n
    · simp [h2]
    · have : ¬ (i - n = 0) := by omega
      simp [this]
theorem sh6_id {z : Int} (h0 : 0 ≤ z) (h1 : z < 64) : sh6 z = z.toNat := by unfold sh6; omega
/-! counting -/
def cn (g : Int → Bool) : Nat → Int
  | 0 => 0
  | n + 1 => cn g n + (if g n = true then 1 else 0)
theorem cn_succ (g : Int → Bool) (n : Nat) : cn g (n + 1) = cn g n + (if g n = true then 1 else 0) := rfl
theorem cn_rng (g : Int → Bool) : ∀ n : Nat, 0 ≤ cn g n ∧ cn g n ≤ n
  | 0 => ⟨Int.le_refl 0, Int.le_refl 0⟩
  | n + 1 => by
    have := cn_rng g n
    rw [cn_succ]
    split <;> omega
theorem cn_mono (g : Int → Bool) {m n : Nat} (h : m ≤ n) : cn g m ≤ cn g n := by
  induction h with
  | refl => exact Int.le_refl _
  | step _ ih => rw [cn_succ]; split <;> omega
theorem cn_congr {g g' : Int → Bool} : ∀ {n : Nat}, (∀ m : Int, 0 ≤ m → m < n → g m = g' m) → cn g n = cn g' n
  | 0, _ => rfl
  | n + 1, h => by rw [cn_succ, cn_succ, cn_congr (n := n) (fun m h0 h1 => h m h0 (by omega)), h n (by omega) (by omega)]
theorem cn_sub {g : Int → Bool} {m n : Nat} (h : m ≤ n) : cn g n - cn g m ≤ (n : Int) - m := by
  induction h with
  | refl => omega
  | step _ ih => rw [cn_succ]; split <;> omega
end
section
/-! the program, as the law's cells hold it: P 54 the kinds by place, P 55, P 56, P 57 the operands, P 58 the sizes -/
abbrev Pg : Type := Nat → Int → Int
def tot (P : Pg) : Int := P 58 0 + P 58 1 + P 58 2 + P 58 3
def stt (P : Pg) (f : Int) : Int := if f = 0 then 0 else if f = 1 then P 58 0 else if f = 2 then P 58 0 + P 58 1 else if f = 3 then P 58 0 + P 58 1 + P 58 2 else tot P
def own (P : Pg) (n : Int) : Int := if n < P 58 0 then 0 else if n < P 58 0 + P 58 1 then 1 else if n < P 58 0 + P 58 1 + P 58 2 then 2 else 3
def plc (P : Pg) (n : Int) : Int := 12 * own P n + (n - stt P (own P n))
def num (P : Pg) (p : Int) : Int := stt P (p / 12) + p % 12
def okZ (P : Pg) : Prop := (0 ≤ P 58 0 ∧ P 58 0 ≤ 12) ∧ ((0 ≤ P 58 1 ∧ P 58 1 ≤ 12) ∧ ((0 ≤ P 58 2 ∧ P 58 2 ≤ 12) ∧ (0 ≤ P 58 3 ∧ P 58 3 ≤ 12)))
theorem f4 {f : Int} (h0 : 0 ≤ f) (h1 : f ≤ 3) : f = 0 ∨ f = 1 ∨ f = 2 ∨ f = 3 := by omega
theorem stt0 (P : Pg) : stt P 0 = 0 := rfl
theorem stt1 (P : Pg) : stt P 1 = P 58 0 := rfl
theorem stt2 (P : Pg) : stt P 2 = P 58 0 + P 58 1 := rfl
theorem stt3 (P : Pg) : stt P 3 = P 58 0 + P 58 1 + P 58 2 := rfl
theorem stt4 (P : Pg) : stt P 4 = tot P := rfl
theorem stt_succ (P : Pg) {f : Int} (h0 : 0 ≤ f) (h1 : f ≤ 3) : stt P (f + 1) = stt P f + P 58 f := by
  rcases f4 h0 h1 with rfl | rfl | rfl | rfl
  · rw [stt0, show (0 : Int) + 1 = 1 from rfl, stt1]; omega
  · rw [stt1, show (1 : Int) + 1 = 2 from rfl, stt2]
  · rw [stt2, show (2 : Int) + 1 = 3 from rfl, stt3]
  · rw [stt3, show (3 : Int) + 1 = 4 from rfl, stt4]; rfl
theorem okZ_at {P : Pg} (h : okZ P) {f : Int} (h0 : 0 ≤ f) (h1 : f ≤ 3) : 0 ≤ P 58 f ∧ P 58 f ≤ 12 := by
  rcases f4 h0 h1 with rfl | rfl | rfl | rfl
  · exact h.1
  · exact h.2.1
  · exact h.2.2.1
  · exact h.2.2.2
theorem tot_rng {P : Pg} (h : okZ P) : 0 ≤ tot P ∧ tot P ≤ 48 := by
  obtain ⟨h0, h1, h2, h3⟩ := h
  unfold tot; omega
theorem stt_rng {P : Pg} (h : okZ P) {f : Int} (h0 : 0 ≤ f) (h1 : f ≤ 3) : 0 ≤ stt P f ∧ stt P f + P 58 f ≤ tot P := by
  obtain ⟨g0, g1, g2, g3⟩ := h
  rcases f4 h0 h1 with rfl | rfl | rfl | rfl
  · rw [stt0]; unfold tot; omega
  · rw [stt1]; unfold tot; omega
  · rw [stt2]; unfold tot; omega
  · rw [stt3]; unfold tot; omega
theorem own_of {P : Pg} (h : okZ P) {f k : Int} (h0 : 0 ≤ f) (h1 : f ≤ 3) (k0 : 0 ≤ k) (k1 : k < P 58 f) : own P (stt P f + k) = f := by
  obtain ⟨g0, g1, g2, g3⟩ := h
  rcases f4 h0 h1 with rfl | rfl | rfl | rfl
  · rw [stt0, own, if_pos (by omega)]
  · rw [stt1, own, if_neg (by omega), if_pos (by omega)]
  · rw [stt2, own, if_neg (by omega), if_neg (by omega), if_pos (by omega)]
  · rw [stt3, own, if_neg (by omega), if_neg (by omega), if_neg (by omega)]
theorem plc_of {P : Pg} (h : okZ P) {f k : Int} (h0 : 0 ≤ f) (h1 : f ≤ 3) (k0 : 0 ≤ k) (k1 : k < P 58 f) : plc P (stt P f + k) = 12 * f + k := by
  unfold plc; rw [own_of h h0 h1 k0 k1]; omega
theorem own_spec {P : Pg} (h : okZ P) {n : Int} (h0 : 0 ≤ n) (h1 : n < tot P) : (0 ≤ own P n ∧ own P n ≤ 3) ∧ (stt P (own P n) ≤ n ∧ n < stt P (own P n) + P 58 (own P n)) := by
  obtain ⟨g0, g1, g2, g3⟩ := h
  unfold tot at h1
  unfold own
  by_cases c0 : n < P 58 0
  · simp only [if_pos c0]; rw [stt0]; omega
  · simp only [if_neg c0]
    by_cases c1 : n < P 58 0 + P 58 1
    · simp only [if_pos c1]; rw [stt1]; omega
    · simp only [if_neg c1]
      by_cases c2 : n < P 58 0 + P 58 1 + P 58 2
      · simp only [if_pos c2]; rw [stt2]; omega
      · simp only [if_neg c2]; rw [stt3]; omega
/-- every statement is some function's some statement -/
theorem n_split {P : Pg} (h : okZ P) {n : Int} (h0 : 0 ≤ n) (h1 : n < tot P) : ∃ f k : Int, (0 ≤ f ∧ f ≤ 3) ∧ (0 ≤ k ∧ k < P 58 f) ∧ n = stt P f + k := by
  obtain ⟨h2, h3, h4⟩ := own_spec h h0 h1
  exact ⟨own P n, n - stt P (own P n), h2, ⟨by omega, by omega⟩, by omega⟩
theorem plc_rng {P : Pg} (h : okZ P) {n : Int} (h0 : 0 ≤ n) (h1 : n < tot P) : 0 ≤ plc P n ∧ plc P n < 48 := by
  obtain ⟨h2, h3, h4⟩ := own_spec h h0 h1
  have := okZ_at h h2.1 h2.2
  unfold plc; omega
theorem plc_div {P : Pg} (h : okZ P) {n : Int} (h0 : 0 ≤ n) (h1 : n < tot P) : plc P n / 12 = own P n := by
  obtain ⟨h2, h3, h4⟩ := own_spec h h0 h1
  have := okZ_at h h2.1 h2.2
  unfold plc; omega
theorem num_plc {P : Pg} (h : okZ P) {n : Int} (h0 : 0 ≤ n) (h1 : n < tot P) : num P (plc P n) = n := by
  unfold num
  rw [plc_div h h0 h1]
  obtain ⟨h2, h3, h4⟩ := own_spec h h0 h1
  have := okZ_at h h2.1 h2.2
  have e : plc P n % 12 = n - stt P (own P n) := by unfold plc; omega
  rw [e]; omega
theorem num_of {P : Pg} {f k : Int} (k0 : 0 ≤ k) (k1 : k < 12) : num P (12 * f + k) = stt P f + k := by
  unfold num
  rw [show (12 * f + k) / 12 = f by omega, show (12 * f + k) % 12 = k by omega]
/-- of a statement by its number: kind, operands, site -/
def kd (P : Pg) (n : Int) : Int := P 54 (plc P n)
def vv (P : Pg) (n : Int) : Int := P 55 (plc P n)
def ww (P : Pg) (n : Int) : Int := P 56 (plc P n)
def nn (P : Pg) (n : Int) : Int := P 57 (plc P n)
def sn (P : Pg) (n : Int) : Int := cn (fun m => kd P m == 4) n.toNat
/-- statements of a kind, but those of a function -/
def mny (P : Pg) (q wo : Int) : Int := cn (fun m => (own P m != wo) && (kd P m == q)) (tot P).toNat
def okP (P : Pg) : Prop := okZ P ∧ ((∀ n, 0 ≤ n → n < tot P → (0 ≤ kd P n ∧ kd P n ≤ 6) ∧ ((0 ≤ vv P n ∧ vv P n ≤ 19) ∧ ((0 ≤ ww P n ∧ ww P n ≤ 19) ∧ (0 ≤ nn P n ∧ nn P n ≤ 3))) ∧ (kd P n = 5 → nn P n ≤ 2)) ∧ (mny P 4 (-1) ≤ 8 ∧ mny P 6 (-1) ≤ 5))
theorem sn_succ {P : Pg} {n : Int} (h : 0 ≤ n) : sn P (n + 1) = sn P n + (if kd P n = 4 then 1 else 0) := by
  unfold sn
  rw [show (n + 1).toNat = n.toNat + 1 by omega, cn_succ, show ((n.toNat : Nat) : Int) = n by omega]
  simp only [beq_iff_eq]
theorem sn_rng {P : Pg} {n : Int} (h : 0 ≤ n) : 0 ≤ sn P n ∧ sn P n ≤ n := by
  have := cn_rng (fun m => kd P m == 4) n.toNat
  unfold sn; omega
theorem sn_mono {P : Pg} {m n : Int} (h : m ≤ n) : sn P m ≤ sn P n := cn_mono _ (by omega)
theorem mny_all {P : Pg} (h : okZ P) : mny P 4 (-1) = sn P (tot P) := by
  unfold mny sn
  apply cn_congr
  intro m h0 h1
  have := tot_rng h
  obtain ⟨h2, -⟩ := own_spec h h0 (by omega)
  have : (own P m != -1) = true := by simp; omega
  rw [this, Bool.true_and]
end
section
/-! contexts: a function and a key as one number, e = 2353 * f + key -/
def lst (k : Int) : Int := if 49 ≤ k then (k - 49) % 48 else k - 1
def ext (lim k c : Int) : Int := if lim = 0 then 0 else if lim = 1 ∨ k = 0 then 1 + c else 49 + lst k * 48 + c
def isCall (P : Pg) (c : Int) : Prop := 0 ≤ c ∧ (c < tot P ∧ kd P c = 6)
def stepC (P : Pg) (lim e e' : Int) : Prop := ∃ c, isCall P c ∧ (own P c = e / 2353 ∧ e' = nn P c * 2353 + ext lim (e % 2353) c)
/-- the contexts there are -/
def RS (P : Pg) (lim e : Int) : Prop := ∀ X : Int → Prop, X 0 → (∀ a b, X a → stepC P lim a b → X b) → X e
theorem RS_0 (P : Pg) (lim : Int) : RS P lim 0 := fun _ h _ => h
theorem RS_step {P : Pg} {lim a b : Int} (ha : RS P lim a) (h : stepC P lim a b) : RS P lim b := fun X h0 hs => hs a b (ha X h0 hs) h
/-- what a context looks like -/
def VE (P : Pg) (lim e : Int) : Prop := e = 0 ∨ ∃ c, isCall P c ∧ ((lim = 0 ∧ e = nn P c * 2353) ∨ ((lim ≠ 0 ∧ e = nn P c * 2353 + (1 + c)) ∨ (lim ≠ 0 ∧ ∃ l, isCall P l ∧ e = nn P c * 2353 + (49 + l * 48 + c))))
theorem call_rng {P : Pg} (hP : okP P) {c : Int} (h : isCall P c) : (0 ≤ c ∧ c < 48) ∧ (0 ≤ nn P c ∧ nn P c ≤ 3) := by
  have h1 := tot_rng hP.1
  have h2 := (hP.2.1 c h.1 h.2.1).2.1.2.2
  exact ⟨⟨h.1, by have := h.2.1; omega⟩, h2⟩
theorem VE_key {P : Pg} (hP : okP P) {lim e : Int} (h : VE P lim e) : (0 ≤ e ∧ e < 9412) ∧ (e % 2353 = 0 ∨ ((1 ≤ e % 2353 ∧ e % 2353 < 49 ∧ isCall P (e % 2353 - 1)) ∨ (49 ≤ e % 2353 ∧ isCall P ((e % 2353 - 49) / 48) ∧ isCall P ((e % 2353 - 49) % 48)))) := by
  rcases h with rfl | ⟨c, hc, h⟩
  · exact ⟨by omega, Or.inl rfl⟩
  · have h1 := call_rng hP hc
    rcases h with ⟨_, rfl⟩ | ⟨_, rfl⟩ | ⟨_, l, hl, rfl⟩
    · exact ⟨by omega, Or.inl (by omega)⟩
    · refine ⟨by omega, Or.inr (Or.inl ?_)⟩
      rw [show (nn P c * 2353 + (1 + c)) % 2353 = 1 + c by omega]
      exact ⟨by omega, by omega, by rw [show 1 + c - 1 = c by omega]; exact hc⟩
    · have h2 := call_rng hP hl
      refine ⟨by omega, Or.inr (Or.inr ?_)⟩
      rw [show (nn P c * 2353 + (49 + l * 48 + c)) % 2353 = 49 + l * 48 + c by omega]
      refine ⟨by omega, ?_, ?_⟩
      · rw [show (49 + l * 48 + c - 49) / 48 = l by omega]; exact hl
      · rw [show (49 + l * 48 + c - 49) % 48 = c by omega]; exact hc
theorem lst_call {P : Pg} (hP : okP P) {lim e : Int} (h : VE P lim e) (hk : e % 2353 ≠ 0) : isCall P (lst (e % 2353)) := by
  obtain ⟨-, h0 | ⟨h1, h2, h3⟩ | ⟨h1, -, h3⟩⟩ := VE_key hP h
  · exact absurd h0 hk
  · unfold lst; rw [if_neg (by omega)]; exact h3
  · unfold lst; rw [if_pos h1]; exact h3
theorem VE_step {P : Pg} (hP : okP P) {lim a b : Int} (ha : VE P lim a) (h : stepC P lim a b) : VE P lim b := by
  obtain ⟨c, hc, -, rfl⟩ := h
  refine Or.inr ⟨c, hc, ?_⟩
  unfold ext
  by_cases h0 : lim = 0
  · rw [if_pos h0]; exact Or.inl ⟨h0, by omega⟩
  · rw [if_neg h0]
    by_cases h1 : lim = 1 ∨ a % 2353 = 0
    · rw [if_pos h1]; exact Or.inr (Or.inl ⟨h0, rfl⟩)
    · rw [if_neg h1]
      exact Or.inr (Or.inr ⟨h0, lst (a % 2353), lst_call hP ha (fun g => h1 (Or.inr g)), rfl⟩)
theorem RS_VE {P : Pg} (hP : okP P) {lim e : Int} (h : RS P lim e) : VE P lim e := h (VE P lim) (Or.inl rfl) (fun _ _ ha hs => VE_step hP ha hs)
theorem RS_rng {P : Pg} (hP : okP P) {lim e : Int} (h : RS P lim e) : 0 ≤ e ∧ e < 9412 := (VE_key hP (RS_VE hP h)).1
/-- how many calls before a statement -/
def co (P : Pg) (c : Int) : Int := cn (fun m => kd P m == 6) c.toNat
theorem co_lt {P : Pg} {c d : Int} (hc : isCall P c) (h : c < d) : co P c < co P d := by
  unfold co
  have h0 := hc.1
  have e : cn (fun m => kd P m == 6) (c.toNat + 1) = cn (fun m => kd P m == 6) c.toNat + 1 := by
    rw [cn_succ, if_pos]
    have : ((c.toNat : Nat) : Int) = c := by omega
    rw [this, beq_iff_eq]; exact hc.2.2
  have := cn_mono (fun m => kd P m == 6) (m := c.toNat + 1) (n := d.toNat) (by omega)
  omega
theorem co_inj {P : Pg} {c d : Int} (hc : isCall P c) (hd : isCall P d) (h : co P c = co P d) : c = d := by
  rcases Int.lt_trichotomy c d with g | g | g
  · have := co_lt hc g; omega
  · exact g
  · have := co_lt hd g; omega
theorem mny_all6 {P : Pg} (h : okZ P) (q : Int) : mny P q (-1) = cn (fun m => kd P m == q) (tot P).toNat := by
  unfold mny
  apply cn_congr
  intro m h0 h1
  have := tot_rng h
  obtain ⟨h2, -⟩ := own_spec h h0 (by omega)
  have : (own P m != -1) = true := by simp; omega
  rw [this, Bool.true_and]
theorem co_rng {P : Pg} (hP : okP P) {c : Int} (hc : isCall P c) : 0 ≤ co P c ∧ co P c < 5 := by
  have h1 := co_lt hc (d := tot P) hc.2.1
  have h2 : co P (tot P) = mny P 6 (-1) := by rw [mny_all6 hP.1]; rfl
  have h3 := hP.2.2.2
  have h4 := cn_rng (fun m => kd P m == 6) c.toNat
  unfold co at *; omega
def cix (P : Pg) (e : Int) : Int := if e % 2353 = 0 then e / 2353 else if e % 2353 < 49 then 1 + co P (e % 2353 - 1) else 6 + 5 * co P ((e % 2353 - 49) / 48) + co P ((e % 2353 - 49) % 48)
theorem cix_rng {P : Pg} (hP : okP P) {lim e : Int} (h : VE P lim e) : 0 ≤ cix P e ∧ cix P e < 31 := by
  obtain ⟨h0, h1 | ⟨h1, h2, h3⟩ | ⟨h1, h2, h3⟩⟩ := VE_key hP h
  · unfold cix; rw [if_pos h1]; omega
  · have := co_rng hP h3
    unfold cix; rw [if_neg (by omega), if_pos h2]; omega
  · have g2 := co_rng hP h2
    have g3 := co_rng hP h3
    unfold cix; rw [if_neg (by omega), if_neg (by omega)]; omega
/-- a context, by what its key says -/
theorem VE_cases {P : Pg} (hP : okP P) {lim e : Int} (h : VE P lim e) :
    (e % 2353 = 0 ∧ (lim = 0 ∨ e = 0)) ∨ (lim ≠ 0 ∧ e % 2353 ≠ 0 ∧ e / 2353 = nn P (lst (e % 2353))) := by
  rcases h with rfl | ⟨c, hc, h⟩
  · exact Or.inl ⟨rfl, Or.inr rfl⟩
  · have h1 := call_rng hP hc
    rcases h with ⟨h0, rfl⟩ | ⟨h0, rfl⟩ | ⟨h0, l, hl, rfl⟩
    · exact Or.inl ⟨by omega, Or.inl h0⟩
    · refine Or.inr ⟨h0, by omega, ?_⟩
      rw [show (nn P c * 2353 + (1 + c)) % 2353 = 1 + c by omega, show (nn P c * 2353 + (1 + c)) / 2353 = nn P c by omega]
      unfold lst; rw [if_neg (by omega), show 1 + c - 1 = c by omega]
    · have h2 := call_rng hP hl
      have e9 : (nn P c * 2353 + (49 + l * 48 + c)) % 2353 = 49 + l * 48 + c := by omega
      refine Or.inr ⟨h0, by rw [e9]; omega, ?_⟩
      rw [e9, show (nn P c * 2353 + (49 + l * 48 + c)) / 2353 = nn P c by omega]
      unfold lst; rw [if_pos (by omega), show (49 + l * 48 + c - 49) % 48 = c by omega]
theorem cix_inj {P : Pg} (hP : okP P) {lim a b : Int} (ha : VE P lim a) (hb : VE P lim b) (h : cix P a = cix P b) : a = b := by
  have ka := VE_key hP ha
  have kb := VE_key hP hb
  have ca := VE_cases hP ha
  have cb := VE_cases hP hb
  have key : a % 2353 = b % 2353 → a = b := fun g => by
    rcases ca with ⟨h1, h2⟩ | ⟨h1, h2, h3⟩
    · rcases cb with ⟨h4, h5⟩ | ⟨h4, h5, h6⟩
      · unfold cix at h; rw [if_pos h1, if_pos h4] at h; omega
      · omega
    · rcases cb with ⟨h4, h5⟩ | ⟨h4, h5, h6⟩
      · omega
      · rw [g] at h3; omega
  apply key
  obtain ⟨a0, a1 | ⟨a1, a2, a3⟩ | ⟨a1, a2, a3⟩⟩ := ka <;> obtain ⟨b0, b1 | ⟨b1, b2, b3⟩ | ⟨b1, b2, b3⟩⟩ := kb
  · omega
  · have := co_rng hP b3
    rcases ca with ⟨_, h2⟩ | ⟨_, h2, _⟩
    · rcases cb with ⟨h4, _⟩ | ⟨h4, _, _⟩
      · omega
      · unfold cix at h; rw [if_pos a1, if_neg (by omega), if_pos b2] at h; omega
    · omega
  · have := co_rng hP b3
    have := co_rng hP b2
    rcases ca with ⟨_, h2⟩ | ⟨_, h2, _⟩
    · rcases cb with ⟨h4, _⟩ | ⟨h4, _, _⟩
      · omega
      · unfold cix at h; rw [if_pos a1, if_neg (by omega), if_neg (by omega)] at h; omega
    · omega
  · have := co_rng hP a3
    rcases cb with ⟨_, h2⟩ | ⟨_, h2, _⟩
    · rcases ca with ⟨h4, _⟩ | ⟨h4, _, _⟩
      · omega
      · unfold cix at h; rw [if_pos b1, if_neg (by omega), if_pos a2] at h; omega
    · omega
  · unfold cix at h; rw [if_neg (by omega), if_pos a2, if_neg (by omega), if_pos b2] at h
    have := co_inj a3 b3 (by omega)
    omega
  · have g1 := co_rng hP a3
    have g2 := co_rng hP b2
    have g3 := co_rng hP b3
    unfold cix at h; rw [if_neg (by omega), if_pos a2, if_neg (by omega), if_neg (by omega)] at h
    omega
  · have := co_rng hP a3
    have := co_rng hP a2
    rcases cb with ⟨_, h2⟩ | ⟨_, h2, _⟩
    · rcases ca with ⟨h4, _⟩ | ⟨h4, _, _⟩
      · omega
      · unfold cix at h; rw [if_pos b1, if_neg (by omega), if_neg (by omega)] at h; omega
    · omega
  · have g1 := co_rng hP b3
    have g2 := co_rng hP a2
    have g3 := co_rng hP a3
    unfold cix at h; rw [if_neg (by omega), if_neg (by omega), if_neg (by omega), if_pos b2] at h
    omega
  · have g1 := co_rng hP b3
    have g2 := co_rng hP a2
    have g3 := co_rng hP a3
    have g4 := co_rng hP b2
    unfold cix at h; rw [if_neg (by omega), if_neg (by omega), if_neg (by omega), if_neg (by omega)] at h
    have e1 := co_inj a2 b2 (by omega)
    have e2 := co_inj a3 b3 (by omega)
    omega
/-! lists of ints -/
theorem pig : ∀ (n : Nat) (xs : List Int), xs.Nodup → (∀ x ∈ xs, 0 ≤ x ∧ x < n) → xs.length ≤ n
  | 0, [], _, _ => Nat.le_refl 0
  | 0, x :: _, _, h => by have := h x List.mem_cons_self; omega
  | n + 1, xs, hd, h => by
    by_cases hm : (n : Int) ∈ xs
    · have h1 := pig n (xs.erase n) (hd.erase _) (fun x hx => by
        have h2 := (hd.mem_erase_iff).mp hx
        have h3 := h x h2.2
        have : x ≠ (n : Int) := h2.1
        omega)
      rw [List.length_erase_of_mem hm] at h1
      omega
    · have h1 := pig n xs hd (fun x hx => by
        have h3 := h x hx
        have : x ≠ (n : Int) := fun e => hm (e ▸ hx)
        omega)
      omega
theorem cx_len {P : Pg} (hP : okP P) {lim : Int} {xs : List Int} (hd : xs.Nodup) (h : ∀ e ∈ xs, RS P lim e) : xs.length ≤ 31 := by
  have h1 := pig 31 (xs.map (cix P)) (by
    unfold List.Nodup
    rw [List.pairwise_map]
    refine List.Pairwise.imp_of_mem (fun {a b} ha hb hne e => hne (cix_inj hP (RS_VE hP (h a ha)) (RS_VE hP (h b hb)) e)) hd) (fun x hx => by
    obtain ⟨e, he, rfl⟩ := List.mem_map.mp hx
    exact cix_rng hP (RS_VE hP (h e he)))
  rw [List.length_map] at h1
  exact h1
/-- strictly ascending lists with the same members are the same -/
theorem asc_eq : ∀ {xs ys : List Int}, xs.Pairwise (· < ·) → ys.Pairwise (· < ·) → (∀ e, e ∈ xs ↔ e ∈ ys) → xs = ys
  | [], [], _, _, _ => rfl
  | [], y :: ys, _, _, h => absurd ((h y).mpr List.mem_cons_self) (List.not_mem_nil)
  | x :: xs, [], _, _, h => absurd ((h x).mp List.mem_cons_self) (List.not_mem_nil)
  | x :: xs, y :: ys, hx, hy, h => by
    rw [List.pairwise_cons] at hx hy
    have e : x = y := by
      rcases List.mem_cons.mp ((h x).mp List.mem_cons_self) with g | g
      · exact g
      · rcases List.mem_cons.mp ((h y).mpr List.mem_cons_self) with g2 | g2
        · exact g2.symm
        · have := hy.1 x g; have := hx.1 y g2; omega
    subst e
    have : xs = ys := asc_eq hx.2 hy.2 (fun e => by
      constructor
      · intro he
        rcases List.mem_cons.mp ((h e).mp (List.mem_cons_of_mem _ he)) with g | g
        · have := hx.1 e he; omega
        · exact g
      · intro he
        rcases List.mem_cons.mp ((h e).mpr (List.mem_cons_of_mem _ he)) with g | g
        · have := hy.1 e he; omega
        · exact g)
    rw [this]
def isC (P : Pg) (lim : Int) (xs : List Int) : Prop := xs.Pairwise (· < ·) ∧ ∀ e, e ∈ xs ↔ RS P lim e
theorem isC_eq {P : Pg} {lim : Int} {xs ys : List Int} (hx : isC P lim xs) (hy : isC P lim ys) : xs = ys := asc_eq hx.1 hy.1 (fun e => (hx.2 e).trans (hy.2 e).symm)
theorem asc_nd {xs : List Int} (h : xs.Pairwise (· < ·)) : xs.Nodup := List.Pairwise.imp (fun {a b} (g : a < b) e => by omega) h
theorem isC_len {P : Pg} (hP : okP P) {lim : Int} {xs : List Int} (h : isC P lim xs) : xs.length ≤ 31 := cx_len hP (asc_nd h.1) (fun e he => (h.2 e).mp he)
/-- the law's code of a key -/
def cod (k : Int) : Int := if k = 0 then 0 else if k < 49 then 10000 + (k - 1) else 20000 + (k - 49) / 48 * 100 + (k - 49) % 48
theorem cod_0 : cod 0 = 0 := rfl
theorem cod_s {k : Int} (h0 : k ≠ 0) (h1 : k < 49) : cod k = 10000 + (k - 1) := by unfold cod; rw [if_neg h0, if_pos h1]
theorem cod_p {k : Int} (h1 : 49 ≤ k) : cod k = 20000 + (k - 49) / 48 * 100 + (k - 49) % 48 := by unfold cod; rw [if_neg (by omega), if_neg (by omega)]
theorem cod_lt {j k : Int} (h0 : 0 ≤ j) (h1 : j < k) (h2 : k < 2353) : cod j < cod k := by
  by_cases a : j = 0
  · subst a
    rw [cod_0]
    by_cases b : k < 49
    · rw [cod_s (by omega) b]; omega
    · rw [cod_p (by omega)]; omega
  · by_cases b : k < 49
    · rw [cod_s (by omega) b, cod_s a (by omega)]; omega
    · rw [cod_p (k := k) (by omega)]
      by_cases c : j < 49
      · rw [cod_s a c]; omega
      · rw [cod_p (by omega)]; omega
theorem cod_ext {k c lim : Int} (h0 : 0 ≤ k) (h1 : k < 2353) (c0 : 0 ≤ c) (c1 : c < 48) : cod (ext lim k c) = if lim = 0 then 0 else if lim = 1 ∨ cod k = 0 then 10000 + c else 20000 + cod k % 100 * 100 + c := by
  have e0 : cod k = 0 ↔ k = 0 := by
    unfold cod
    by_cases a : k = 0
    · simp [a]
    · rw [if_neg a]; split <;> omega
  unfold ext
  by_cases l0 : lim = 0
  · rw [if_pos l0, if_pos l0]; rfl
  · rw [if_neg l0, if_neg l0]
    by_cases l1 : lim = 1 ∨ k = 0
    · rw [if_pos l1, if_pos (by rw [e0]; exact l1)]
      unfold cod; rw [if_neg (by omega), if_pos (by omega)]; omega
    · rw [if_neg l1, if_neg (by rw [e0]; exact l1)]
      have hk : k ≠ 0 := fun g => l1 (Or.inr g)
      have hl : cod k % 100 = lst k := by
        unfold cod lst
        rw [if_neg hk]
        by_cases b : k < 49
        · rw [if_pos b, if_neg (by omega)]; omega
        · rw [if_neg b, if_pos (by omega)]; omega
      rw [hl]
      have : 0 ≤ lst k ∧ lst k < 48 := by unfold lst; split <;> omega
      rw [show cod (49 + lst k * 48 + c) = 20000 + (49 + lst k * 48 + c - 49) / 48 * 100 + (49 + lst k * 48 + c - 49) % 48 by
        unfold cod; rw [if_neg (by omega), if_neg (by omega)]]
      omega
end
