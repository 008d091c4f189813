/-! the tables of links and words: printed by gen_mtab.py -/
def cNT : List String := ["PointerAnalyzer$BodyText", "PointerAnalyzer$Contexts", "PointerAnalyzer$Draft", "PointerAnalyzer$Graph", "PointerAnalyzer$Inclusion", "PointerAnalyzer$Machine", "PointerAnalyzer$Program", "PointerAnalyzer$Unification", "PointerAnalyzer", "", "PointerAnalyzer$Rows", "PointerAnalyzer$Statement", "PointerAnalyzerLaw", "java/lang/Long", "", "java/lang/Double"]
def cN (ci : Nat) : String := cNT.getD ci ""
def ffT : List (List (String × (String × (String × Bool)))) := [[("PointerAnalyzer$BodyText", "characters", "[I", true), ("PointerAnalyzer$BodyText", "length", "I", false), ("PointerAnalyzer$BodyText", "position", "I", false), ("PointerAnalyzer$BodyText", "firstLocal", "I", false)], [("PointerAnalyzer$Contexts", "entries", "[I", true), ("PointerAnalyzer$Contexts", "firsts", "[I", true), ("PointerAnalyzer$Contexts", "size", "I", false), ("PointerAnalyzer$Contexts", "limit", "I", false)], [("PointerAnalyzer$Draft", "statements", "[I", true), ("PointerAnalyzer$Draft", "size", "I", false), ("PointerAnalyzer$Draft", "allocations", "I", false), ("PointerAnalyzer$Draft", "calls", "I", false)], [("PointerAnalyzer$Graph", "rows", "[J", true)], [("PointerAnalyzer$Inclusion", "contexts", "LPointerAnalyzer$Contexts;", true), ("PointerAnalyzer$Inclusion", "known", "[J", true), ("PointerAnalyzer$Inclusion", "growing", "[J", true), ("PointerAnalyzer$Inclusion", "codes", "[I", true), ("PointerAnalyzer$Inclusion", "pointees", "[I", true), ("PointerAnalyzer$Inclusion", "targets", "[J", true), ("PointerAnalyzer$Inclusion", "roundsOfFacts", "[I", true), ("PointerAnalyzer$Inclusion", "originsOfFacts", "[I", true), ("PointerAnalyzer$Inclusion", "stale", "Z", false), ("PointerAnalyzer$Inclusion", "facts", "I", false), ("PointerAnalyzer$Inclusion", "rounds", "I", false), ("PointerAnalyzer$Inclusion", "round", "I", false), ("PointerAnalyzer$Inclusion", "statement", "I", false)], [("PointerAnalyzer$Machine", "pointers", "[I", true), ("PointerAnalyzer$Machine", "codes", "[I", true), ("PointerAnalyzer$Machine", "seen", "[J", true), ("PointerAnalyzer$Machine", "functions", "[I", true), ("PointerAnalyzer$Machine", "following", "[I", true), ("PointerAnalyzer$Machine", "frames", "[I", true), ("PointerAnalyzer$Machine", "depth", "I", false), ("PointerAnalyzer$Machine", "used", "I", false), ("PointerAnalyzer$Machine", "executed", "I", false), ("PointerAnalyzer$Machine", "failed", "I", false), ("PointerAnalyzer$Machine", "made", "I", false)], [("PointerAnalyzer$Program", "bodies", "[I", true), ("PointerAnalyzer$Program", "sizes", "[I", true), ("PointerAnalyzer$Program", "limit", "I", false), ("PointerAnalyzer$Program", "numbered", "[I", true), ("PointerAnalyzer$Program", "owners", "[I", true), ("PointerAnalyzer$Program", "siteNumbers", "[I", true), ("PointerAnalyzer$Program", "starts", "[I", true), ("PointerAnalyzer$Program", "sites", "I", false)], [("PointerAnalyzer$Unification", "parents", "[I", true), ("PointerAnalyzer$Unification", "pointees", "[I", true), ("PointerAnalyzer$Unification", "stale", "Z", false)], [("PointerAnalyzer", "text", "LPointerAnalyzer$BodyText;", true), ("PointerAnalyzer", "draft", "LPointerAnalyzer$Draft;", true), ("PointerAnalyzer", "program", "LPointerAnalyzer$Program;", true), ("PointerAnalyzer", "kept", "LPointerAnalyzer$Program;", true), ("PointerAnalyzer", "inclusion", "LPointerAnalyzer$Inclusion;", true), ("PointerAnalyzer", "plain", "LPointerAnalyzer$Inclusion;", true), ("PointerAnalyzer", "unification", "LPointerAnalyzer$Unification;", true), ("PointerAnalyzer", "graph", "LPointerAnalyzer$Graph;", true), ("PointerAnalyzer", "machine", "LPointerAnalyzer$Machine;", true), ("PointerAnalyzer", "fault", "I", false), ("PointerAnalyzer", "somethingKept", "Z", false)]]
def tyT : List (List FieldType) := [[.array .int, .int, .int, .int], [.array .int, .array .int, .int, .int], [.array .int, .int, .int, .int], [.array .long], [.object "PointerAnalyzer$Contexts", .array .long, .array .long, .array .int, .array .int, .array .long, .array .int, .array .int, .boolean, .int, .int, .int, .int], [.array .int, .array .int, .array .long, .array .int, .array .int, .array .int, .int, .int, .int, .int, .int], [.array .int, .array .int, .int, .array .int, .array .int, .array .int, .array .int, .int], [.array .int, .array .int, .boolean], [.object "PointerAnalyzer$BodyText", .object "PointerAnalyzer$Draft", .object "PointerAnalyzer$Program", .object "PointerAnalyzer$Program", .object "PointerAnalyzer$Inclusion", .object "PointerAnalyzer$Inclusion", .object "PointerAnalyzer$Unification", .object "PointerAnalyzer$Graph", .object "PointerAnalyzer$Machine", .int, .boolean]]
def fT (ci : Nat) : u_T := fun k => (ffT.getD ci []).getD k ("", "", "", false)
def fTy (ci : Nat) : Nat → FieldType := fun k => (tyT.getD ci []).getD k .int
def nf (ci : Nat) : Nat := (fkT.getD ci []).length
def clA : List vw_C := (List.range 9).map (fun ci => (cN ci, fT ci, nf ci))
abbrev MRow : Type := MethodName × (ByteArray × (Option FieldType × (Nat × (Bool × (Nat × (Nat × (Nat × List (Nat × Nat × Nat × Nat))))))))
def mr_0 : MRow := (⟨"PointerAnalyzer$BodyText", "isFull", "()Z"⟩, prog_2_method_2_code, (some .boolean), 0, false, 1, 0, 0, [])
def mr_1 : MRow := (⟨"PointerAnalyzer$BodyText", "append", "(I)I"⟩, prog_2_method_3_code, (some .int), 0, false, 2, 22, 0, [])
def mr_2 : MRow := (⟨"PointerAnalyzer$BodyText", "empty", "()V"⟩, prog_2_method_4_code, none, 0, false, 1, 0, 0, [])
def mr_3 : MRow := (⟨"PointerAnalyzer$BodyText", "read", "(ILPointerAnalyzer$Draft;)I"⟩, prog_2_method_5_code, (some .int), 0, false, 6, 115, 0, [])
def mr_4 : MRow := (⟨"PointerAnalyzer$BodyText", "readStatement", "(LPointerAnalyzer$Draft;)Z"⟩, prog_2_method_6_code, (some .boolean), 0, false, 5, 93, 0, [])
def mr_5 : MRow := (⟨"PointerAnalyzer$BodyText", "readStore", "(LPointerAnalyzer$Draft;)Z"⟩, prog_2_method_7_code, (some .boolean), 0, false, 4, 71, 0, [])
def mr_6 : MRow := (⟨"PointerAnalyzer$BodyText", "readOperand", "(LPointerAnalyzer$Draft;II)Z"⟩, prog_2_method_8_code, (some .boolean), 0, false, 3, 47, 0, [])
def mr_7 : MRow := (⟨"PointerAnalyzer$BodyText", "readCall", "(LPointerAnalyzer$Draft;I)Z"⟩, prog_2_method_9_code, (some .boolean), 0, false, 3, 47, 0, [])
def mr_8 : MRow := (⟨"PointerAnalyzer$BodyText", "readCopyOrOffset", "(LPointerAnalyzer$Draft;I)Z"⟩, prog_2_method_10_code, (some .boolean), 0, false, 3, 47, 0, [])
def mr_9 : MRow := (⟨"PointerAnalyzer$BodyText", "accept", "(C)Z"⟩, prog_2_method_11_code, (some .boolean), 0, false, 2, 21, 0, [])
def mr_10 : MRow := (⟨"PointerAnalyzer$BodyText", "readDigit", "(I)I"⟩, prog_2_method_12_code, (some .int), 0, false, 2, 21, 0, [])
def mr_11 : MRow := (⟨"PointerAnalyzer$BodyText", "readVariable", "()I"⟩, prog_2_method_13_code, (some .int), 0, false, 2, 21, 0, [])
def mr_12 : MRow := (⟨"PointerAnalyzer$BodyText", "variableNamed", "(I)I"⟩, prog_2_method_14_code, (some .int), 0, false, 1, 0, 0, [])
def mr_13 : MRow := (⟨"PointerAnalyzer$BodyText", "current", "()I"⟩, prog_2_method_15_code, (some .int), 0, false, 1, 0, 0, [])
def mr_14 : MRow := (⟨"PointerAnalyzer$Contexts", "arrange", "(LPointerAnalyzer$Program;I)V"⟩, prog_3_method_2_code, none, 1, false, 5, 88, 0, [])
def mr_15 : MRow := (⟨"PointerAnalyzer$Contexts", "followCalls", "(LPointerAnalyzer$Program;I)V"⟩, prog_3_method_3_code, none, 1, false, 4, 64, 0, [])
def mr_16 : MRow := (⟨"PointerAnalyzer$Contexts", "extended", "(II)I"⟩, prog_3_method_4_code, (some .int), 1, false, 2, 20, 0, [])
def mr_17 : MRow := (⟨"PointerAnalyzer$Contexts", "lastCall", "(I)I"⟩, prog_3_method_5_code, (some .int), 1, true, 1, 0, 0, [])
def mr_18 : MRow := (⟨"PointerAnalyzer$Contexts", "enter", "(I)V"⟩, prog_3_method_6_code, none, 1, false, 3, 43, 0, [])
def mr_19 : MRow := (⟨"PointerAnalyzer$Contexts", "find", "(I)I"⟩, prog_3_method_7_code, (some .int), 1, false, 2, 21, 0, [])
def mr_20 : MRow := (⟨"PointerAnalyzer$Contexts", "sort", "()V"⟩, prog_3_method_8_code, none, 1, false, 2, 22, 0, [])
def mr_21 : MRow := (⟨"PointerAnalyzer$Contexts", "countBelow", "(I)I"⟩, prog_3_method_9_code, (some .int), 1, false, 2, 21, 0, [])
def mr_22 : MRow := (⟨"PointerAnalyzer$Contexts", "size", "()I"⟩, prog_3_method_10_code, (some .int), 1, false, 1, 0, 0, [])
def mr_23 : MRow := (⟨"PointerAnalyzer$Contexts", "sizeOf", "(I)I"⟩, prog_3_method_11_code, (some .int), 1, false, 2, 21, 0, [])
def mr_25 : MRow := (⟨"PointerAnalyzer$Contexts", "ownerAt", "(I)I"⟩, prog_3_method_13_code, (some .int), 1, false, 2, 21, 0, [])
def mr_26 : MRow := (⟨"PointerAnalyzer$Contexts", "keyAt", "(I)I"⟩, prog_3_method_14_code, (some .int), 1, false, 2, 21, 0, [])
def mr_29 : MRow := (⟨"PointerAnalyzer$Contexts", "placeAfter", "(III)I"⟩, prog_3_method_17_code, (some .int), 1, false, 3, 43, 0, [])
def mr_30 : MRow := (⟨"PointerAnalyzer$Draft", "empty", "()V"⟩, prog_4_method_2_code, none, 2, false, 1, 0, 0, [])
def mr_31 : MRow := (⟨"PointerAnalyzer$Draft", "add", "(IIII)Z"⟩, prog_4_method_3_code, (some .boolean), 2, false, 2, 23, 0, [])
def mr_32 : MRow := (⟨"PointerAnalyzer$Draft", "size", "()I"⟩, prog_4_method_4_code, (some .int), 2, false, 1, 0, 0, [])
def mr_33 : MRow := (⟨"PointerAnalyzer$Draft", "allocations", "()I"⟩, prog_4_method_5_code, (some .int), 2, false, 1, 0, 0, [])
def mr_34 : MRow := (⟨"PointerAnalyzer$Draft", "calls", "()I"⟩, prog_4_method_6_code, (some .int), 2, false, 1, 0, 0, [])
def mr_35 : MRow := (⟨"PointerAnalyzer$Draft", "get", "(I)I"⟩, prog_4_method_7_code, (some .int), 2, false, 2, 21, 0, [])
def mr_36 : MRow := (⟨"PointerAnalyzer$Graph", "clear", "()V"⟩, prog_5_method_2_code, none, 3, false, 2, 23, 0, [])
def mr_37 : MRow := (⟨"PointerAnalyzer$Graph", "connect", "(II)V"⟩, prog_5_method_3_code, none, 3, false, 3, 46, 0, [])
def mr_38 : MRow := (⟨"PointerAnalyzer$Graph", "connectAll", "(IJ)V"⟩, prog_5_method_4_code, none, 3, false, 2, 23, 0, [])
def mr_39 : MRow := (⟨"PointerAnalyzer$Graph", "close", "()V"⟩, prog_5_method_5_code, none, 3, false, 3, 46, 0, [])
def mr_40 : MRow := (⟨"PointerAnalyzer$Graph", "row", "(I)J"⟩, prog_5_method_6_code, (some .long), 3, false, 2, 21, 0, [])
def mr_41 : MRow := (⟨"PointerAnalyzer$Inclusion", "forget", "()V"⟩, prog_6_method_2_code, none, 4, false, 1, 0, 0, [])
def mr_42 : MRow := (⟨"PointerAnalyzer$Inclusion", "solve", "(LPointerAnalyzer$Program;I)V"⟩, prog_6_method_3_code, none, 4, false, 6, 126, 0, [])
def mr_43 : MRow := (⟨"PointerAnalyzer$Inclusion", "clear", "()V"⟩, prog_6_method_4_code, none, 4, false, 4, 64, 0, [])
def mr_44 : MRow := (⟨"PointerAnalyzer$Inclusion", "codeOf", "(I)I"⟩, prog_6_method_5_code, (some .int), 4, false, 3, 42, 0, [])
def mr_45 : MRow := (⟨"PointerAnalyzer$Inclusion", "apply", "(LPointerAnalyzer$Program;I)V"⟩, prog_6_method_6_code, none, 4, false, 5, 100, 0, [])
def mr_46 : MRow := (⟨"PointerAnalyzer$Inclusion", "cell", "(II)I"⟩, prog_6_method_7_code, (some .int), 4, true, 1, 0, 0, [])
def mr_47 : MRow := (⟨"PointerAnalyzer$Inclusion", "addLoaded", "(II)V"⟩, prog_6_method_8_code, none, 4, false, 4, 75, 0, [])
def mr_48 : MRow := (⟨"PointerAnalyzer$Inclusion", "addStored", "(II)V"⟩, prog_6_method_9_code, none, 4, false, 4, 75, 0, [])
def mr_49 : MRow := (⟨"PointerAnalyzer$Inclusion", "listPointees", "(I)I"⟩, prog_6_method_10_code, (some .int), 4, false, 3, 43, 0, [])
def mr_50 : MRow := (⟨"PointerAnalyzer$Inclusion", "addShifted", "(III)V"⟩, prog_6_method_11_code, none, 4, false, 4, 75, 0, [])
def mr_51 : MRow := (⟨"PointerAnalyzer$Inclusion", "add", "(II)V"⟩, prog_6_method_12_code, none, 4, false, 3, 52, 0, [])
def mr_52 : MRow := (⟨"PointerAnalyzer$Inclusion", "addAll", "(II)V"⟩, prog_6_method_13_code, none, 4, false, 3, 52, 0, [])
def mr_53 : MRow := (⟨"PointerAnalyzer$Inclusion", "addWord", "(IIJ)V"⟩, prog_6_method_14_code, none, 4, false, 2, 23, 0, [])
def mr_54 : MRow := (⟨"PointerAnalyzer$Inclusion", "word", "(II)J"⟩, prog_6_method_15_code, (some .long), 4, false, 2, 21, 0, [])
def mr_55 : MRow := (⟨"PointerAnalyzer$Inclusion", "contexts", "()LPointerAnalyzer$Contexts;"⟩, prog_6_method_16_code, (some (.object "PointerAnalyzer$Contexts")), 4, false, 1, 0, 0, [])
def mr_56 : MRow := (⟨"PointerAnalyzer$Inclusion", "facts", "()I"⟩, prog_6_method_17_code, (some .int), 4, false, 1, 0, 0, [])
def mr_57 : MRow := (⟨"PointerAnalyzer$Inclusion", "rounds", "()I"⟩, prog_6_method_18_code, (some .int), 4, false, 1, 0, 0, [])
def mr_58 : MRow := (⟨"PointerAnalyzer$Inclusion", "targetsOf", "(I)J"⟩, prog_6_method_19_code, (some .long), 4, false, 2, 21, 0, [])
def mr_60 : MRow := (⟨"PointerAnalyzer$Inclusion", "roundOf", "(II)I"⟩, prog_6_method_21_code, (some .int), 4, false, 2, 21, 0, [])
def mr_61 : MRow := (⟨"PointerAnalyzer$Inclusion", "originOf", "(II)I"⟩, prog_6_method_22_code, (some .int), 4, false, 2, 21, 0, [])
def mr_62 : MRow := (⟨"PointerAnalyzer$Machine", "clear", "()V"⟩, prog_7_method_2_code, none, 5, false, 2, 23, 0, [])
def mr_63 : MRow := (⟨"PointerAnalyzer$Machine", "play", "(LPointerAnalyzer$Program;)V"⟩, prog_7_method_3_code, none, 5, false, 6, 115, 0, [])
def mr_64 : MRow := (⟨"PointerAnalyzer$Machine", "takeCells", "(II)I"⟩, prog_7_method_4_code, (some .int), 5, false, 2, 22, 0, [])
def mr_65 : MRow := (⟨"PointerAnalyzer$Machine", "open", "(LPointerAnalyzer$Program;I)V"⟩, prog_7_method_5_code, none, 5, false, 3, 46, 0, [])
def mr_66 : MRow := (⟨"PointerAnalyzer$Machine", "close", "(LPointerAnalyzer$Program;)V"⟩, prog_7_method_6_code, none, 5, false, 3, 45, 0, [])
def mr_67 : MRow := (⟨"PointerAnalyzer$Machine", "execute", "(LPointerAnalyzer$Program;I)V"⟩, prog_7_method_7_code, none, 5, false, 5, 91, 0, [])
def mr_68 : MRow := (⟨"PointerAnalyzer$Machine", "load", "(II)V"⟩, prog_7_method_8_code, none, 5, false, 3, 45, 0, [])
def mr_69 : MRow := (⟨"PointerAnalyzer$Machine", "store", "(II)V"⟩, prog_7_method_9_code, none, 5, false, 3, 45, 0, [])
def mr_70 : MRow := (⟨"PointerAnalyzer$Machine", "shift", "(III)V"⟩, prog_7_method_10_code, none, 5, false, 3, 45, 0, [])
def mr_71 : MRow := (⟨"PointerAnalyzer$Machine", "call", "(LPointerAnalyzer$Program;II)V"⟩, prog_7_method_11_code, none, 5, false, 4, 68, 0, [])
def mr_72 : MRow := (⟨"PointerAnalyzer$Machine", "addressOf", "(I)I"⟩, prog_7_method_12_code, (some .int), 5, false, 2, 21, 0, [])
def mr_73 : MRow := (⟨"PointerAnalyzer$Machine", "read", "(I)I"⟩, prog_7_method_13_code, (some .int), 5, false, 2, 21, 0, [])
def mr_74 : MRow := (⟨"PointerAnalyzer$Machine", "write", "(II)V"⟩, prog_7_method_14_code, none, 5, false, 2, 23, 0, [])
def mr_75 : MRow := (⟨"PointerAnalyzer$Machine", "executed", "()I"⟩, prog_7_method_15_code, (some .int), 5, false, 1, 0, 0, [])
def mr_76 : MRow := (⟨"PointerAnalyzer$Machine", "failed", "()I"⟩, prog_7_method_16_code, (some .int), 5, false, 1, 0, 0, [])
def mr_77 : MRow := (⟨"PointerAnalyzer$Machine", "made", "()I"⟩, prog_7_method_17_code, (some .int), 5, false, 1, 0, 0, [])
def mr_78 : MRow := (⟨"PointerAnalyzer$Machine", "seenAt", "(I)J"⟩, prog_7_method_18_code, (some .long), 5, false, 2, 21, 0, [])
def mr_79 : MRow := (⟨"PointerAnalyzer$Program", "limit", "()I"⟩, prog_8_method_2_code, (some .int), 6, false, 1, 0, 0, [])
def mr_80 : MRow := (⟨"PointerAnalyzer$Program", "limitTo", "(I)V"⟩, prog_8_method_3_code, none, 6, false, 1, 0, 0, [])
def mr_81 : MRow := (⟨"PointerAnalyzer$Program", "hasRoomFor", "(ILPointerAnalyzer$Draft;)Z"⟩, prog_8_method_4_code, (some .boolean), 6, false, 5, 86, 0, [])
def mr_82 : MRow := (⟨"PointerAnalyzer$Program", "countElsewhere", "(II)I"⟩, prog_8_method_5_code, (some .int), 6, false, 4, 62, 0, [])
def mr_83 : MRow := (⟨"PointerAnalyzer$Program", "replaceBody", "(ILPointerAnalyzer$Draft;)V"⟩, prog_8_method_6_code, none, 6, false, 3, 47, 0, [])
def mr_84 : MRow := (⟨"PointerAnalyzer$Program", "copyFrom", "(LPointerAnalyzer$Program;)V"⟩, prog_8_method_7_code, none, 6, false, 3, 47, 0, [])
def mr_85 : MRow := (⟨"PointerAnalyzer$Program", "number", "()V"⟩, prog_8_method_8_code, none, 6, false, 2, 22, 0, [])
def mr_86 : MRow := (⟨"PointerAnalyzer$Program", "size", "()I"⟩, prog_8_method_9_code, (some .int), 6, false, 3, 42, 0, [])
def mr_87 : MRow := (⟨"PointerAnalyzer$Program", "sites", "()I"⟩, prog_8_method_10_code, (some .int), 6, false, 1, 0, 0, [])
def mr_88 : MRow := (⟨"PointerAnalyzer$Program", "startOf", "(I)I"⟩, prog_8_method_11_code, (some .int), 6, false, 2, 21, 0, [])
def mr_89 : MRow := (⟨"PointerAnalyzer$Program", "endOf", "(I)I"⟩, prog_8_method_12_code, (some .int), 6, false, 2, 21, 0, [])
def mr_90 : MRow := (⟨"PointerAnalyzer$Program", "kindAt", "(I)I"⟩, prog_8_method_13_code, (some .int), 6, false, 2, 21, 0, [])
def mr_91 : MRow := (⟨"PointerAnalyzer$Program", "leftAt", "(I)I"⟩, prog_8_method_14_code, (some .int), 6, false, 2, 21, 0, [])
def mr_92 : MRow := (⟨"PointerAnalyzer$Program", "rightAt", "(I)I"⟩, prog_8_method_15_code, (some .int), 6, false, 2, 21, 0, [])
def mr_93 : MRow := (⟨"PointerAnalyzer$Program", "numberAt", "(I)I"⟩, prog_8_method_16_code, (some .int), 6, false, 2, 21, 0, [])
def mr_94 : MRow := (⟨"PointerAnalyzer$Program", "ownerAt", "(I)I"⟩, prog_8_method_17_code, (some .int), 6, false, 2, 21, 0, [])
def mr_95 : MRow := (⟨"PointerAnalyzer$Program", "siteAt", "(I)I"⟩, prog_8_method_18_code, (some .int), 6, false, 2, 21, 0, [])
def mr_96 : MRow := (⟨"PointerAnalyzer$Rows", "get", "([II)I"⟩, prog_9_method_2_code, (some .int), 10, true, 1, 0, 0, [])
def mr_97 : MRow := (⟨"PointerAnalyzer$Rows", "get", "([JI)J"⟩, prog_9_method_3_code, (some .long), 10, true, 1, 0, 0, [])
def mr_98 : MRow := (⟨"PointerAnalyzer$Rows", "put", "([III)V"⟩, prog_9_method_4_code, none, 10, true, 1, 0, 0, [])
def mr_99 : MRow := (⟨"PointerAnalyzer$Rows", "unite", "([JIJ)V"⟩, prog_9_method_5_code, none, 10, true, 1, 0, 0, [])
def mr_100 : MRow := (⟨"PointerAnalyzer$Rows", "fill", "([JJ)V"⟩, prog_9_method_6_code, none, 10, true, 1, 0, 0, [])
def mr_101 : MRow := (⟨"PointerAnalyzer$Rows", "copy", "([I[I)V"⟩, prog_9_method_7_code, none, 10, true, 1, 0, 0, [])
def mr_102 : MRow := (⟨"PointerAnalyzer$Rows", "copy", "([J[J)V"⟩, prog_9_method_8_code, none, 10, true, 1, 0, 0, [])
def mr_103 : MRow := (⟨"PointerAnalyzer$Statement", "pack", "(IIII)I"⟩, prog_10_method_2_code, (some .int), 11, true, 1, 0, 0, [])
def mr_104 : MRow := (⟨"PointerAnalyzer$Statement", "kindIn", "(I)I"⟩, prog_10_method_3_code, (some .int), 11, true, 1, 0, 0, [])
def mr_105 : MRow := (⟨"PointerAnalyzer$Statement", "leftIn", "(I)I"⟩, prog_10_method_4_code, (some .int), 11, true, 1, 0, 0, [])
def mr_106 : MRow := (⟨"PointerAnalyzer$Statement", "rightIn", "(I)I"⟩, prog_10_method_5_code, (some .int), 11, true, 1, 0, 0, [])
def mr_107 : MRow := (⟨"PointerAnalyzer$Statement", "numberIn", "(I)I"⟩, prog_10_method_6_code, (some .int), 11, true, 1, 0, 0, [])
def mr_108 : MRow := (⟨"PointerAnalyzer$Unification", "forget", "()V"⟩, prog_11_method_2_code, none, 7, false, 1, 0, 0, [])
def mr_109 : MRow := (⟨"PointerAnalyzer$Unification", "solve", "(LPointerAnalyzer$Program;)V"⟩, prog_11_method_3_code, none, 7, false, 5, 96, 0, [])
def mr_110 : MRow := (⟨"PointerAnalyzer$Unification", "separate", "()V"⟩, prog_11_method_4_code, none, 7, false, 2, 22, 0, [])
def mr_111 : MRow := (⟨"PointerAnalyzer$Unification", "pointee", "(I)I"⟩, prog_11_method_5_code, (some .int), 7, true, 1, 0, 0, [])
def mr_112 : MRow := (⟨"PointerAnalyzer$Unification", "secondPointee", "(I)I"⟩, prog_11_method_6_code, (some .int), 7, true, 1, 0, 0, [])
def mr_113 : MRow := (⟨"PointerAnalyzer$Unification", "siteTerm", "(I)I"⟩, prog_11_method_7_code, (some .int), 7, true, 1, 0, 0, [])
def mr_114 : MRow := (⟨"PointerAnalyzer$Unification", "apply", "(LPointerAnalyzer$Program;I)V"⟩, prog_11_method_8_code, none, 7, false, 4, 71, 0, [])
def mr_115 : MRow := (⟨"PointerAnalyzer$Unification", "join", "(II)V"⟩, prog_11_method_9_code, none, 7, false, 3, 44, 0, [])
def mr_116 : MRow := (⟨"PointerAnalyzer$Unification", "root", "(I)I"⟩, prog_11_method_10_code, (some .int), 7, false, 2, 21, 0, [])
def mr_117 : MRow := (⟨"PointerAnalyzer$Unification", "joins", "(II)Z"⟩, prog_11_method_11_code, (some .boolean), 7, false, 3, 44, 0, [])
def mr_118 : MRow := (⟨"PointerAnalyzer$Unification", "targetsOf", "(II)J"⟩, prog_11_method_12_code, (some .long), 7, false, 3, 44, 0, [])
def mr_119 : MRow := (⟨"PointerAnalyzer$Unification", "classes", "(I)I"⟩, prog_11_method_13_code, (some .int), 7, false, 5, 88, 0, [])
def mr_120 : MRow := (⟨"PointerAnalyzer$Unification", "isFirstOfClass", "(I)Z"⟩, prog_11_method_14_code, (some .boolean), 7, false, 4, 66, 0, [])
def mr_121 : MRow := (⟨"PointerAnalyzer", "appendCharacter", "(I)I"⟩, prog_1_method_2_code, (some .int), 8, false, 7, 90, 2, [])
def mr_122 : MRow := (⟨"PointerAnalyzer", "setBody", "(I)I"⟩, prog_1_method_3_code, (some .int), 8, false, 8, 138, 3, [])
def mr_124 : MRow := (⟨"PointerAnalyzer", "statementCount", "()I"⟩, prog_1_method_5_code, (some .int), 8, false, 4, 62, 0, [])
def mr_125 : MRow := (⟨"PointerAnalyzer", "kind", "(I)I"⟩, prog_1_method_6_code, (some .int), 8, false, 8, 111, 1, [])
def mr_126 : MRow := (⟨"PointerAnalyzer", "functionOf", "(I)I"⟩, prog_1_method_7_code, (some .int), 8, false, 8, 111, 1, [])
def mr_127 : MRow := (⟨"PointerAnalyzer", "siteCount", "()I"⟩, prog_1_method_8_code, (some .int), 8, false, 2, 20, 0, [])
def mr_128 : MRow := (⟨"PointerAnalyzer", "setLimit", "(I)I"⟩, prog_1_method_9_code, (some .int), 8, false, 7, 90, 1, [])
def mr_129 : MRow := (⟨"PointerAnalyzer", "contextCount", "(I)I"⟩, prog_1_method_10_code, (some .int), 8, false, 8, 153, 1, [])
def mr_132 : MRow := (⟨"PointerAnalyzer", "pointsTo", "(I)J"⟩, prog_1_method_13_code, (some .long), 8, false, 8, 153, 1, [])
def mr_134 : MRow := (⟨"PointerAnalyzer", "fieldPointsTo", "(II)J"⟩, prog_1_method_15_code, (some .long), 8, false, 8, 153, 1, [])
def mr_135 : MRow := (⟨"PointerAnalyzer", "factCount", "()I"⟩, prog_1_method_16_code, (some .int), 8, false, 7, 153, 0, [])
def mr_136 : MRow := (⟨"PointerAnalyzer", "mayAlias", "(II)Z"⟩, prog_1_method_17_code, (some .boolean), 8, false, 8, 153, 2, [])
def mr_137 : MRow := (⟨"PointerAnalyzer", "reach", "(I)J"⟩, prog_1_method_18_code, (some .long), 8, false, 8, 153, 1, [])
def mr_138 : MRow := (⟨"PointerAnalyzer", "escapingSites", "()I"⟩, prog_1_method_19_code, (some .int), 8, false, 7, 153, 0, [])
def mr_139 : MRow := (⟨"PointerAnalyzer", "rank", "(II)I"⟩, prog_1_method_20_code, (some .int), 8, false, 9, 153, 3, [])
def mr_140 : MRow := (⟨"PointerAnalyzer", "reason", "(II)I"⟩, prog_1_method_21_code, (some .int), 8, false, 9, 153, 3, [])
def mr_141 : MRow := (⟨"PointerAnalyzer", "roundCount", "()I"⟩, prog_1_method_22_code, (some .int), 8, false, 7, 153, 0, [])
def mr_142 : MRow := (⟨"PointerAnalyzer", "unifiedTargets", "(I)J"⟩, prog_1_method_23_code, (some .long), 8, false, 8, 118, 1, [])
def mr_143 : MRow := (⟨"PointerAnalyzer", "areUnified", "(II)Z"⟩, prog_1_method_24_code, (some .boolean), 8, false, 8, 118, 2, [])
def mr_144 : MRow := (⟨"PointerAnalyzer", "unifiedClasses", "()I"⟩, prog_1_method_25_code, (some .int), 8, false, 6, 118, 0, [])
def mr_145 : MRow := (⟨"PointerAnalyzer", "modifies", "(I)J"⟩, prog_1_method_26_code, (some .long), 8, false, 8, 153, 1, [])
def mr_146 : MRow := (⟨"PointerAnalyzer", "isReachable", "(I)Z"⟩, prog_1_method_27_code, (some .boolean), 8, false, 8, 153, 1, [])
def mr_148 : MRow := (⟨"PointerAnalyzer", "cycleOf", "(I)I"⟩, prog_1_method_29_code, (some .int), 8, false, 8, 111, 1, [])
def mr_149 : MRow := (⟨"PointerAnalyzer", "run", "()I"⟩, prog_1_method_30_code, (some .int), 8, false, 7, 139, 0, [])
def mr_150 : MRow := (⟨"PointerAnalyzer", "observed", "(I)J"⟩, prog_1_method_31_code, (some .long), 8, false, 8, 111, 1, [])
def mr_151 : MRow := (⟨"PointerAnalyzer", "fieldObserved", "(II)J"⟩, prog_1_method_32_code, (some .long), 8, false, 8, 112, 1, [])
def mr_152 : MRow := (⟨"PointerAnalyzer", "faults", "()I"⟩, prog_1_method_33_code, (some .int), 8, false, 2, 20, 0, [])
def mr_153 : MRow := (⟨"PointerAnalyzer", "objects", "()I"⟩, prog_1_method_34_code, (some .int), 8, false, 2, 20, 0, [])
def mr_154 : MRow := (⟨"PointerAnalyzer", "precision", "()D"⟩, prog_1_method_35_code, (some .double), 8, false, 7, 153, 1, [])
def mr_156 : MRow := (⟨"PointerAnalyzer", "save", "()V"⟩, prog_1_method_37_code, none, 8, false, 4, 68, 0, [])
def mr_157 : MRow := (⟨"PointerAnalyzer", "restore", "()V"⟩, prog_1_method_38_code, none, 8, false, 7, 90, 1, [])
def mr_158 : MRow := (⟨"PointerAnalyzer", "forgetAnswers", "()V"⟩, prog_1_method_39_code, none, 8, false, 3, 43, 0, [])
def mr_159 : MRow := (⟨"PointerAnalyzer", "drawPointers", "()V"⟩, prog_1_method_40_code, none, 8, false, 4, 68, 0, [])
def mr_160 : MRow := (⟨"PointerAnalyzer", "drawCalls", "()V"⟩, prog_1_method_41_code, none, 8, false, 4, 68, 0, [])
def mr_161 : MRow := (⟨"PointerAnalyzer", "drawFlow", "()V"⟩, prog_1_method_42_code, none, 8, false, 4, 68, 0, [])
def mr_162 : MRow := (⟨"PointerAnalyzer", "checkFunction", "(I)V"⟩, prog_1_method_43_code, none, 8, false, 7, 90, 1, [])
def mr_164 : MRow := (⟨"PointerAnalyzer", "checkStatement", "(I)V"⟩, prog_1_method_45_code, none, 8, false, 7, 90, 1, [])
def mr_165 : MRow := (⟨"PointerAnalyzer", "checkVariable", "(I)V"⟩, prog_1_method_46_code, none, 8, false, 7, 90, 1, [])
def mr_166 : MRow := (⟨"PointerAnalyzer", "checkField", "(II)V"⟩, prog_1_method_47_code, none, 8, false, 7, 90, 1, [])
def mr_167 : MRow := (⟨"PointerAnalyzer", "checkPlainFact", "(II)V"⟩, prog_1_method_48_code, none, 8, false, 8, 111, 3, [])
def mr_168 : MRow := (⟨"PointerAnalyzer", "parameterOf", "(I)I"⟩, prog_1_method_49_code, (some .int), 8, true, 1, 0, 0, [])
def mr_169 : MRow := (⟨"PointerAnalyzer", "resultOf", "(I)I"⟩, prog_1_method_50_code, (some .int), 8, true, 2, 20, 0, [])
def mr_171 : MRow := (⟨"PointerAnalyzer", "fieldCode", "(II)I"⟩, prog_1_method_52_code, (some .int), 8, true, 1, 0, 0, [])
def mr_172 : MRow := (⟨"PointerAnalyzer", "allFields", "(I)J"⟩, prog_1_method_53_code, (some .long), 8, true, 2, 21, 0, [])
def mr_173 : MRow := (⟨"PointerAnalyzer", "has", "(JI)Z"⟩, prog_1_method_54_code, (some .boolean), 8, true, 1, 0, 0, [])
def mr_174 : MRow := (⟨"java/lang/Long", "bitCount", "(J)I"⟩, prog_28_method_50_code, (some .int), 13, true, 1, 0, 0, [])
def mr_176 : MRow := (⟨"java/lang/Double", "isNaN", "(D)Z"⟩, prog_22_method_6_code, (some .boolean), 15, true, 1, 0, 0, [])
def mr_177 : MRow := (⟨"java/lang/Double", "doubleToLongBits", "(D)J"⟩, prog_22_method_23_code, (some .long), 15, true, 2, 23, 0, [])
def mr_178 : MRow := (⟨"PointerAnalyzerLaw", "appendCharacter", "(LPointerAnalyzer;I)J"⟩, method_2_code, (some .long), 12, true, 8, 111, 2, [(0, 6, 7, 13), (0, 6, 12, 19)])
def mr_179 : MRow := (⟨"PointerAnalyzerLaw", "setBody", "(LPointerAnalyzer;I)J"⟩, method_3_code, (some .long), 12, true, 9, 159, 3, [(0, 6, 7, 26), (0, 6, 12, 13), (0, 6, 17, 19)])
def mr_180 : MRow := (⟨"PointerAnalyzerLaw", "statementCount", "(LPointerAnalyzer;)J"⟩, method_5_code, (some .long), 12, true, 5, 82, 0, [])
def mr_181 : MRow := (⟨"PointerAnalyzerLaw", "kind", "(LPointerAnalyzer;I)J"⟩, method_6_code, (some .long), 12, true, 9, 132, 1, [(0, 6, 7, 26)])
def mr_182 : MRow := (⟨"PointerAnalyzerLaw", "functionOf", "(LPointerAnalyzer;I)J"⟩, method_7_code, (some .long), 12, true, 9, 132, 1, [(0, 6, 7, 26)])
def mr_183 : MRow := (⟨"PointerAnalyzerLaw", "siteCount", "(LPointerAnalyzer;)J"⟩, method_8_code, (some .long), 12, true, 3, 40, 0, [])
def mr_184 : MRow := (⟨"PointerAnalyzerLaw", "setLimit", "(LPointerAnalyzer;I)J"⟩, method_9_code, (some .long), 12, true, 8, 112, 1, [(0, 6, 7, 13)])
def mr_185 : MRow := (⟨"PointerAnalyzerLaw", "contextCount", "(LPointerAnalyzer;I)J"⟩, method_10_code, (some .long), 12, true, 9, 174, 1, [(0, 6, 7, 26)])
def mr_186 : MRow := (⟨"PointerAnalyzerLaw", "pointsTo", "(LPointerAnalyzer;I)J"⟩, method_13_code, (some .long), 12, true, 9, 174, 1, [(0, 5, 6, 26)])
def mr_187 : MRow := (⟨"PointerAnalyzerLaw", "fieldPointsTo", "(LPointerAnalyzer;II)J"⟩, method_15_code, (some .long), 12, true, 9, 175, 1, [(0, 6, 7, 26)])
def mr_188 : MRow := (⟨"PointerAnalyzerLaw", "factCount", "(LPointerAnalyzer;)J"⟩, method_16_code, (some .long), 12, true, 8, 173, 0, [])
def mr_189 : MRow := (⟨"PointerAnalyzerLaw", "mayAlias", "(LPointerAnalyzer;II)J"⟩, method_17_code, (some .long), 12, true, 9, 175, 2, [(0, 14, 15, 26)])
def mr_190 : MRow := (⟨"PointerAnalyzerLaw", "reach", "(LPointerAnalyzer;I)J"⟩, method_18_code, (some .long), 12, true, 9, 174, 1, [(0, 5, 6, 26)])
def mr_191 : MRow := (⟨"PointerAnalyzerLaw", "escapingSites", "(LPointerAnalyzer;)J"⟩, method_19_code, (some .long), 12, true, 8, 177, 0, [])
def mr_192 : MRow := (⟨"PointerAnalyzerLaw", "rank", "(LPointerAnalyzer;II)J"⟩, method_20_code, (some .long), 12, true, 10, 175, 3, [(0, 7, 8, 26), (0, 7, 13, 87)])
def mr_193 : MRow := (⟨"PointerAnalyzerLaw", "reason", "(LPointerAnalyzer;II)J"⟩, method_21_code, (some .long), 12, true, 10, 175, 3, [(0, 7, 8, 26), (0, 7, 13, 87)])
def mr_194 : MRow := (⟨"PointerAnalyzerLaw", "roundCount", "(LPointerAnalyzer;)J"⟩, method_22_code, (some .long), 12, true, 8, 173, 0, [])
def mr_195 : MRow := (⟨"PointerAnalyzerLaw", "unifiedTargets", "(LPointerAnalyzer;I)J"⟩, method_23_code, (some .long), 12, true, 9, 139, 1, [(0, 5, 6, 26)])
def mr_196 : MRow := (⟨"PointerAnalyzerLaw", "areUnified", "(LPointerAnalyzer;II)J"⟩, method_24_code, (some .long), 12, true, 9, 140, 2, [(0, 14, 15, 26)])
def mr_197 : MRow := (⟨"PointerAnalyzerLaw", "unifiedClasses", "(LPointerAnalyzer;)J"⟩, method_25_code, (some .long), 12, true, 7, 138, 0, [])
def mr_198 : MRow := (⟨"PointerAnalyzerLaw", "modifies", "(LPointerAnalyzer;I)J"⟩, method_26_code, (some .long), 12, true, 9, 179, 1, [(0, 5, 6, 26)])
def mr_199 : MRow := (⟨"PointerAnalyzerLaw", "isReachable", "(LPointerAnalyzer;I)J"⟩, method_27_code, (some .long), 12, true, 9, 174, 1, [(0, 13, 14, 26)])
def mr_200 : MRow := (⟨"PointerAnalyzerLaw", "cycleOf", "(LPointerAnalyzer;I)J"⟩, method_29_code, (some .long), 12, true, 9, 136, 1, [(0, 6, 7, 26)])
def mr_201 : MRow := (⟨"PointerAnalyzerLaw", "run", "(LPointerAnalyzer;)J"⟩, method_30_code, (some .long), 12, true, 8, 159, 0, [])
def mr_202 : MRow := (⟨"PointerAnalyzerLaw", "observed", "(LPointerAnalyzer;I)J"⟩, method_31_code, (some .long), 12, true, 9, 132, 1, [(0, 5, 6, 26)])
def mr_203 : MRow := (⟨"PointerAnalyzerLaw", "fieldObserved", "(LPointerAnalyzer;II)J"⟩, method_32_code, (some .long), 12, true, 9, 134, 1, [(0, 6, 7, 26)])
def mr_204 : MRow := (⟨"PointerAnalyzerLaw", "faults", "(LPointerAnalyzer;)J"⟩, method_33_code, (some .long), 12, true, 3, 40, 0, [])
def mr_205 : MRow := (⟨"PointerAnalyzerLaw", "objects", "(LPointerAnalyzer;)J"⟩, method_34_code, (some .long), 12, true, 3, 40, 0, [])
def mr_206 : MRow := (⟨"PointerAnalyzerLaw", "precision", "(LPointerAnalyzer;)J"⟩, method_35_code, (some .long), 12, true, 8, 176, 1, [(0, 7, 8, 142)])
def mr_207 : MRow := (⟨"PointerAnalyzerLaw", "save", "(LPointerAnalyzer;)J"⟩, method_37_code, (some .long), 12, true, 5, 88, 0, [])
def mr_208 : MRow := (⟨"PointerAnalyzerLaw", "restore", "(LPointerAnalyzer;)J"⟩, method_38_code, (some .long), 12, true, 8, 110, 1, [(0, 5, 6, 19)])
def mr_209 : MRow := (⟨"PointerAnalyzerLaw", "pick", "(II)I"⟩, method_39_code, (some .int), 12, true, 1, 0, 0, [])
def mr_210 : MRow := (⟨"PointerAnalyzerLaw", "bounds", "(LPointerAnalyzer;)Z"⟩, method_45_code, (some .boolean), 12, true, 10, 198, 20, [])
def mr_211 : MRow := (⟨"PointerAnalyzerLaw", "ranks", "(LPointerAnalyzer;)Z"⟩, method_46_code, (some .boolean), 12, true, 11, 198, 10, [])
def mr_212 : MRow := (⟨"PointerAnalyzerLaw", "functions", "(LPointerAnalyzer;)Z"⟩, method_47_code, (some .boolean), 12, true, 11, 217, 21, [])
def mr_213 : MRow := (⟨"PointerAnalyzerLaw", "allReachable", "(LPointerAnalyzer;)Z"⟩, method_48_code, (some .boolean), 12, true, 10, 196, 4, [])
def mr_214 : MRow := (⟨"PointerAnalyzerLaw", "saved", "(LPointerAnalyzer;I)Z"⟩, method_49_code, (some .boolean), 12, true, 10, 193, 4, [])
def mT : List MRow := [mr_0, mr_1, mr_2, mr_3, mr_4, mr_5, mr_6, mr_7, mr_8, mr_9, mr_10, mr_11, mr_12, mr_13, mr_14, mr_15, mr_16, mr_17, mr_18, mr_19, mr_20, mr_21, mr_22, mr_23, mr_0, mr_25, mr_26, mr_0, mr_0, mr_29, mr_30, mr_31, mr_32, mr_33, mr_34, mr_35, mr_36, mr_37, mr_38, mr_39, mr_40, mr_41, mr_42, mr_43, mr_44, mr_45, mr_46, mr_47, mr_48, mr_49, mr_50, mr_51, mr_52, mr_53, mr_54, mr_55, mr_56, mr_57, mr_58, mr_0, mr_60, mr_61, mr_62, mr_63, mr_64, mr_65, mr_66, mr_67, mr_68, mr_69, mr_70, mr_71, mr_72, mr_73, mr_74, mr_75, mr_76, mr_77, mr_78, mr_79, mr_80, mr_81, mr_82, mr_83, mr_84, mr_85, mr_86, mr_87, mr_88, mr_89, mr_90, mr_91, mr_92, mr_93, mr_94, mr_95, mr_96, mr_97, mr_98, mr_99, mr_100, mr_101, mr_102, mr_103, mr_104, mr_105, mr_106, mr_107, mr_108, mr_109, mr_110, mr_111, mr_112, mr_113, mr_114, mr_115, mr_116, mr_117, mr_118, mr_119, mr_120, mr_121, mr_122, mr_0, mr_124, mr_125, mr_126, mr_127, mr_128, mr_129, mr_0, mr_0, mr_132, mr_0, mr_134, mr_135, mr_136, mr_137, mr_138, mr_139, mr_140, mr_141, mr_142, mr_143, mr_144, mr_145, mr_146, mr_0, mr_148, mr_149, mr_150, mr_151, mr_152, mr_153, mr_154, mr_0, mr_156, mr_157, mr_158, mr_159, mr_160, mr_161, mr_162, mr_0, mr_164, mr_165, mr_166, mr_167, mr_168, mr_169, mr_0, mr_171, mr_172, mr_173, mr_174, mr_0, mr_176, mr_177, mr_178, mr_179, mr_180, mr_181, mr_182, mr_183, mr_184, mr_185, mr_186, mr_187, mr_188, mr_189, mr_190, mr_191, mr_192, mr_193, mr_194, mr_195, mr_196, mr_197, mr_198, mr_199, mr_200, mr_201, mr_202, mr_203, mr_204, mr_205, mr_206, mr_207, mr_208, mr_209, mr_210, mr_211, mr_212, mr_213, mr_214]
def mrw (mi : Nat) : MRow := mT.getD mi mr_0
abbrev mY (mi : Nat) : MethodName := (mrw mi).1
abbrev mB (mi : Nat) : ByteArray := (mrw mi).2.1
abbrev mR (mi : Nat) : Option FieldType := (mrw mi).2.2.1
abbrev mC (mi : Nat) : Nat := (mrw mi).2.2.2.1
abbrev mS (mi : Nat) : Bool := (mrw mi).2.2.2.2.1
abbrev mFr (mi : Nat) : Nat := (mrw mi).2.2.2.2.2.1
abbrev mLo (mi : Nat) : Nat := (mrw mi).2.2.2.2.2.2.1
abbrev mBu (mi : Nat) : Nat := (mrw mi).2.2.2.2.2.2.2.1
abbrev mH (mi : Nat) : List (Nat × Nat × Nat × Nat) := (mrw mi).2.2.2.2.2.2.2.2
def cdW (mi : Nat) : Cond := if (mH mi).isEmpty then .code (mY mi) (mB mi) (mL mi) (mR mi) else .codeWith (mY mi) (mB mi) (mL mi) (mR mi) (mH mi)
abbrev hostN : String := "PointerAnalyzer"
def LF : List (Nat × (Nat × (Nat × Nat))) := [(0, 11, 0, 105), (0, 15, 1, 106), (0, 29, 3, 108), (0, 32, 2, 107), (1, 11, 0, 181), (1, 15, 1, 182), (1, 18, 3, 184), (1, 22, 2, 183), (2, 9, 0, 125), (2, 15, 1, 126), (2, 19, 2, 127), (2, 22, 3, 128), (3, 9, 0, 257), (4, 14, 0, 194), (4, 18, 1, 195), (4, 22, 2, 196), (4, 25, 3, 197), (4, 29, 4, 198), (4, 32, 5, 199), (4, 35, 6, 200), (4, 38, 7, 201), (4, 41, 8, 202), (4, 52, 9, 203), (4, 56, 11, 205), (4, 81, 12, 206), (4, 87, 10, 204), (5, 11, 0, 267), (5, 15, 1, 268), (5, 18, 2, 269), (5, 22, 3, 270), (5, 25, 4, 271), (5, 28, 5, 272), (5, 31, 6, 273), (5, 35, 7, 274), (5, 38, 8, 275), (5, 41, 9, 276), (5, 44, 10, 277), (6, 9, 0, 144), (6, 15, 1, 145), (6, 18, 3, 147), (6, 21, 4, 148), (6, 24, 5, 149), (6, 27, 6, 150), (6, 30, 2, 146), (6, 74, 7, 151), (7, 11, 0, 241), (7, 15, 1, 242), (7, 18, 2, 243), (8, 12, 0, 301), (8, 19, 1, 302), (8, 26, 2, 303), (8, 30, 3, 304), (8, 36, 4, 305), (8, 40, 5, 306), (8, 46, 6, 307), (8, 53, 7, 308), (8, 60, 8, 309), (8, 64, 9, 310), (8, 68, 10, 311)]
def LM : List (Nat × (Nat × (Nat × Nat))) := [(0, 19, 98, 499), (0, 35, 30, 559), (0, 40, 4, 563), (0, 44, 9, 567), (0, 48, 5, 575), (0, 51, 11, 579), (0, 55, 6, 587), (0, 59, 31, 591), (0, 63, 7, 599), (0, 67, 8, 607), (0, 70, 10, 603), (0, 73, 13, 571), (0, 76, 12, 583), (1, 25, 18, 1088), (1, 29, 96, 1096), (1, 35, 15, 1098), (1, 39, 20, 1113), (1, 42, 21, 1117), (1, 46, 98, 1097), (1, 50, 88, 1102), (1, 55, 89, 1103), (1, 58, 90, 1104), (1, 61, 93, 1105), (1, 64, 16, 1106), (1, 68, 17, 1110), (1, 71, 19, 1092), (1, 77, 26, 1204), (2, 25, 103, 595), (2, 31, 98, 598), (2, 37, 96, 667), (3, 15, 100, 1299), (3, 21, 38, 1315), (3, 25, 99, 1304), (3, 29, 40, 1309), (3, 37, 97, 1313), (4, 45, 14, 1084), (4, 49, 43, 1121), (4, 59, 102, 1136), (4, 65, 22, 1139), (4, 69, 25, 1130), (4, 73, 88, 1143), (4, 78, 89, 1144), (4, 84, 45, 1145), (4, 90, 100, 1125), (4, 94, 44, 1126), (4, 97, 98, 1135), (4, 104, 91, 1149), (4, 107, 46, 1150), (4, 111, 92, 1153), (4, 114, 93, 1154), (4, 117, 90, 1155), (4, 120, 51, 1156), (4, 124, 47, 1173), (4, 127, 48, 1189), (4, 130, 95, 1193), (4, 133, 50, 1194), (4, 137, 29, 1200), (4, 141, 52, 1185), (4, 147, 49, 1177), (4, 150, 96, 1169), (4, 154, 54, 1181), (4, 166, 53, 1160), (4, 170, 97, 1164), (4, 175, 99, 1168), (5, 47, 100, 689), (5, 53, 62, 959), (5, 56, 64, 960), (5, 60, 65, 965), (5, 64, 96, 971), (5, 68, 89, 972), (5, 74, 98, 964), (5, 78, 67, 976), (5, 81, 66, 1040), (5, 85, 88, 969), (5, 94, 72, 987), (5, 97, 73, 1006), (5, 100, 91, 980), (5, 103, 74, 999), (5, 107, 92, 991), (5, 110, 90, 998), (5, 113, 68, 1010), (5, 116, 69, 1014), (5, 119, 95, 1018), (5, 125, 93, 1025), (5, 128, 70, 1032), (5, 132, 71, 1036), (5, 136, 99, 1003), (5, 140, 97, 1224), (6, 34, 32, 620), (6, 40, 33, 624), (6, 43, 82, 628), (6, 47, 34, 654), (6, 50, 86, 632), (6, 51, 90, 643), (6, 55, 94, 650), (6, 58, 35, 663), (6, 61, 98, 668), (6, 67, 85, 669), (6, 70, 101, 1608), (6, 77, 96, 640), (6, 80, 104, 647), (6, 85, 88, 636), (6, 88, 105, 984), (6, 91, 106, 995), (6, 94, 107, 1029), (7, 22, 110, 1236), (7, 25, 86, 1247), (7, 31, 114, 1248), (7, 35, 98, 1240), (7, 41, 111, 1241), (7, 45, 112, 1244), (7, 48, 91, 1252), (7, 51, 92, 1253), (7, 54, 93, 1254), (7, 57, 90, 1255), (7, 60, 115, 1256), (7, 64, 95, 1265), (7, 67, 113, 1266), (7, 76, 116, 1260), (7, 79, 96, 1264), (7, 87, 120, 1592), (7, 91, 117, 1596), (8, 79, 0, 475), (8, 88, 1, 495), (8, 92, 162, 535), (8, 96, 3, 552), (8, 100, 2, 611), (8, 105, 81, 616), (8, 111, 83, 659), (8, 115, 158, 673), (8, 118, 32, 692), (8, 122, 86, 1488), (8, 123, 164, 1496), (8, 126, 90, 1501), (8, 129, 94, 1509), (8, 132, 87, 1271), (8, 137, 79, 1060), (8, 140, 80, 1064), (8, 143, 41, 677), (8, 146, 42, 1080), (8, 150, 55, 1517), (8, 154, 23, 1521), (8, 176, 165, 1075), (8, 179, 58, 1209), (8, 192, 166, 1356), (8, 195, 171, 1283), (8, 198, 56, 1375), (8, 201, 159, 1291), (8, 204, 40, 1316), (8, 207, 172, 1576), (8, 210, 167, 1440), (8, 213, 60, 1462), (8, 216, 61, 1477), (8, 219, 57, 1427), (8, 222, 109, 1232), (8, 225, 118, 1275), (8, 227, 117, 1337), (8, 231, 119, 1588), (8, 234, 160, 1536), (8, 237, 173, 1445), (8, 241, 91, 1545), (8, 244, 161, 1560), (8, 247, 63, 955), (8, 250, 75, 1048), (8, 253, 78, 1220), (8, 256, 76, 1629), (8, 259, 77, 1618), (8, 262, 174, 1400), (8, 275, 84, 1604), (8, 280, 108, 681), (8, 281, 62, 685), (8, 284, 36, 1295), (8, 285, 38, 1300), (8, 289, 39, 1305), (8, 292, 93, 1540), (8, 295, 37, 1541), (8, 298, 92, 1564), (8, 301, 168, 1047), (8, 304, 169, 1565), (12, 7, 121, 400), (12, 23, 122, 531), (12, 34, 124, 1484), (12, 37, 125, 1492), (12, 40, 126, 1505), (12, 43, 127, 1345), (12, 46, 128, 1055), (12, 49, 129, 1549), (12, 60, 132, 1071), (12, 68, 134, 1364), (12, 71, 135, 1371), (12, 74, 136, 1326), (12, 78, 137, 1287), (12, 81, 138, 1572), (12, 84, 139, 1436), (12, 89, 140, 1473), (12, 92, 141, 1423), (12, 95, 142, 1228), (12, 98, 143, 1333), (12, 101, 144, 1584), (12, 104, 145, 1532), (12, 107, 146, 1513), (12, 114, 148, 1556), (12, 117, 149, 951), (12, 120, 150, 1216), (12, 123, 151, 1352), (12, 126, 152, 1625), (12, 129, 153, 1614), (12, 132, 154, 1396), (12, 136, 177, 1404), (12, 154, 156, 1600), (12, 157, 157, 1636), (12, 221, 209, 695), (12, 234, 201, 948), (12, 237, 184, 1052), (12, 239, 186, 1068), (12, 241, 202, 1213), (12, 243, 195, 1225), (12, 245, 190, 1284), (12, 247, 174, 1317), (12, 253, 189, 1323), (12, 256, 196, 1330), (12, 260, 183, 1342), (12, 262, 203, 1349), (12, 264, 187, 1361), (12, 266, 188, 1368), (12, 268, 206, 1379), (12, 274, 194, 1420), (12, 278, 192, 1432), (12, 288, 193, 1470), (12, 290, 180, 1481), (12, 292, 181, 1489), (12, 294, 182, 1502), (12, 296, 199, 1510), (12, 300, 198, 1529), (12, 302, 185, 1546), (12, 304, 200, 1553), (12, 306, 213, 1566), (12, 310, 191, 1569), (12, 314, 197, 1581), (12, 318, 205, 1611), (12, 320, 204, 1622), (12, 322, 208, 1633), (15, 122, 176, 1407)]
def LN : List (Nat × (Nat × (Nat × Nat))) := [(0, 25, 168, 556), (3, 33, 173, 1314), (4, 101, 168, 1134), (4, 144, 169, 1208), (4, 158, 173, 1170), (5, 88, 168, 970), (5, 91, 169, 1044), (5, 122, 171, 1022), (7, 70, 168, 1269), (7, 73, 169, 1270), (7, 83, 172, 1279)]
def LL : List (Nat × (Nat × (Int × Nat))) := [(4, 162, 7190235, 1198), (4, 164, 2396745, 1199), (4, 173, -1, 1167), (8, 322, 7, 1282), (12, 17, -4000000000000000001, 502), (12, 21, -4000000000000000002, 503), (12, 28, -4000000000000000003, 693), (12, 232, -1, 947), (12, 258, 3, 1341), (12, 276, 20, 1431), (12, 280, 59, 1466), (12, 298, 4, 1525), (12, 312, 7, 1577), (13, 314, 6148914691236517205, 1320), (13, 316, 3689348814741910323, 1321), (13, 318, 1085102592571150095, 1322), (15, 137, 9221120237041090560, 1413)]
def LC : List (Nat × (Nat × (Int × Nat))) := [(12, 160, 2147483647, 698)]
def LNa : List (Nat × (Nat × (Nat × Nat))) := [(12, 270, 1001, 1414), (12, 282, 1002, 1467), (15, 134, 1000, 1410)]
abbrev natN (x : Nat) : MethodName := if x = 1000 then ⟨"java/lang/Double", "doubleToRawLongBits", "(D)J"⟩ else if x = 1001 then ⟨"java/lang/Double", "longBitsToDouble", "(J)D"⟩ else ⟨"java/lang/Math", "min", "(JJ)J"⟩
theorem nat_w : ([1412, 1416, 1411, 1415, 89, 1468, 1469, 82].map (fun i => lw_tbl[i]?)) = [some (.native (natN 1000)), some (.native (natN 1001)), some (.static (natN 1000)), some (.static (natN 1001)), some (.initialized "java/lang/Double"), some (.static (natN 1002)), some (.code Lib.MathLoose.min_long.x Lib.MathLoose.min_long.code 4 (some .long)), some (.initialized "java/lang/Math")] := by decide +kernel
def TG : List Cond := lw_tbl.filter goodWord
theorem tg_mem {i : Nat} {w : Cond} (h : lw_tbl[i]? = some w) (g : goodWord w = true) : w ∈ TG := List.mem_filter.mpr ⟨List.mem_of_getElem? h, g⟩
theorem tg_good {w : Cond} (h : w ∈ TG) : (w.onTables && w.keeps) = true ∨ ∃ ty, w = .arrayClass ty := good_of_word (List.mem_filter.mp h).2
def wLF (e : Nat × (Nat × (Nat × Nat))) : Cond := .fieldLink (cN e.1) e.2.1 (cN e.1) (fT e.1 e.2.2.1).2.1 (fT e.1 e.2.2.1).2.2.1
theorem LF_ok : LF.all (fun e => decide (lw_tbl[e.2.2.2]? = some (wLF e))) = true := by decide +kernel
def wLM (e : Nat × (Nat × (Nat × Nat))) : Cond := .methodLink (cN e.1) e.2.1 (mY e.2.2.1)
theorem LM_ok : LM.all (fun e => decide (lw_tbl[e.2.2.2]? = some (wLM e))) = true := by decide +kernel
def wLN (e : Nat × (Nat × (Nat × Nat))) : Cond := .methodLinkNest (cN e.1) e.2.1 (mY e.2.2.1) hostN
theorem LN_ok : LN.all (fun e => decide (lw_tbl[e.2.2.2]? = some (wLN e))) = true := by decide +kernel
def wLL (e : Nat × (Nat × (Int × Nat))) : Cond := .constantLong (cN e.1) e.2.1 (Int64.ofInt e.2.2.1)
theorem LL_ok : LL.all (fun e => decide (lw_tbl[e.2.2.2]? = some (wLL e))) = true := by decide +kernel
def wLC (e : Nat × (Nat × (Int × Nat))) : Cond := .constant (cN e.1) e.2.1 (Int32.ofInt e.2.2.1)
theorem LC_ok : LC.all (fun e => decide (lw_tbl[e.2.2.2]? = some (wLC e))) = true := by decide +kernel
def wLNa (e : Nat × (Nat × (Nat × Nat))) : Cond := .methodLink (cN e.1) e.2.1 (natN e.2.2.1)
theorem LNa_ok : LNa.all (fun e => decide (lw_tbl[e.2.2.2]? = some (wLNa e))) = true := by decide +kernel
def okLW (e : Nat × (Nat × (Nat × (Nat × Nat)))) : Bool := decide (lw_tbl[e.2.1]? = some (cdW e.1)) && (goodWord (cdW e.1) && (decide (lw_tbl[e.2.2.2.2]? = some (.initialized (mY e.1).cls)) && (if mS e.1 then decide (lw_tbl[e.2.2.1]? = some (.static (mY e.1))) else decide (lw_tbl[e.2.2.1]? = some (.instanceMethod (mY e.1))) && (decide (lw_tbl[e.2.2.2.1]? = some (.selects (mY e.1).cls (mY e.1) (mY e.1)))))))
theorem lw_0 : okLW (0, 478, 476, 477, 58) = true := by decide +kernel
theorem lw_1 : okLW (1, 498, 496, 497, 58) = true := by decide +kernel
theorem lw_2 : okLW (2, 614, 612, 613, 58) = true := by decide +kernel
theorem lw_3 : okLW (3, 555, 553, 554, 58) = true := by decide +kernel
theorem lw_4 : okLW (4, 566, 565, 2, 58) = true := by decide +kernel
theorem lw_5 : okLW (5, 578, 577, 5, 58) = true := by decide +kernel
theorem lw_6 : okLW (6, 590, 589, 8, 58) = true := by decide +kernel
theorem lw_7 : okLW (7, 602, 601, 9, 58) = true := by decide +kernel
theorem lw_8 : okLW (8, 610, 609, 11, 58) = true := by decide +kernel
theorem lw_9 : okLW (9, 570, 569, 3, 58) = true := by decide +kernel
theorem lw_10 : okLW (10, 606, 605, 10, 58) = true := by decide +kernel
theorem lw_11 : okLW (11, 582, 581, 6, 58) = true := by decide +kernel
theorem lw_12 : okLW (12, 586, 585, 7, 58) = true := by decide +kernel
theorem lw_13 : okLW (13, 574, 573, 4, 58) = true := by decide +kernel
theorem lw_14 : okLW (14, 1087, 1085, 1086, 62) = true := by decide +kernel
theorem lw_15 : okLW (15, 1101, 1100, 29, 62) = true := by decide +kernel
theorem lw_16 : okLW (16, 1109, 1108, 30, 62) = true := by decide +kernel
theorem lw_17 : okLW (17, 1112, 1111, 0, 62) = true := by decide +kernel
theorem lw_18 : okLW (18, 1091, 1090, 27, 62) = true := by decide +kernel
theorem lw_19 : okLW (19, 1095, 1094, 28, 62) = true := by decide +kernel
theorem lw_20 : okLW (20, 1116, 1115, 31, 62) = true := by decide +kernel
theorem lw_21 : okLW (21, 1120, 1119, 32, 62) = true := by decide +kernel
theorem lw_22 : okLW (22, 1142, 1140, 1141, 62) = true := by decide +kernel
theorem lw_23 : okLW (23, 1524, 1522, 1523, 62) = true := by decide +kernel
theorem lw_25 : okLW (25, 1133, 1131, 1132, 62) = true := by decide +kernel
theorem lw_26 : okLW (26, 1207, 1206, 44, 62) = true := by decide +kernel
theorem lw_29 : okLW (29, 1203, 1201, 1202, 62) = true := by decide +kernel
theorem lw_30 : okLW (30, 562, 560, 561, 59) = true := by decide +kernel
theorem lw_31 : okLW (31, 594, 592, 593, 59) = true := by decide +kernel
theorem lw_32 : okLW (32, 623, 621, 622, 59) = true := by decide +kernel
theorem lw_33 : okLW (33, 627, 625, 626, 59) = true := by decide +kernel
theorem lw_34 : okLW (34, 657, 655, 656, 59) = true := by decide +kernel
theorem lw_35 : okLW (35, 666, 664, 665, 59) = true := by decide +kernel
theorem lw_36 : okLW (36, 1298, 1296, 1297, 64) = true := by decide +kernel
theorem lw_37 : okLW (37, 1544, 1542, 1543, 64) = true := by decide +kernel
theorem lw_38 : okLW (38, 1303, 1301, 1302, 64) = true := by decide +kernel
theorem lw_39 : okLW (39, 1308, 1306, 1307, 64) = true := by decide +kernel
theorem lw_40 : okLW (40, 1312, 1310, 1311, 64) = true := by decide +kernel
theorem lw_41 : okLW (41, 680, 678, 679, 61) = true := by decide +kernel
theorem lw_42 : okLW (42, 1083, 1081, 1082, 61) = true := by decide +kernel
theorem lw_43 : okLW (43, 1124, 1123, 33, 61) = true := by decide +kernel
theorem lw_44 : okLW (44, 1129, 1128, 34, 61) = true := by decide +kernel
theorem lw_45 : okLW (45, 1148, 1147, 35, 61) = true := by decide +kernel
theorem lw_46 : okLW (46, 1152, 1151, 0, 61) = true := by decide +kernel
theorem lw_47 : okLW (47, 1176, 1175, 38, 61) = true := by decide +kernel
theorem lw_48 : okLW (48, 1192, 1191, 42, 61) = true := by decide +kernel
theorem lw_49 : okLW (49, 1180, 1179, 39, 61) = true := by decide +kernel
theorem lw_50 : okLW (50, 1197, 1196, 43, 61) = true := by decide +kernel
theorem lw_51 : okLW (51, 1159, 1158, 36, 61) = true := by decide +kernel
theorem lw_52 : okLW (52, 1188, 1187, 41, 61) = true := by decide +kernel
theorem lw_53 : okLW (53, 1163, 1162, 37, 61) = true := by decide +kernel
theorem lw_54 : okLW (54, 1184, 1183, 40, 61) = true := by decide +kernel
theorem lw_55 : okLW (55, 1520, 1518, 1519, 61) = true := by decide +kernel
theorem lw_56 : okLW (56, 1378, 1376, 1377, 61) = true := by decide +kernel
theorem lw_57 : okLW (57, 1430, 1428, 1429, 61) = true := by decide +kernel
theorem lw_58 : okLW (58, 1212, 1210, 1211, 61) = true := by decide +kernel
theorem lw_60 : okLW (60, 1465, 1463, 1464, 61) = true := by decide +kernel
theorem lw_61 : okLW (61, 1480, 1478, 1479, 61) = true := by decide +kernel
theorem lw_62 : okLW (62, 688, 686, 687, 65) = true := by decide +kernel
theorem lw_63 : okLW (63, 958, 956, 957, 65) = true := by decide +kernel
theorem lw_64 : okLW (64, 963, 962, 15, 65) = true := by decide +kernel
theorem lw_65 : okLW (65, 968, 967, 16, 65) = true := by decide +kernel
theorem lw_66 : okLW (66, 1043, 1042, 25, 65) = true := by decide +kernel
theorem lw_67 : okLW (67, 979, 978, 17, 65) = true := by decide +kernel
theorem lw_68 : okLW (68, 1013, 1012, 21, 65) = true := by decide +kernel
theorem lw_69 : okLW (69, 1017, 1016, 22, 65) = true := by decide +kernel
theorem lw_70 : okLW (70, 1035, 1034, 23, 65) = true := by decide +kernel
theorem lw_71 : okLW (71, 1039, 1038, 24, 65) = true := by decide +kernel
theorem lw_72 : okLW (72, 990, 989, 18, 65) = true := by decide +kernel
theorem lw_73 : okLW (73, 1009, 1008, 20, 65) = true := by decide +kernel
theorem lw_74 : okLW (74, 1002, 1001, 19, 65) = true := by decide +kernel
theorem lw_75 : okLW (75, 1051, 1049, 1050, 65) = true := by decide +kernel
theorem lw_76 : okLW (76, 1632, 1630, 1631, 65) = true := by decide +kernel
theorem lw_77 : okLW (77, 1621, 1619, 1620, 65) = true := by decide +kernel
theorem lw_78 : okLW (78, 1223, 1221, 1222, 65) = true := by decide +kernel
theorem lw_79 : okLW (79, 1063, 1061, 1062, 60) = true := by decide +kernel
theorem lw_80 : okLW (80, 1067, 1065, 1066, 60) = true := by decide +kernel
theorem lw_81 : okLW (81, 619, 617, 618, 60) = true := by decide +kernel
theorem lw_82 : okLW (82, 631, 630, 12, 60) = true := by decide +kernel
theorem lw_83 : okLW (83, 662, 660, 661, 60) = true := by decide +kernel
theorem lw_84 : okLW (84, 1607, 1605, 1606, 60) = true := by decide +kernel
theorem lw_85 : okLW (85, 672, 671, 13, 60) = true := by decide +kernel
theorem lw_86 : okLW (86, 635, 633, 634, 60) = true := by decide +kernel
theorem lw_87 : okLW (87, 1274, 1272, 1273, 60) = true := by decide +kernel
theorem lw_88 : okLW (88, 639, 637, 638, 60) = true := by decide +kernel
theorem lw_89 : okLW (89, 975, 973, 974, 60) = true := by decide +kernel
theorem lw_90 : okLW (90, 646, 644, 645, 60) = true := by decide +kernel
theorem lw_91 : okLW (91, 983, 981, 982, 60) = true := by decide +kernel
theorem lw_92 : okLW (92, 994, 992, 993, 60) = true := by decide +kernel
theorem lw_93 : okLW (93, 1028, 1026, 1027, 60) = true := by decide +kernel
theorem lw_94 : okLW (94, 653, 651, 652, 60) = true := by decide +kernel
theorem lw_95 : okLW (95, 1021, 1019, 1020, 60) = true := by decide +kernel
theorem lw_96 : okLW (96, 642, 641, 0, 75) = true := by decide +kernel
theorem lw_97 : okLW (97, 1166, 1165, 0, 75) = true := by decide +kernel
theorem lw_98 : okLW (98, 501, 500, 0, 75) = true := by decide +kernel
theorem lw_99 : okLW (99, 1005, 1004, 0, 75) = true := by decide +kernel
theorem lw_100 : okLW (100, 691, 690, 0, 75) = true := by decide +kernel
theorem lw_101 : okLW (101, 1610, 1609, 0, 75) = true := by decide +kernel
theorem lw_102 : okLW (102, 1138, 1137, 0, 75) = true := by decide +kernel
theorem lw_103 : okLW (103, 597, 596, 0, 78) = true := by decide +kernel
theorem lw_104 : okLW (104, 649, 648, 0, 78) = true := by decide +kernel
theorem lw_105 : okLW (105, 986, 985, 0, 78) = true := by decide +kernel
theorem lw_106 : okLW (106, 997, 996, 0, 78) = true := by decide +kernel
theorem lw_107 : okLW (107, 1031, 1030, 0, 78) = true := by decide +kernel
theorem lw_108 : okLW (108, 684, 682, 683, 63) = true := by decide +kernel
theorem lw_109 : okLW (109, 1235, 1233, 1234, 63) = true := by decide +kernel
theorem lw_110 : okLW (110, 1239, 1238, 45, 63) = true := by decide +kernel
theorem lw_111 : okLW (111, 1243, 1242, 0, 63) = true := by decide +kernel
theorem lw_112 : okLW (112, 1246, 1245, 0, 63) = true := by decide +kernel
theorem lw_113 : okLW (113, 1268, 1267, 0, 63) = true := by decide +kernel
theorem lw_114 : okLW (114, 1251, 1250, 46, 63) = true := by decide +kernel
theorem lw_115 : okLW (115, 1259, 1258, 47, 63) = true := by decide +kernel
theorem lw_116 : okLW (116, 1263, 1262, 48, 63) = true := by decide +kernel
theorem lw_117 : okLW (117, 1340, 1338, 1339, 63) = true := by decide +kernel
theorem lw_118 : okLW (118, 1278, 1276, 1277, 63) = true := by decide +kernel
theorem lw_119 : okLW (119, 1591, 1589, 1590, 63) = true := by decide +kernel
theorem lw_120 : okLW (120, 1595, 1594, 55, 63) = true := by decide +kernel
theorem lw_121 : okLW (121, 403, 401, 402, 57) = true := by decide +kernel
theorem lw_122 : okLW (122, 534, 532, 533, 57) = true := by decide +kernel
theorem lw_124 : okLW (124, 1487, 1485, 1486, 57) = true := by decide +kernel
theorem lw_125 : okLW (125, 1495, 1493, 1494, 57) = true := by decide +kernel
theorem lw_126 : okLW (126, 1508, 1506, 1507, 57) = true := by decide +kernel
theorem lw_127 : okLW (127, 1348, 1346, 1347, 57) = true := by decide +kernel
theorem lw_128 : okLW (128, 1058, 1056, 1057, 57) = true := by decide +kernel
theorem lw_129 : okLW (129, 1552, 1550, 1551, 57) = true := by decide +kernel
theorem lw_132 : okLW (132, 1074, 1072, 1073, 57) = true := by decide +kernel
theorem lw_134 : okLW (134, 1367, 1365, 1366, 57) = true := by decide +kernel
theorem lw_135 : okLW (135, 1374, 1372, 1373, 57) = true := by decide +kernel
theorem lw_136 : okLW (136, 1329, 1327, 1328, 57) = true := by decide +kernel
theorem lw_137 : okLW (137, 1290, 1288, 1289, 57) = true := by decide +kernel
theorem lw_138 : okLW (138, 1575, 1573, 1574, 57) = true := by decide +kernel
theorem lw_139 : okLW (139, 1439, 1437, 1438, 57) = true := by decide +kernel
theorem lw_140 : okLW (140, 1476, 1474, 1475, 57) = true := by decide +kernel
theorem lw_141 : okLW (141, 1426, 1424, 1425, 57) = true := by decide +kernel
theorem lw_142 : okLW (142, 1231, 1229, 1230, 57) = true := by decide +kernel
theorem lw_143 : okLW (143, 1336, 1334, 1335, 57) = true := by decide +kernel
theorem lw_144 : okLW (144, 1587, 1585, 1586, 57) = true := by decide +kernel
theorem lw_145 : okLW (145, 1535, 1533, 1534, 57) = true := by decide +kernel
theorem lw_146 : okLW (146, 1516, 1514, 1515, 57) = true := by decide +kernel
theorem lw_148 : okLW (148, 1559, 1557, 1558, 57) = true := by decide +kernel
theorem lw_149 : okLW (149, 954, 952, 953, 57) = true := by decide +kernel
theorem lw_150 : okLW (150, 1219, 1217, 1218, 57) = true := by decide +kernel
theorem lw_151 : okLW (151, 1355, 1353, 1354, 57) = true := by decide +kernel
theorem lw_152 : okLW (152, 1628, 1626, 1627, 57) = true := by decide +kernel
theorem lw_153 : okLW (153, 1617, 1615, 1616, 57) = true := by decide +kernel
theorem lw_154 : okLW (154, 1399, 1397, 1398, 57) = true := by decide +kernel
theorem lw_156 : okLW (156, 1603, 1601, 1602, 57) = true := by decide +kernel
theorem lw_157 : okLW (157, 1639, 1637, 1638, 57) = true := by decide +kernel
theorem lw_158 : okLW (158, 676, 675, 14, 57) = true := by decide +kernel
theorem lw_159 : okLW (159, 1294, 1293, 49, 57) = true := by decide +kernel
theorem lw_160 : okLW (160, 1539, 1538, 53, 57) = true := by decide +kernel
theorem lw_161 : okLW (161, 1563, 1562, 54, 57) = true := by decide +kernel
theorem lw_162 : okLW (162, 538, 537, 1, 57) = true := by decide +kernel
theorem lw_164 : okLW (164, 1499, 1498, 52, 57) = true := by decide +kernel
theorem lw_165 : okLW (165, 1078, 1077, 26, 57) = true := by decide +kernel
theorem lw_166 : okLW (166, 1359, 1358, 50, 57) = true := by decide +kernel
theorem lw_167 : okLW (167, 1443, 1442, 51, 57) = true := by decide +kernel
theorem lw_168 : okLW (168, 558, 557, 0, 57) = true := by decide +kernel
theorem lw_169 : okLW (169, 1046, 1045, 0, 57) = true := by decide +kernel
theorem lw_171 : okLW (171, 1024, 1023, 0, 57) = true := by decide +kernel
theorem lw_172 : okLW (172, 1281, 1280, 0, 57) = true := by decide +kernel
theorem lw_173 : okLW (173, 1172, 1171, 0, 57) = true := by decide +kernel
theorem lw_174 : okLW (174, 1319, 1318, 0, 87) = true := by decide +kernel
theorem lw_176 : okLW (176, 1409, 1408, 0, 89) = true := by decide +kernel
theorem lw_177 : okLW (177, 1406, 1405, 0, 89) = true := by decide +kernel
theorem lw_178 : okLW (178, 397, 396, 0, 56) = true := by decide +kernel
theorem lw_179 : okLW (179, 506, 505, 0, 56) = true := by decide +kernel
theorem lw_180 : okLW (180, 1483, 1482, 0, 56) = true := by decide +kernel
theorem lw_181 : okLW (181, 1491, 1490, 0, 56) = true := by decide +kernel
theorem lw_182 : okLW (182, 1504, 1503, 0, 56) = true := by decide +kernel
theorem lw_183 : okLW (183, 1344, 1343, 0, 56) = true := by decide +kernel
theorem lw_184 : okLW (184, 1054, 1053, 0, 56) = true := by decide +kernel
theorem lw_185 : okLW (185, 1548, 1547, 0, 56) = true := by decide +kernel
theorem lw_186 : okLW (186, 1070, 1069, 0, 56) = true := by decide +kernel
theorem lw_187 : okLW (187, 1363, 1362, 0, 56) = true := by decide +kernel
theorem lw_188 : okLW (188, 1370, 1369, 0, 56) = true := by decide +kernel
theorem lw_189 : okLW (189, 1325, 1324, 0, 56) = true := by decide +kernel
theorem lw_190 : okLW (190, 1286, 1285, 0, 56) = true := by decide +kernel
theorem lw_191 : okLW (191, 1571, 1570, 0, 56) = true := by decide +kernel
theorem lw_192 : okLW (192, 1434, 1433, 0, 56) = true := by decide +kernel
theorem lw_193 : okLW (193, 1472, 1471, 0, 56) = true := by decide +kernel
theorem lw_194 : okLW (194, 1422, 1421, 0, 56) = true := by decide +kernel
theorem lw_195 : okLW (195, 1227, 1226, 0, 56) = true := by decide +kernel
theorem lw_196 : okLW (196, 1332, 1331, 0, 56) = true := by decide +kernel
theorem lw_197 : okLW (197, 1583, 1582, 0, 56) = true := by decide +kernel
theorem lw_198 : okLW (198, 1531, 1530, 0, 56) = true := by decide +kernel
theorem lw_199 : okLW (199, 1512, 1511, 0, 56) = true := by decide +kernel
theorem lw_200 : okLW (200, 1555, 1554, 0, 56) = true := by decide +kernel
theorem lw_201 : okLW (201, 950, 949, 0, 56) = true := by decide +kernel
theorem lw_202 : okLW (202, 1215, 1214, 0, 56) = true := by decide +kernel
theorem lw_203 : okLW (203, 1351, 1350, 0, 56) = true := by decide +kernel
theorem lw_204 : okLW (204, 1624, 1623, 0, 56) = true := by decide +kernel
theorem lw_205 : okLW (205, 1613, 1612, 0, 56) = true := by decide +kernel
theorem lw_206 : okLW (206, 1381, 1380, 0, 56) = true := by decide +kernel
theorem lw_207 : okLW (207, 1599, 1598, 0, 56) = true := by decide +kernel
theorem lw_208 : okLW (208, 1635, 1634, 0, 56) = true := by decide +kernel
theorem lw_209 : okLW (209, 697, 696, 0, 56) = true := by decide +kernel
theorem lw_210 : okLW (210, 946, 945, 0, 56) = true := by decide +kernel
theorem lw_211 : okLW (211, 1419, 1418, 0, 56) = true := by decide +kernel
theorem lw_212 : okLW (212, 1528, 1527, 0, 56) = true := by decide +kernel
theorem lw_213 : okLW (213, 1568, 1567, 0, 56) = true := by decide +kernel
theorem lw_214 : okLW (214, 1580, 1579, 0, 56) = true := by decide +kernel
def LW_0 : List (Nat × (Nat × (Nat × (Nat × Nat)))) := [(0, 478, 476, 477, 58), (1, 498, 496, 497, 58), (2, 614, 612, 613, 58), (3, 555, 553, 554, 58), (4, 566, 565, 2, 58), (5, 578, 577, 5, 58), (6, 590, 589, 8, 58), (7, 602, 601, 9, 58), (8, 610, 609, 11, 58), (9, 570, 569, 3, 58), (10, 606, 605, 10, 58), (11, 582, 581, 6, 58), (12, 586, 585, 7, 58), (13, 574, 573, 4, 58), (14, 1087, 1085, 1086, 62), (15, 1101, 1100, 29, 62), (16, 1109, 1108, 30, 62), (17, 1112, 1111, 0, 62), (18, 1091, 1090, 27, 62), (19, 1095, 1094, 28, 62)]
theorem LW_r0 : ∀ e ∈ LW_0, okLW e = true := List.forall_mem_cons.mpr ⟨lw_0, List.forall_mem_cons.mpr ⟨lw_1, List.forall_mem_cons.mpr ⟨lw_2, List.forall_mem_cons.mpr ⟨lw_3, List.forall_mem_cons.mpr ⟨lw_4, List.forall_mem_cons.mpr ⟨lw_5, List.forall_mem_cons.mpr ⟨lw_6, List.forall_mem_cons.mpr ⟨lw_7, List.forall_mem_cons.mpr ⟨lw_8, List.forall_mem_cons.mpr ⟨lw_9, List.forall_mem_cons.mpr ⟨lw_10, List.forall_mem_cons.mpr ⟨lw_11, List.forall_mem_cons.mpr ⟨lw_12, List.forall_mem_cons.mpr ⟨lw_13, List.forall_mem_cons.mpr ⟨lw_14, List.forall_mem_cons.mpr ⟨lw_15, List.forall_mem_cons.mpr ⟨lw_16, List.forall_mem_cons.mpr ⟨lw_17, List.forall_mem_cons.mpr ⟨lw_18, List.forall_mem_cons.mpr ⟨lw_19, fun _ h => absurd h List.not_mem_nil⟩⟩⟩⟩⟩⟩⟩⟩⟩⟩⟩⟩⟩⟩⟩⟩⟩⟩⟩⟩
def LW_1 : List (Nat × (Nat × (Nat × (Nat × Nat)))) := [(20, 1116, 1115, 31, 62), (21, 1120, 1119, 32, 62), (22, 1142, 1140, 1141, 62), (23, 1524, 1522, 1523, 62), (25, 1133, 1131, 1132, 62), (26, 1207, 1206, 44, 62), (29, 1203, 1201, 1202, 62), (30, 562, 560, 561, 59), (31, 594, 592, 593, 59), (32, 623, 621, 622, 59), (33, 627, 625, 626, 59), (34, 657, 655, 656, 59), (35, 666, 664, 665, 59), (36, 1298, 1296, 1297, 64), (37, 1544, 1542, 1543, 64), (38, 1303, 1301, 1302, 64), (39, 1308, 1306, 1307, 64), (40, 1312, 1310, 1311, 64), (41, 680, 678, 679, 61), (42, 1083, 1081, 1082, 61)]
theorem LW_r1 : ∀ e ∈ LW_1, okLW e = true := List.forall_mem_cons.mpr ⟨lw_20, List.forall_mem_cons.mpr ⟨lw_21, List.forall_mem_cons.mpr ⟨lw_22, List.forall_mem_cons.mpr ⟨lw_23, List.forall_mem_cons.mpr ⟨lw_25, List.forall_mem_cons.mpr ⟨lw_26, List.forall_mem_cons.mpr ⟨lw_29, List.forall_mem_cons.mpr ⟨lw_30, List.forall_mem_cons.mpr ⟨lw_31, List.forall_mem_cons.mpr ⟨lw_32, List.forall_mem_cons.mpr ⟨lw_33, List.forall_mem_cons.mpr ⟨lw_34, List.forall_mem_cons.mpr ⟨lw_35, List.forall_mem_cons.mpr ⟨lw_36, List.forall_mem_cons.mpr ⟨lw_37, List.forall_mem_cons.mpr ⟨lw_38, List.forall_mem_cons.mpr ⟨lw_39, List.forall_mem_cons.mpr ⟨lw_40, List.forall_mem_cons.mpr ⟨lw_41, List.forall_mem_cons.mpr ⟨lw_42, fun _ h => absurd h List.not_mem_nil⟩⟩⟩⟩⟩⟩⟩⟩⟩⟩⟩⟩⟩⟩⟩⟩⟩⟩⟩⟩
def LW_2 : List (Nat × (Nat × (Nat × (Nat × Nat)))) := [(43, 1124, 1123, 33, 61), (44, 1129, 1128, 34, 61), (45, 1148, 1147, 35, 61), (46, 1152, 1151, 0, 61), (47, 1176, 1175, 38, 61), (48, 1192, 1191, 42, 61), (49, 1180, 1179, 39, 61), (50, 1197, 1196, 43, 61), (51, 1159, 1158, 36, 61), (52, 1188, 1187, 41, 61), (53, 1163, 1162, 37, 61), (54, 1184, 1183, 40, 61), (55, 1520, 1518, 1519, 61), (56, 1378, 1376, 1377, 61), (57, 1430, 1428, 1429, 61), (58, 1212, 1210, 1211, 61), (60, 1465, 1463, 1464, 61), (61, 1480, 1478, 1479, 61), (62, 688, 686, 687, 65), (63, 958, 956, 957, 65)]
theorem LW_r2 : ∀ e ∈ LW_2, okLW e = true := List.forall_mem_cons.mpr ⟨lw_43, List.forall_mem_cons.mpr ⟨lw_44, List.forall_mem_cons.mpr ⟨lw_45, List.forall_mem_cons.mpr ⟨lw_46, List.forall_mem_cons.mpr ⟨lw_47, List.forall_mem_cons.mpr ⟨lw_48, List.forall_mem_cons.mpr ⟨lw_49, List.forall_mem_cons.mpr ⟨lw_50, List.forall_mem_cons.mpr ⟨lw_51, List.forall_mem_cons.mpr ⟨lw_52, List.forall_mem_cons.mpr ⟨lw_53, List.forall_mem_cons.mpr ⟨lw_54, List.forall_mem_cons.mpr ⟨lw_55, List.forall_mem_cons.mpr ⟨lw_56, List.forall_mem_cons.mpr ⟨lw_57, List.forall_mem_cons.mpr ⟨lw_58, List.forall_mem_cons.mpr ⟨lw_60, List.forall_mem_cons.mpr ⟨lw_61, List.forall_mem_cons.mpr ⟨lw_62, List.forall_mem_cons.mpr ⟨lw_63, fun _ h => absurd h List.not_mem_nil⟩⟩⟩⟩⟩⟩⟩⟩⟩⟩⟩⟩⟩⟩⟩⟩⟩⟩⟩⟩
def LW_3 : List (Nat × (Nat × (Nat × (Nat × Nat)))) := [(64, 963, 962, 15, 65), (65, 968, 967, 16, 65), (66, 1043, 1042, 25, 65), (67, 979, 978, 17, 65), (68, 1013, 1012, 21, 65), (69, 1017, 1016, 22, 65), (70, 1035, 1034, 23, 65), (71, 1039, 1038, 24, 65), (72, 990, 989, 18, 65), (73, 1009, 1008, 20, 65), (74, 1002, 1001, 19, 65), (75, 1051, 1049, 1050, 65), (76, 1632, 1630, 1631, 65), (77, 1621, 1619, 1620, 65), (78, 1223, 1221, 1222, 65), (79, 1063, 1061, 1062, 60), (80, 1067, 1065, 1066, 60), (81, 619, 617, 618, 60), (82, 631, 630, 12, 60), (83, 662, 660, 661, 60)]
theorem LW_r3 : ∀ e ∈ LW_3, okLW e = true := List.forall_mem_cons.mpr ⟨lw_64, List.forall_mem_cons.mpr ⟨lw_65, List.forall_mem_cons.mpr ⟨lw_66, List.forall_mem_cons.mpr ⟨lw_67, List.forall_mem_cons.mpr ⟨lw_68, List.forall_mem_cons.mpr ⟨lw_69, List.forall_mem_cons.mpr ⟨lw_70, List.forall_mem_cons.mpr ⟨lw_71, List.forall_mem_cons.mpr ⟨lw_72, List.forall_mem_cons.mpr ⟨lw_73, List.forall_mem_cons.mpr ⟨lw_74, List.forall_mem_cons.mpr ⟨lw_75, List.forall_mem_cons.mpr ⟨lw_76, List.forall_mem_cons.mpr ⟨lw_77, List.forall_mem_cons.mpr ⟨lw_78, List.forall_mem_cons.mpr ⟨lw_79, List.forall_mem_cons.mpr ⟨lw_80, List.forall_mem_cons.mpr ⟨lw_81, List.forall_mem_cons.mpr ⟨lw_82, List.forall_mem_cons.mpr ⟨lw_83, fun _ h => absurd h List.not_mem_nil⟩⟩⟩⟩⟩⟩⟩⟩⟩⟩⟩⟩⟩⟩⟩⟩⟩⟩⟩⟩
def LW_4 : List (Nat × (Nat × (Nat × (Nat × Nat)))) := [(84, 1607, 1605, 1606, 60), (85, 672, 671, 13, 60), (86, 635, 633, 634, 60), (87, 1274, 1272, 1273, 60), (88, 639, 637, 638, 60), (89, 975, 973, 974, 60), (90, 646, 644, 645, 60), (91, 983, 981, 982, 60), (92, 994, 992, 993, 60), (93, 1028, 1026, 1027, 60), (94, 653, 651, 652, 60), (95, 1021, 1019, 1020, 60), (96, 642, 641, 0, 75), (97, 1166, 1165, 0, 75), (98, 501, 500, 0, 75), (99, 1005, 1004, 0, 75), (100, 691, 690, 0, 75), (101, 1610, 1609, 0, 75), (102, 1138, 1137, 0, 75), (103, 597, 596, 0, 78)]
theorem LW_r4 : ∀ e ∈ LW_4, okLW e = true := List.forall_mem_cons.mpr ⟨lw_84, List.forall_mem_cons.mpr ⟨lw_85, List.forall_mem_cons.mpr ⟨lw_86, List.forall_mem_cons.mpr ⟨lw_87, List.forall_mem_cons.mpr ⟨lw_88, List.forall_mem_cons.mpr ⟨lw_89, List.forall_mem_cons.mpr ⟨lw_90, List.forall_mem_cons.mpr ⟨lw_91, List.forall_mem_cons.mpr ⟨lw_92, List.forall_mem_cons.mpr ⟨lw_93, List.forall_mem_cons.mpr ⟨lw_94, List.forall_mem_cons.mpr ⟨lw_95, List.forall_mem_cons.mpr ⟨lw_96, List.forall_mem_cons.mpr ⟨lw_97, List.forall_mem_cons.mpr ⟨lw_98, List.forall_mem_cons.mpr ⟨lw_99, List.forall_mem_cons.mpr ⟨lw_100, List.forall_mem_cons.mpr ⟨lw_101, List.forall_mem_cons.mpr ⟨lw_102, List.forall_mem_cons.mpr ⟨lw_103, fun _ h => absurd h List.not_mem_nil⟩⟩⟩⟩⟩⟩⟩⟩⟩⟩⟩⟩⟩⟩⟩⟩⟩⟩⟩⟩
def LW_5 : List (Nat × (Nat × (Nat × (Nat × Nat)))) := [(104, 649, 648, 0, 78), (105, 986, 985, 0, 78), (106, 997, 996, 0, 78), (107, 1031, 1030, 0, 78), (108, 684, 682, 683, 63), (109, 1235, 1233, 1234, 63), (110, 1239, 1238, 45, 63), (111, 1243, 1242, 0, 63), (112, 1246, 1245, 0, 63), (113, 1268, 1267, 0, 63), (114, 1251, 1250, 46, 63), (115, 1259, 1258, 47, 63), (116, 1263, 1262, 48, 63), (117, 1340, 1338, 1339, 63), (118, 1278, 1276, 1277, 63), (119, 1591, 1589, 1590, 63), (120, 1595, 1594, 55, 63), (121, 403, 401, 402, 57), (122, 534, 532, 533, 57), (124, 1487, 1485, 1486, 57)]
theorem LW_r5 : ∀ e ∈ LW_5, okLW e = true := List.forall_mem_cons.mpr ⟨lw_104, List.forall_mem_cons.mpr ⟨lw_105, List.forall_mem_cons.mpr ⟨lw_106, List.forall_mem_cons.mpr ⟨lw_107, List.forall_mem_cons.mpr ⟨lw_108, List.forall_mem_cons.mpr ⟨lw_109, List.forall_mem_cons.mpr ⟨lw_110, List.forall_mem_cons.mpr ⟨lw_111, List.forall_mem_cons.mpr ⟨lw_112, List.forall_mem_cons.mpr ⟨lw_113, List.forall_mem_cons.mpr ⟨lw_114, List.forall_mem_cons.mpr ⟨lw_115, List.forall_mem_cons.mpr ⟨lw_116, List.forall_mem_cons.mpr ⟨lw_117, List.forall_mem_cons.mpr ⟨lw_118, List.forall_mem_cons.mpr ⟨lw_119, List.forall_mem_cons.mpr ⟨lw_120, List.forall_mem_cons.mpr ⟨lw_121, List.forall_mem_cons.mpr ⟨lw_122, List.forall_mem_cons.mpr ⟨lw_124, fun _ h => absurd h List.not_mem_nil⟩⟩⟩⟩⟩⟩⟩⟩⟩⟩⟩⟩⟩⟩⟩⟩⟩⟩⟩⟩
def LW_6 : List (Nat × (Nat × (Nat × (Nat × Nat)))) := [(125, 1495, 1493, 1494, 57), (126, 1508, 1506, 1507, 57), (127, 1348, 1346, 1347, 57), (128, 1058, 1056, 1057, 57), (129, 1552, 1550, 1551, 57), (132, 1074, 1072, 1073, 57), (134, 1367, 1365, 1366, 57), (135, 1374, 1372, 1373, 57), (136, 1329, 1327, 1328, 57), (137, 1290, 1288, 1289, 57), (138, 1575, 1573, 1574, 57), (139, 1439, 1437, 1438, 57), (140, 1476, 1474, 1475, 57), (141, 1426, 1424, 1425, 57), (142, 1231, 1229, 1230, 57), (143, 1336, 1334, 1335, 57), (144, 1587, 1585, 1586, 57), (145, 1535, 1533, 1534, 57), (146, 1516, 1514, 1515, 57), (148, 1559, 1557, 1558, 57)]
theorem LW_r6 : ∀ e ∈ LW_6, okLW e = true := List.forall_mem_cons.mpr ⟨lw_125, List.forall_mem_cons.mpr ⟨lw_126, List.forall_mem_cons.mpr ⟨lw_127, List.forall_mem_cons.mpr ⟨lw_128, List.forall_mem_cons.mpr ⟨lw_129, List.forall_mem_cons.mpr ⟨lw_132, List.forall_mem_cons.mpr ⟨lw_134, List.forall_mem_cons.mpr ⟨lw_135, List.forall_mem_cons.mpr ⟨lw_136, List.forall_mem_cons.mpr ⟨lw_137, List.forall_mem_cons.mpr ⟨lw_138, List.forall_mem_cons.mpr ⟨lw_139, List.forall_mem_cons.mpr ⟨lw_140, List.forall_mem_cons.mpr ⟨lw_141, List.forall_mem_cons.mpr ⟨lw_142, List.forall_mem_cons.mpr ⟨lw_143, List.forall_mem_cons.mpr ⟨lw_144, List.forall_mem_cons.mpr ⟨lw_145, List.forall_mem_cons.mpr ⟨lw_146, List.forall_mem_cons.mpr ⟨lw_148, fun _ h => absurd h List.not_mem_nil⟩⟩⟩⟩⟩⟩⟩⟩⟩⟩⟩⟩⟩⟩⟩⟩⟩⟩⟩⟩
def LW_7 : List (Nat × (Nat × (Nat × (Nat × Nat)))) := [(149, 954, 952, 953, 57), (150, 1219, 1217, 1218, 57), (151, 1355, 1353, 1354, 57), (152, 1628, 1626, 1627, 57), (153, 1617, 1615, 1616, 57), (154, 1399, 1397, 1398, 57), (156, 1603, 1601, 1602, 57), (157, 1639, 1637, 1638, 57), (158, 676, 675, 14, 57), (159, 1294, 1293, 49, 57), (160, 1539, 1538, 53, 57), (161, 1563, 1562, 54, 57), (162, 538, 537, 1, 57), (164, 1499, 1498, 52, 57), (165, 1078, 1077, 26, 57), (166, 1359, 1358, 50, 57), (167, 1443, 1442, 51, 57), (168, 558, 557, 0, 57), (169, 1046, 1045, 0, 57), (171, 1024, 1023, 0, 57)]
theorem LW_r7 : ∀ e ∈ LW_7, okLW e = true := List.forall_mem_cons.mpr ⟨lw_149, List.forall_mem_cons.mpr ⟨lw_150, List.forall_mem_cons.mpr ⟨lw_151, List.forall_mem_cons.mpr ⟨lw_152, List.forall_mem_cons.mpr ⟨lw_153, List.forall_mem_cons.mpr ⟨lw_154, List.forall_mem_cons.mpr ⟨lw_156, List.forall_mem_cons.mpr ⟨lw_157, List.forall_mem_cons.mpr ⟨lw_158, List.forall_mem_cons.mpr ⟨lw_159, List.forall_mem_cons.mpr ⟨lw_160, List.forall_mem_cons.mpr ⟨lw_161, List.forall_mem_cons.mpr ⟨lw_162, List.forall_mem_cons.mpr ⟨lw_164, List.forall_mem_cons.mpr ⟨lw_165, List.forall_mem_cons.mpr ⟨lw_166, List.forall_mem_cons.mpr ⟨lw_167, List.forall_mem_cons.mpr ⟨lw_168, List.forall_mem_cons.mpr ⟨lw_169, List.forall_mem_cons.mpr ⟨lw_171, fun _ h => absurd h List.not_mem_nil⟩⟩⟩⟩⟩⟩⟩⟩⟩⟩⟩⟩⟩⟩⟩⟩⟩⟩⟩⟩
def LW_8 : List (Nat × (Nat × (Nat × (Nat × Nat)))) := [(172, 1281, 1280, 0, 57), (173, 1172, 1171, 0, 57), (174, 1319, 1318, 0, 87), (176, 1409, 1408, 0, 89), (177, 1406, 1405, 0, 89), (178, 397, 396, 0, 56), (179, 506, 505, 0, 56), (180, 1483, 1482, 0, 56), (181, 1491, 1490, 0, 56), (182, 1504, 1503, 0, 56), (183, 1344, 1343, 0, 56), (184, 1054, 1053, 0, 56), (185, 1548, 1547, 0, 56), (186, 1070, 1069, 0, 56), (187, 1363, 1362, 0, 56), (188, 1370, 1369, 0, 56), (189, 1325, 1324, 0, 56), (190, 1286, 1285, 0, 56), (191, 1571, 1570, 0, 56), (192, 1434, 1433, 0, 56)]
theorem LW_r8 : ∀ e ∈ LW_8, okLW e = true := List.forall_mem_cons.mpr ⟨lw_172, List.forall_mem_cons.mpr ⟨lw_173, List.forall_mem_cons.mpr ⟨lw_174, List.forall_mem_cons.mpr ⟨lw_176, List.forall_mem_cons.mpr ⟨lw_177, List.forall_mem_cons.mpr ⟨lw_178, List.forall_mem_cons.mpr ⟨lw_179, List.forall_mem_cons.mpr ⟨lw_180, List.forall_mem_cons.mpr ⟨lw_181, List.forall_mem_cons.mpr ⟨lw_182, List.forall_mem_cons.mpr ⟨lw_183, List.forall_mem_cons.mpr ⟨lw_184, List.forall_mem_cons.mpr ⟨lw_185, List.forall_mem_cons.mpr ⟨lw_186, List.forall_mem_cons.mpr ⟨lw_187, List.forall_mem_cons.mpr ⟨lw_188, List.forall_mem_cons.mpr ⟨lw_189, List.forall_mem_cons.mpr ⟨lw_190, List.forall_mem_cons.mpr ⟨lw_191, List.forall_mem_cons.mpr ⟨lw_192, fun _ h => absurd h List.not_mem_nil⟩⟩⟩⟩⟩⟩⟩⟩⟩⟩⟩⟩⟩⟩⟩⟩⟩⟩⟩⟩
def LW_9 : List (Nat × (Nat × (Nat × (Nat × Nat)))) := [(193, 1472, 1471, 0, 56), (194, 1422, 1421, 0, 56), (195, 1227, 1226, 0, 56), (196, 1332, 1331, 0, 56), (197, 1583, 1582, 0, 56), (198, 1531, 1530, 0, 56), (199, 1512, 1511, 0, 56), (200, 1555, 1554, 0, 56), (201, 950, 949, 0, 56), (202, 1215, 1214, 0, 56), (203, 1351, 1350, 0, 56), (204, 1624, 1623, 0, 56), (205, 1613, 1612, 0, 56), (206, 1381, 1380, 0, 56), (207, 1599, 1598, 0, 56), (208, 1635, 1634, 0, 56), (209, 697, 696, 0, 56), (210, 946, 945, 0, 56), (211, 1419, 1418, 0, 56), (212, 1528, 1527, 0, 56)]
theorem LW_r9 : ∀ e ∈ LW_9, okLW e = true := List.forall_mem_cons.mpr ⟨lw_193, List.forall_mem_cons.mpr ⟨lw_194, List.forall_mem_cons.mpr ⟨lw_195, List.forall_mem_cons.mpr ⟨lw_196, List.forall_mem_cons.mpr ⟨lw_197, List.forall_mem_cons.mpr ⟨lw_198, List.forall_mem_cons.mpr ⟨lw_199, List.forall_mem_cons.mpr ⟨lw_200, List.forall_mem_cons.mpr ⟨lw_201, List.forall_mem_cons.mpr ⟨lw_202, List.forall_mem_cons.mpr ⟨lw_203, List.forall_mem_cons.mpr ⟨lw_204, List.forall_mem_cons.mpr ⟨lw_205, List.forall_mem_cons.mpr ⟨lw_206, List.forall_mem_cons.mpr ⟨lw_207, List.forall_mem_cons.mpr ⟨lw_208, List.forall_mem_cons.mpr ⟨lw_209, List.forall_mem_cons.mpr ⟨lw_210, List.forall_mem_cons.mpr ⟨lw_211, List.forall_mem_cons.mpr ⟨lw_212, fun _ h => absurd h List.not_mem_nil⟩⟩⟩⟩⟩⟩⟩⟩⟩⟩⟩⟩⟩⟩⟩⟩⟩⟩⟩⟩
def LW_10 : List (Nat × (Nat × (Nat × (Nat × Nat)))) := [(213, 1568, 1567, 0, 56), (214, 1580, 1579, 0, 56)]
theorem LW_r10 : ∀ e ∈ LW_10, okLW e = true := List.forall_mem_cons.mpr ⟨lw_213, List.forall_mem_cons.mpr ⟨lw_214, fun _ h => absurd h List.not_mem_nil⟩⟩
def LW : List (Nat × (Nat × (Nat × (Nat × Nat)))) := LW_0 ++ (LW_1 ++ (LW_2 ++ (LW_3 ++ (LW_4 ++ (LW_5 ++ (LW_6 ++ (LW_7 ++ (LW_8 ++ (LW_9 ++ (LW_10))))))))))
theorem LW_ok : ∀ e ∈ LW, okLW e = true := List.forall_mem_append.mpr ⟨LW_r0, List.forall_mem_append.mpr ⟨LW_r1, List.forall_mem_append.mpr ⟨LW_r2, List.forall_mem_append.mpr ⟨LW_r3, List.forall_mem_append.mpr ⟨LW_r4, List.forall_mem_append.mpr ⟨LW_r5, List.forall_mem_append.mpr ⟨LW_r6, List.forall_mem_append.mpr ⟨LW_r7, List.forall_mem_append.mpr ⟨LW_r8, List.forall_mem_append.mpr ⟨LW_r9, LW_r10⟩⟩⟩⟩⟩⟩⟩⟩⟩⟩
