/-! the tables of links and words: printed by gen_mtab.py -/
def cNT : List String := ["PointerAnalyzer$BodyText", "PointerAnalyzer$Contexts", "PointerAnalyzer$Draft", "PointerAnalyzer$Graph", "PointerAnalyzer$Inclusion", "PointerAnalyzer$Machine", "PointerAnalyzer$Program", "PointerAnalyzer$Unification", "PointerAnalyzer", "PointerAnalyzerModel", "PointerAnalyzer$Rows", "PointerAnalyzer$Statement", "PointerAnalyzerLaw", "java/lang/Long"]
def cN (ci : Nat) : String := cNT.getD ci ""
def ffT : List (List (String × (String × (String × Bool)))) := [[("PointerAnalyzer$BodyText", "characters", "[I", true), ("PointerAnalyzer$BodyText", "length", "I", false), ("PointerAnalyzer$BodyText", "position", "I", false), ("PointerAnalyzer$BodyText", "firstLocal", "I", false)], [("PointerAnalyzer$Contexts", "entries", "[I", true), ("PointerAnalyzer$Contexts", "firsts", "[I", true), ("PointerAnalyzer$Contexts", "size", "I", false), ("PointerAnalyzer$Contexts", "limit", "I", false)], [("PointerAnalyzer$Draft", "statements", "[I", true), ("PointerAnalyzer$Draft", "size", "I", false), ("PointerAnalyzer$Draft", "allocations", "I", false), ("PointerAnalyzer$Draft", "calls", "I", false)], [("PointerAnalyzer$Graph", "rows", "[J", true)], [("PointerAnalyzer$Inclusion", "contexts", "LPointerAnalyzer$Contexts;", true), ("PointerAnalyzer$Inclusion", "known", "[J", true), ("PointerAnalyzer$Inclusion", "growing", "[J", true), ("PointerAnalyzer$Inclusion", "codes", "[I", true), ("PointerAnalyzer$Inclusion", "pointees", "[I", true), ("PointerAnalyzer$Inclusion", "targets", "[J", true), ("PointerAnalyzer$Inclusion", "roundsOfFacts", "[I", true), ("PointerAnalyzer$Inclusion", "originsOfFacts", "[I", true), ("PointerAnalyzer$Inclusion", "stale", "Z", false), ("PointerAnalyzer$Inclusion", "facts", "I", false), ("PointerAnalyzer$Inclusion", "rounds", "I", false), ("PointerAnalyzer$Inclusion", "round", "I", false), ("PointerAnalyzer$Inclusion", "statement", "I", false)], [("PointerAnalyzer$Machine", "pointers", "[I", true), ("PointerAnalyzer$Machine", "codes", "[I", true), ("PointerAnalyzer$Machine", "seen", "[J", true), ("PointerAnalyzer$Machine", "functions", "[I", true), ("PointerAnalyzer$Machine", "following", "[I", true), ("PointerAnalyzer$Machine", "frames", "[I", true), ("PointerAnalyzer$Machine", "depth", "I", false), ("PointerAnalyzer$Machine", "used", "I", false), ("PointerAnalyzer$Machine", "executed", "I", false), ("PointerAnalyzer$Machine", "failed", "I", false), ("PointerAnalyzer$Machine", "made", "I", false)], [("PointerAnalyzer$Program", "bodies", "[I", true), ("PointerAnalyzer$Program", "sizes", "[I", true), ("PointerAnalyzer$Program", "limit", "I", false), ("PointerAnalyzer$Program", "numbered", "[I", true), ("PointerAnalyzer$Program", "owners", "[I", true), ("PointerAnalyzer$Program", "siteNumbers", "[I", true), ("PointerAnalyzer$Program", "starts", "[I", true), ("PointerAnalyzer$Program", "sites", "I", false)], [("PointerAnalyzer$Unification", "parents", "[I", true), ("PointerAnalyzer$Unification", "pointees", "[I", true), ("PointerAnalyzer$Unification", "stale", "Z", false)], [("PointerAnalyzer", "text", "LPointerAnalyzer$BodyText;", true), ("PointerAnalyzer", "draft", "LPointerAnalyzer$Draft;", true), ("PointerAnalyzer", "program", "LPointerAnalyzer$Program;", true), ("PointerAnalyzer", "kept", "LPointerAnalyzer$Program;", true), ("PointerAnalyzer", "inclusion", "LPointerAnalyzer$Inclusion;", true), ("PointerAnalyzer", "plain", "LPointerAnalyzer$Inclusion;", true), ("PointerAnalyzer", "unification", "LPointerAnalyzer$Unification;", true), ("PointerAnalyzer", "graph", "LPointerAnalyzer$Graph;", true), ("PointerAnalyzer", "machine", "LPointerAnalyzer$Machine;", true), ("PointerAnalyzer", "fault", "I", false), ("PointerAnalyzer", "somethingKept", "Z", false)], [("PointerAnalyzerModel", "thrown", "I", false), ("PointerAnalyzerModel", "kinds", "[I", true), ("PointerAnalyzerModel", "ofV", "[I", true), ("PointerAnalyzerModel", "ofW", "[I", true), ("PointerAnalyzerModel", "ofN", "[I", true), ("PointerAnalyzerModel", "size", "[I", true), ("PointerAnalyzerModel", "limit", "I", false), ("PointerAnalyzerModel", "text", "[I", true), ("PointerAnalyzerModel", "length", "I", false), ("PointerAnalyzerModel", "at", "I", false), ("PointerAnalyzerModel", "faultAt", "I", false), ("PointerAnalyzerModel", "reading", "I", false), ("PointerAnalyzerModel", "readNew", "I", false), ("PointerAnalyzerModel", "readCalls", "I", false), ("PointerAnalyzerModel", "contextFunction", "[I", true), ("PointerAnalyzerModel", "contextCode", "[I", true), ("PointerAnalyzerModel", "contexts", "I", false), ("PointerAnalyzerModel", "points", "[J", true), ("PointerAnalyzerModel", "before", "[J", true), ("PointerAnalyzerModel", "isFresh", "Z", false), ("PointerAnalyzerModel", "isChanged", "Z", false), ("PointerAnalyzerModel", "rankOf", "[I", true), ("PointerAnalyzerModel", "reasonOf", "[I", true), ("PointerAnalyzerModel", "rounds", "I", false), ("PointerAnalyzerModel", "parent", "[I", true), ("PointerAnalyzerModel", "pointee", "[I", true), ("PointerAnalyzerModel", "pairA", "[I", true), ("PointerAnalyzerModel", "pairB", "[I", true), ("PointerAnalyzerModel", "terms", "I", false), ("PointerAnalyzerModel", "pairs", "I", false), ("PointerAnalyzerModel", "memory", "[I", true), ("PointerAnalyzerModel", "targetAt", "[I", true), ("PointerAnalyzerModel", "stackFunction", "[I", true), ("PointerAnalyzerModel", "stackNext", "[I", true), ("PointerAnalyzerModel", "stackBase", "[I", true), ("PointerAnalyzerModel", "seen", "[J", true), ("PointerAnalyzerModel", "deep", "I", false), ("PointerAnalyzerModel", "activations", "I", false), ("PointerAnalyzerModel", "objectCount", "I", false), ("PointerAnalyzerModel", "faultCount", "I", false), ("PointerAnalyzerModel", "executed", "I", false), ("PointerAnalyzerModel", "saved", "[I", true), ("PointerAnalyzerModel", "isSaved", "Z", false), ("PointerAnalyzerModel", "isSaving", "Z", false), ("PointerAnalyzerModel", "cursor", "I", false)]]
def tyT : List (List FieldType) := [[.array .int, .int, .int, .int], [.array .int, .array .int, .int, .int], [.array .int, .int, .int, .int], [.array .long], [.object "PointerAnalyzer$Contexts", .array .long, .array .long, .array .int, .array .int, .array .long, .array .int, .array .int, .boolean, .int, .int, .int, .int], [.array .int, .array .int, .array .long, .array .int, .array .int, .array .int, .int, .int, .int, .int, .int], [.array .int, .array .int, .int, .array .int, .array .int, .array .int, .array .int, .int], [.array .int, .array .int, .boolean], [.object "PointerAnalyzer$BodyText", .object "PointerAnalyzer$Draft", .object "PointerAnalyzer$Program", .object "PointerAnalyzer$Program", .object "PointerAnalyzer$Inclusion", .object "PointerAnalyzer$Inclusion", .object "PointerAnalyzer$Unification", .object "PointerAnalyzer$Graph", .object "PointerAnalyzer$Machine", .int, .boolean], [.int, .array .int, .array .int, .array .int, .array .int, .array .int, .int, .array .int, .int, .int, .int, .int, .int, .int, .array .int, .array .int, .int, .array .long, .array .long, .boolean, .boolean, .array .int, .array .int, .int, .array .int, .array .int, .array .int, .array .int, .int, .int, .array .int, .array .int, .array .int, .array .int, .array .int, .array .long, .int, .int, .int, .int, .int, .array .int, .boolean, .boolean, .int]]
def fT (ci : Nat) : u_T := fun k => (ffT.getD ci []).getD k ("", "", "", false)
def fTy (ci : Nat) : Nat → FieldType := fun k => (tyT.getD ci []).getD k .int
def nf (ci : Nat) : Nat := (fkT.getD ci []).length
def clA : List vw_C := (List.range 10).map (fun ci => (cN ci, fT ci, nf ci))
abbrev MRow : Type := MethodName × (ByteArray × (Option FieldType × (Nat × (Bool × (Nat × (Nat × (Nat × List (Nat × Nat × Nat × Nat))))))))
def mr_0 : MRow := (⟨"PointerAnalyzer$BodyText", "isFull", "()Z"⟩, prog_2_method_2_code, (some .boolean), 0, false, 1, 0, 0, [])
def mr_1 : MRow := (⟨"PointerAnalyzer$BodyText", "append", "(I)I"⟩, prog_2_method_3_code, (some .int), 0, false, 2, 22, 0, [])
def mr_2 : MRow := (⟨"PointerAnalyzer$BodyText", "empty", "()V"⟩, prog_2_method_4_code, none, 0, false, 1, 0, 0, [])
def mr_3 : MRow := (⟨"PointerAnalyzer$BodyText", "read", "(ILPointerAnalyzer$Draft;)I"⟩, prog_2_method_5_code, (some .int), 0, false, 6, 115, 0, [])
def mr_4 : MRow := (⟨"PointerAnalyzer$BodyText", "readStatement", "(LPointerAnalyzer$Draft;)Z"⟩, prog_2_method_6_code, (some .boolean), 0, false, 5, 93, 0, [])
def mr_5 : MRow := (⟨"PointerAnalyzer$BodyText", "readStore", "(LPointerAnalyzer$Draft;)Z"⟩, prog_2_method_7_code, (some .boolean), 0, false, 4, 71, 0, [])
def mr_6 : MRow := (⟨"PointerAnalyzer$BodyText", "readOperand", "(LPointerAnalyzer$Draft;II)Z"⟩, prog_2_method_8_code, (some .boolean), 0, false, 3, 47, 0, [])
def mr_7 : MRow := (⟨"PointerAnalyzer$BodyText", "readCall", "(LPointerAnalyzer$Draft;I)Z"⟩, prog_2_method_9_code, (some .boolean), 0, false, 3, 47, 0, [])
def mr_8 : MRow := (⟨"PointerAnalyzer$BodyText", "readCopyOrOffset", "(LPointerAnalyzer$Draft;I)Z"⟩, prog_2_method_10_code, (some .boolean), 0, false, 3, 47, 0, [])
def mr_9 : MRow := (⟨"PointerAnalyzer$BodyText", "accept", "(C)Z"⟩, prog_2_method_11_code, (some .boolean), 0, false, 2, 21, 0, [])
def mr_10 : MRow := (⟨"PointerAnalyzer$BodyText", "readDigit", "(I)I"⟩, prog_2_method_12_code, (some .int), 0, false, 2, 21, 0, [])
def mr_11 : MRow := (⟨"PointerAnalyzer$BodyText", "readVariable", "()I"⟩, prog_2_method_13_code, (some .int), 0, false, 2, 21, 0, [])
def mr_12 : MRow := (⟨"PointerAnalyzer$BodyText", "variableNamed", "(I)I"⟩, prog_2_method_14_code, (some .int), 0, false, 1, 0, 0, [])
def mr_13 : MRow := (⟨"PointerAnalyzer$BodyText", "current", "()I"⟩, prog_2_method_15_code, (some .int), 0, false, 1, 0, 0, [])
def mr_14 : MRow := (⟨"PointerAnalyzer$Contexts", "arrange", "(LPointerAnalyzer$Program;I)V"⟩, prog_3_method_2_code, none, 1, false, 5, 88, 0, [])
def mr_15 : MRow := (⟨"PointerAnalyzer$Contexts", "followCalls", "(LPointerAnalyzer$Program;I)V"⟩, prog_3_method_3_code, none, 1, false, 4, 64, 0, [])
def mr_16 : MRow := (⟨"PointerAnalyzer$Contexts", "extended", "(II)I"⟩, prog_3_method_4_code, (some .int), 1, false, 2, 20, 0, [])
def mr_17 : MRow := (⟨"PointerAnalyzer$Contexts", "lastCall", "(I)I"⟩, prog_3_method_5_code, (some .int), 1, true, 1, 0, 0, [])
def mr_18 : MRow := (⟨"PointerAnalyzer$Contexts", "enter", "(I)V"⟩, prog_3_method_6_code, none, 1, false, 3, 43, 0, [])
def mr_19 : MRow := (⟨"PointerAnalyzer$Contexts", "find", "(I)I"⟩, prog_3_method_7_code, (some .int), 1, false, 2, 21, 0, [])
def mr_20 : MRow := (⟨"PointerAnalyzer$Contexts", "sort", "()V"⟩, prog_3_method_8_code, none, 1, false, 2, 22, 0, [])
def mr_21 : MRow := (⟨"PointerAnalyzer$Contexts", "countBelow", "(I)I"⟩, prog_3_method_9_code, (some .int), 1, false, 2, 21, 0, [])
def mr_22 : MRow := (⟨"PointerAnalyzer$Contexts", "size", "()I"⟩, prog_3_method_10_code, (some .int), 1, false, 1, 0, 0, [])
def mr_23 : MRow := (⟨"PointerAnalyzer$Contexts", "sizeOf", "(I)I"⟩, prog_3_method_11_code, (some .int), 1, false, 2, 21, 0, [])
def mr_24 : MRow := (⟨"PointerAnalyzer$Contexts", "placeOf", "(II)I"⟩, prog_3_method_12_code, (some .int), 1, false, 2, 21, 0, [])
def mr_25 : MRow := (⟨"PointerAnalyzer$Contexts", "ownerAt", "(I)I"⟩, prog_3_method_13_code, (some .int), 1, false, 2, 21, 0, [])
def mr_26 : MRow := (⟨"PointerAnalyzer$Contexts", "keyAt", "(I)I"⟩, prog_3_method_14_code, (some .int), 1, false, 2, 21, 0, [])
def mr_27 : MRow := (⟨"PointerAnalyzer$Contexts", "lengthOf", "(II)I"⟩, prog_3_method_15_code, (some .int), 1, false, 3, 43, 0, [])
def mr_28 : MRow := (⟨"PointerAnalyzer$Contexts", "callOf", "(III)I"⟩, prog_3_method_16_code, (some .int), 1, false, 3, 43, 0, [])
def mr_29 : MRow := (⟨"PointerAnalyzer$Contexts", "placeAfter", "(III)I"⟩, prog_3_method_17_code, (some .int), 1, false, 3, 43, 0, [])
def mr_30 : MRow := (⟨"PointerAnalyzer$Draft", "empty", "()V"⟩, prog_4_method_2_code, none, 2, false, 1, 0, 0, [])
def mr_31 : MRow := (⟨"PointerAnalyzer$Draft", "add", "(IIII)Z"⟩, prog_4_method_3_code, (some .boolean), 2, false, 2, 23, 0, [])
def mr_32 : MRow := (⟨"PointerAnalyzer$Draft", "size", "()I"⟩, prog_4_method_4_code, (some .int), 2, false, 1, 0, 0, [])
def mr_33 : MRow := (⟨"PointerAnalyzer$Draft", "allocations", "()I"⟩, prog_4_method_5_code, (some .int), 2, false, 1, 0, 0, [])
def mr_34 : MRow := (⟨"PointerAnalyzer$Draft", "calls", "()I"⟩, prog_4_method_6_code, (some .int), 2, false, 1, 0, 0, [])
def mr_35 : MRow := (⟨"PointerAnalyzer$Draft", "get", "(I)I"⟩, prog_4_method_7_code, (some .int), 2, false, 2, 21, 0, [])
def mr_36 : MRow := (⟨"PointerAnalyzer$Graph", "clear", "()V"⟩, prog_5_method_2_code, none, 3, false, 2, 23, 0, [])
def mr_37 : MRow := (⟨"PointerAnalyzer$Graph", "connect", "(II)V"⟩, prog_5_method_3_code, none, 3, false, 3, 46, 0, [])
def mr_38 : MRow := (⟨"PointerAnalyzer$Graph", "connectAll", "(IJ)V"⟩, prog_5_method_4_code, none, 3, false, 2, 23, 0, [])
def mr_39 : MRow := (⟨"PointerAnalyzer$Graph", "close", "()V"⟩, prog_5_method_5_code, none, 3, false, 3, 46, 0, [])
def mr_40 : MRow := (⟨"PointerAnalyzer$Graph", "row", "(I)J"⟩, prog_5_method_6_code, (some .long), 3, false, 2, 21, 0, [])
def mr_41 : MRow := (⟨"PointerAnalyzer$Inclusion", "forget", "()V"⟩, prog_6_method_2_code, none, 4, false, 1, 0, 0, [])
def mr_42 : MRow := (⟨"PointerAnalyzer$Inclusion", "solve", "(LPointerAnalyzer$Program;I)V"⟩, prog_6_method_3_code, none, 4, false, 6, 126, 0, [])
def mr_43 : MRow := (⟨"PointerAnalyzer$Inclusion", "clear", "()V"⟩, prog_6_method_4_code, none, 4, false, 4, 64, 0, [])
def mr_44 : MRow := (⟨"PointerAnalyzer$Inclusion", "codeOf", "(I)I"⟩, prog_6_method_5_code, (some .int), 4, false, 3, 42, 0, [])
def mr_45 : MRow := (⟨"PointerAnalyzer$Inclusion", "apply", "(LPointerAnalyzer$Program;I)V"⟩, prog_6_method_6_code, none, 4, false, 5, 100, 0, [])
def mr_46 : MRow := (⟨"PointerAnalyzer$Inclusion", "cell", "(II)I"⟩, prog_6_method_7_code, (some .int), 4, true, 1, 0, 0, [])
def mr_47 : MRow := (⟨"PointerAnalyzer$Inclusion", "addLoaded", "(II)V"⟩, prog_6_method_8_code, none, 4, false, 4, 75, 0, [])
def mr_48 : MRow := (⟨"PointerAnalyzer$Inclusion", "addStored", "(II)V"⟩, prog_6_method_9_code, none, 4, false, 4, 75, 0, [])
def mr_49 : MRow := (⟨"PointerAnalyzer$Inclusion", "listPointees", "(I)I"⟩, prog_6_method_10_code, (some .int), 4, false, 3, 43, 0, [])
def mr_50 : MRow := (⟨"PointerAnalyzer$Inclusion", "addShifted", "(III)V"⟩, prog_6_method_11_code, none, 4, false, 4, 75, 0, [])
def mr_51 : MRow := (⟨"PointerAnalyzer$Inclusion", "add", "(II)V"⟩, prog_6_method_12_code, none, 4, false, 3, 52, 0, [])
def mr_52 : MRow := (⟨"PointerAnalyzer$Inclusion", "addAll", "(II)V"⟩, prog_6_method_13_code, none, 4, false, 3, 52, 0, [])
def mr_53 : MRow := (⟨"PointerAnalyzer$Inclusion", "addWord", "(IIJ)V"⟩, prog_6_method_14_code, none, 4, false, 2, 23, 0, [])
def mr_54 : MRow := (⟨"PointerAnalyzer$Inclusion", "word", "(II)J"⟩, prog_6_method_15_code, (some .long), 4, false, 2, 21, 0, [])
def mr_55 : MRow := (⟨"PointerAnalyzer$Inclusion", "contexts", "()LPointerAnalyzer$Contexts;"⟩, prog_6_method_16_code, (some (.object "PointerAnalyzer$Contexts")), 4, false, 1, 0, 0, [])
def mr_56 : MRow := (⟨"PointerAnalyzer$Inclusion", "facts", "()I"⟩, prog_6_method_17_code, (some .int), 4, false, 1, 0, 0, [])
def mr_57 : MRow := (⟨"PointerAnalyzer$Inclusion", "rounds", "()I"⟩, prog_6_method_18_code, (some .int), 4, false, 1, 0, 0, [])
def mr_58 : MRow := (⟨"PointerAnalyzer$Inclusion", "targetsOf", "(I)J"⟩, prog_6_method_19_code, (some .long), 4, false, 2, 21, 0, [])
def mr_59 : MRow := (⟨"PointerAnalyzer$Inclusion", "targetsIn", "(II)J"⟩, prog_6_method_20_code, (some .long), 4, false, 4, 69, 0, [])
def mr_60 : MRow := (⟨"PointerAnalyzer$Inclusion", "roundOf", "(II)I"⟩, prog_6_method_21_code, (some .int), 4, false, 2, 21, 0, [])
def mr_61 : MRow := (⟨"PointerAnalyzer$Inclusion", "originOf", "(II)I"⟩, prog_6_method_22_code, (some .int), 4, false, 2, 21, 0, [])
def mr_62 : MRow := (⟨"PointerAnalyzer$Machine", "clear", "()V"⟩, prog_7_method_2_code, none, 5, false, 2, 23, 0, [])
def mr_63 : MRow := (⟨"PointerAnalyzer$Machine", "play", "(LPointerAnalyzer$Program;)V"⟩, prog_7_method_3_code, none, 5, false, 6, 115, 0, [])
def mr_64 : MRow := (⟨"PointerAnalyzer$Machine", "takeCells", "(II)I"⟩, prog_7_method_4_code, (some .int), 5, false, 2, 22, 0, [])
def mr_65 : MRow := (⟨"PointerAnalyzer$Machine", "open", "(LPointerAnalyzer$Program;I)V"⟩, prog_7_method_5_code, none, 5, false, 3, 46, 0, [])
def mr_66 : MRow := (⟨"PointerAnalyzer$Machine", "close", "(LPointerAnalyzer$Program;)V"⟩, prog_7_method_6_code, none, 5, false, 3, 45, 0, [])
def mr_67 : MRow := (⟨"PointerAnalyzer$Machine", "execute", "(LPointerAnalyzer$Program;I)V"⟩, prog_7_method_7_code, none, 5, false, 5, 91, 0, [])
def mr_68 : MRow := (⟨"PointerAnalyzer$Machine", "load", "(II)V"⟩, prog_7_method_8_code, none, 5, false, 3, 45, 0, [])
def mr_69 : MRow := (⟨"PointerAnalyzer$Machine", "store", "(II)V"⟩, prog_7_method_9_code, none, 5, false, 3, 45, 0, [])
def mr_70 : MRow := (⟨"PointerAnalyzer$Machine", "shift", "(III)V"⟩, prog_7_method_10_code, none, 5, false, 3, 45, 0, [])
def mr_71 : MRow := (⟨"PointerAnalyzer$Machine", "call", "(LPointerAnalyzer$Program;II)V"⟩, prog_7_method_11_code, none, 5, false, 4, 68, 0, [])
def mr_72 : MRow := (⟨"PointerAnalyzer$Machine", "addressOf", "(I)I"⟩, prog_7_method_12_code, (some .int), 5, false, 2, 21, 0, [])
def mr_73 : MRow := (⟨"PointerAnalyzer$Machine", "read", "(I)I"⟩, prog_7_method_13_code, (some .int), 5, false, 2, 21, 0, [])
def mr_74 : MRow := (⟨"PointerAnalyzer$Machine", "write", "(II)V"⟩, prog_7_method_14_code, none, 5, false, 2, 23, 0, [])
def mr_75 : MRow := (⟨"PointerAnalyzer$Machine", "executed", "()I"⟩, prog_7_method_15_code, (some .int), 5, false, 1, 0, 0, [])
def mr_76 : MRow := (⟨"PointerAnalyzer$Machine", "failed", "()I"⟩, prog_7_method_16_code, (some .int), 5, false, 1, 0, 0, [])
def mr_77 : MRow := (⟨"PointerAnalyzer$Machine", "made", "()I"⟩, prog_7_method_17_code, (some .int), 5, false, 1, 0, 0, [])
def mr_78 : MRow := (⟨"PointerAnalyzer$Machine", "seenAt", "(I)J"⟩, prog_7_method_18_code, (some .long), 5, false, 2, 21, 0, [])
def mr_79 : MRow := (⟨"PointerAnalyzer$Program", "limit", "()I"⟩, prog_8_method_2_code, (some .int), 6, false, 1, 0, 0, [])
def mr_80 : MRow := (⟨"PointerAnalyzer$Program", "limitTo", "(I)V"⟩, prog_8_method_3_code, none, 6, false, 1, 0, 0, [])
def mr_81 : MRow := (⟨"PointerAnalyzer$Program", "hasRoomFor", "(ILPointerAnalyzer$Draft;)Z"⟩, prog_8_method_4_code, (some .boolean), 6, false, 5, 86, 0, [])
def mr_82 : MRow := (⟨"PointerAnalyzer$Program", "countElsewhere", "(II)I"⟩, prog_8_method_5_code, (some .int), 6, false, 4, 62, 0, [])
def mr_83 : MRow := (⟨"PointerAnalyzer$Program", "replaceBody", "(ILPointerAnalyzer$Draft;)V"⟩, prog_8_method_6_code, none, 6, false, 3, 47, 0, [])
def mr_84 : MRow := (⟨"PointerAnalyzer$Program", "copyFrom", "(LPointerAnalyzer$Program;)V"⟩, prog_8_method_7_code, none, 6, false, 3, 47, 0, [])
def mr_85 : MRow := (⟨"PointerAnalyzer$Program", "number", "()V"⟩, prog_8_method_8_code, none, 6, false, 2, 22, 0, [])
def mr_86 : MRow := (⟨"PointerAnalyzer$Program", "size", "()I"⟩, prog_8_method_9_code, (some .int), 6, false, 3, 42, 0, [])
def mr_87 : MRow := (⟨"PointerAnalyzer$Program", "sites", "()I"⟩, prog_8_method_10_code, (some .int), 6, false, 1, 0, 0, [])
def mr_88 : MRow := (⟨"PointerAnalyzer$Program", "startOf", "(I)I"⟩, prog_8_method_11_code, (some .int), 6, false, 2, 21, 0, [])
def mr_89 : MRow := (⟨"PointerAnalyzer$Program", "endOf", "(I)I"⟩, prog_8_method_12_code, (some .int), 6, false, 2, 21, 0, [])
def mr_90 : MRow := (⟨"PointerAnalyzer$Program", "kindAt", "(I)I"⟩, prog_8_method_13_code, (some .int), 6, false, 2, 21, 0, [])
def mr_91 : MRow := (⟨"PointerAnalyzer$Program", "leftAt", "(I)I"⟩, prog_8_method_14_code, (some .int), 6, false, 2, 21, 0, [])
def mr_92 : MRow := (⟨"PointerAnalyzer$Program", "rightAt", "(I)I"⟩, prog_8_method_15_code, (some .int), 6, false, 2, 21, 0, [])
def mr_93 : MRow := (⟨"PointerAnalyzer$Program", "numberAt", "(I)I"⟩, prog_8_method_16_code, (some .int), 6, false, 2, 21, 0, [])
def mr_94 : MRow := (⟨"PointerAnalyzer$Program", "ownerAt", "(I)I"⟩, prog_8_method_17_code, (some .int), 6, false, 2, 21, 0, [])
def mr_95 : MRow := (⟨"PointerAnalyzer$Program", "siteAt", "(I)I"⟩, prog_8_method_18_code, (some .int), 6, false, 2, 21, 0, [])
def mr_96 : MRow := (⟨"PointerAnalyzer$Rows", "get", "([II)I"⟩, prog_9_method_2_code, (some .int), 10, true, 1, 0, 0, [])
def mr_97 : MRow := (⟨"PointerAnalyzer$Rows", "get", "([JI)J"⟩, prog_9_method_3_code, (some .long), 10, true, 1, 0, 0, [])
def mr_98 : MRow := (⟨"PointerAnalyzer$Rows", "put", "([III)V"⟩, prog_9_method_4_code, none, 10, true, 1, 0, 0, [])
def mr_99 : MRow := (⟨"PointerAnalyzer$Rows", "unite", "([JIJ)V"⟩, prog_9_method_5_code, none, 10, true, 1, 0, 0, [])
def mr_100 : MRow := (⟨"PointerAnalyzer$Rows", "fill", "([JJ)V"⟩, prog_9_method_6_code, none, 10, true, 1, 0, 0, [])
def mr_101 : MRow := (⟨"PointerAnalyzer$Rows", "copy", "([I[I)V"⟩, prog_9_method_7_code, none, 10, true, 1, 0, 0, [])
def mr_102 : MRow := (⟨"PointerAnalyzer$Rows", "copy", "([J[J)V"⟩, prog_9_method_8_code, none, 10, true, 1, 0, 0, [])
def mr_103 : MRow := (⟨"PointerAnalyzer$Statement", "pack", "(IIII)I"⟩, prog_10_method_2_code, (some .int), 11, true, 1, 0, 0, [])
def mr_104 : MRow := (⟨"PointerAnalyzer$Statement", "kindIn", "(I)I"⟩, prog_10_method_3_code, (some .int), 11, true, 1, 0, 0, [])
def mr_105 : MRow := (⟨"PointerAnalyzer$Statement", "leftIn", "(I)I"⟩, prog_10_method_4_code, (some .int), 11, true, 1, 0, 0, [])
def mr_106 : MRow := (⟨"PointerAnalyzer$Statement", "rightIn", "(I)I"⟩, prog_10_method_5_code, (some .int), 11, true, 1, 0, 0, [])
def mr_107 : MRow := (⟨"PointerAnalyzer$Statement", "numberIn", "(I)I"⟩, prog_10_method_6_code, (some .int), 11, true, 1, 0, 0, [])
def mr_108 : MRow := (⟨"PointerAnalyzer$Unification", "forget", "()V"⟩, prog_11_method_2_code, none, 7, false, 1, 0, 0, [])
def mr_109 : MRow := (⟨"PointerAnalyzer$Unification", "solve", "(LPointerAnalyzer$Program;)V"⟩, prog_11_method_3_code, none, 7, false, 5, 96, 0, [])
def mr_110 : MRow := (⟨"PointerAnalyzer$Unification", "separate", "()V"⟩, prog_11_method_4_code, none, 7, false, 2, 22, 0, [])
def mr_111 : MRow := (⟨"PointerAnalyzer$Unification", "pointee", "(I)I"⟩, prog_11_method_5_code, (some .int), 7, true, 1, 0, 0, [])
def mr_112 : MRow := (⟨"PointerAnalyzer$Unification", "secondPointee", "(I)I"⟩, prog_11_method_6_code, (some .int), 7, true, 1, 0, 0, [])
def mr_113 : MRow := (⟨"PointerAnalyzer$Unification", "siteTerm", "(I)I"⟩, prog_11_method_7_code, (some .int), 7, true, 1, 0, 0, [])
def mr_114 : MRow := (⟨"PointerAnalyzer$Unification", "apply", "(LPointerAnalyzer$Program;I)V"⟩, prog_11_method_8_code, none, 7, false, 4, 71, 0, [])
def mr_115 : MRow := (⟨"PointerAnalyzer$Unification", "join", "(II)V"⟩, prog_11_method_9_code, none, 7, false, 3, 44, 0, [])
def mr_116 : MRow := (⟨"PointerAnalyzer$Unification", "root", "(I)I"⟩, prog_11_method_10_code, (some .int), 7, false, 2, 21, 0, [])
def mr_117 : MRow := (⟨"PointerAnalyzer$Unification", "joins", "(II)Z"⟩, prog_11_method_11_code, (some .boolean), 7, false, 3, 44, 0, [])
def mr_118 : MRow := (⟨"PointerAnalyzer$Unification", "targetsOf", "(II)J"⟩, prog_11_method_12_code, (some .long), 7, false, 3, 44, 0, [])
def mr_119 : MRow := (⟨"PointerAnalyzer$Unification", "classes", "(I)I"⟩, prog_11_method_13_code, (some .int), 7, false, 5, 88, 0, [])
def mr_120 : MRow := (⟨"PointerAnalyzer$Unification", "isFirstOfClass", "(I)Z"⟩, prog_11_method_14_code, (some .boolean), 7, false, 4, 66, 0, [])
def mr_121 : MRow := (⟨"PointerAnalyzer", "appendCharacter", "(I)I"⟩, prog_1_method_2_code, (some .int), 8, false, 7, 90, 2, [])
def mr_122 : MRow := (⟨"PointerAnalyzer", "setBody", "(I)I"⟩, prog_1_method_3_code, (some .int), 8, false, 8, 138, 3, [])
def mr_123 : MRow := (⟨"PointerAnalyzer", "faultPosition", "()I"⟩, prog_1_method_4_code, (some .int), 8, false, 1, 0, 0, [])
def mr_124 : MRow := (⟨"PointerAnalyzer", "statementCount", "()I"⟩, prog_1_method_5_code, (some .int), 8, false, 4, 62, 0, [])
def mr_125 : MRow := (⟨"PointerAnalyzer", "kind", "(I)I"⟩, prog_1_method_6_code, (some .int), 8, false, 8, 111, 1, [])
def mr_126 : MRow := (⟨"PointerAnalyzer", "functionOf", "(I)I"⟩, prog_1_method_7_code, (some .int), 8, false, 8, 111, 1, [])
def mr_127 : MRow := (⟨"PointerAnalyzer", "siteCount", "()I"⟩, prog_1_method_8_code, (some .int), 8, false, 2, 20, 0, [])
def mr_128 : MRow := (⟨"PointerAnalyzer", "setLimit", "(I)I"⟩, prog_1_method_9_code, (some .int), 8, false, 7, 90, 1, [])
def mr_129 : MRow := (⟨"PointerAnalyzer", "contextCount", "(I)I"⟩, prog_1_method_10_code, (some .int), 8, false, 8, 153, 1, [])
def mr_130 : MRow := (⟨"PointerAnalyzer", "contextLength", "(II)I"⟩, prog_1_method_11_code, (some .int), 8, false, 9, 153, 2, [])
def mr_131 : MRow := (⟨"PointerAnalyzer", "contextCall", "(III)I"⟩, prog_1_method_12_code, (some .int), 8, false, 9, 153, 3, [])
def mr_132 : MRow := (⟨"PointerAnalyzer", "pointsTo", "(I)J"⟩, prog_1_method_13_code, (some .long), 8, false, 8, 153, 1, [])
def mr_133 : MRow := (⟨"PointerAnalyzer", "pointsToIn", "(II)J"⟩, prog_1_method_14_code, (some .long), 8, false, 9, 153, 4, [])
def mr_134 : MRow := (⟨"PointerAnalyzer", "fieldPointsTo", "(II)J"⟩, prog_1_method_15_code, (some .long), 8, false, 8, 153, 1, [])
def mr_135 : MRow := (⟨"PointerAnalyzer", "factCount", "()I"⟩, prog_1_method_16_code, (some .int), 8, false, 7, 153, 0, [])
def mr_136 : MRow := (⟨"PointerAnalyzer", "mayAlias", "(II)Z"⟩, prog_1_method_17_code, (some .boolean), 8, false, 8, 153, 2, [])
def mr_137 : MRow := (⟨"PointerAnalyzer", "reach", "(I)J"⟩, prog_1_method_18_code, (some .long), 8, false, 8, 153, 1, [])
def mr_138 : MRow := (⟨"PointerAnalyzer", "escapingSites", "()I"⟩, prog_1_method_19_code, (some .int), 8, false, 7, 153, 0, [])
def mr_139 : MRow := (⟨"PointerAnalyzer", "rank", "(II)I"⟩, prog_1_method_20_code, (some .int), 8, false, 9, 153, 3, [])
def mr_140 : MRow := (⟨"PointerAnalyzer", "reason", "(II)I"⟩, prog_1_method_21_code, (some .int), 8, false, 9, 153, 3, [])
def mr_141 : MRow := (⟨"PointerAnalyzer", "roundCount", "()I"⟩, prog_1_method_22_code, (some .int), 8, false, 7, 153, 0, [])
def mr_142 : MRow := (⟨"PointerAnalyzer", "unifiedTargets", "(I)J"⟩, prog_1_method_23_code, (some .long), 8, false, 8, 118, 1, [])
def mr_143 : MRow := (⟨"PointerAnalyzer", "areUnified", "(II)Z"⟩, prog_1_method_24_code, (some .boolean), 8, false, 8, 118, 2, [])
def mr_144 : MRow := (⟨"PointerAnalyzer", "unifiedClasses", "()I"⟩, prog_1_method_25_code, (some .int), 8, false, 6, 118, 0, [])
def mr_145 : MRow := (⟨"PointerAnalyzer", "modifies", "(I)J"⟩, prog_1_method_26_code, (some .long), 8, false, 8, 153, 1, [])
def mr_146 : MRow := (⟨"PointerAnalyzer", "isReachable", "(I)Z"⟩, prog_1_method_27_code, (some .boolean), 8, false, 8, 153, 1, [])
def mr_147 : MRow := (⟨"PointerAnalyzer", "isRecursive", "(I)Z"⟩, prog_1_method_28_code, (some .boolean), 8, false, 8, 111, 1, [])
def mr_148 : MRow := (⟨"PointerAnalyzer", "cycleOf", "(I)I"⟩, prog_1_method_29_code, (some .int), 8, false, 8, 111, 1, [])
def mr_149 : MRow := (⟨"PointerAnalyzer", "run", "()I"⟩, prog_1_method_30_code, (some .int), 8, false, 7, 139, 0, [])
def mr_150 : MRow := (⟨"PointerAnalyzer", "observed", "(I)J"⟩, prog_1_method_31_code, (some .long), 8, false, 8, 111, 1, [])
def mr_151 : MRow := (⟨"PointerAnalyzer", "fieldObserved", "(II)J"⟩, prog_1_method_32_code, (some .long), 8, false, 8, 112, 1, [])
def mr_152 : MRow := (⟨"PointerAnalyzer", "faults", "()I"⟩, prog_1_method_33_code, (some .int), 8, false, 2, 20, 0, [])
def mr_153 : MRow := (⟨"PointerAnalyzer", "objects", "()I"⟩, prog_1_method_34_code, (some .int), 8, false, 2, 20, 0, [])
def mr_154 : MRow := (⟨"PointerAnalyzer", "precision", "()D"⟩, prog_1_method_35_code, (some .double), 8, false, 7, 153, 1, [])
def mr_155 : MRow := (⟨"PointerAnalyzer", "averageTargets", "()F"⟩, prog_1_method_36_code, (some .float), 8, false, 7, 153, 1, [])
def mr_156 : MRow := (⟨"PointerAnalyzer", "save", "()V"⟩, prog_1_method_37_code, none, 8, false, 4, 68, 0, [])
def mr_157 : MRow := (⟨"PointerAnalyzer", "restore", "()V"⟩, prog_1_method_38_code, none, 8, false, 7, 90, 1, [])
def mr_158 : MRow := (⟨"PointerAnalyzer", "forgetAnswers", "()V"⟩, prog_1_method_39_code, none, 8, false, 3, 43, 0, [])
def mr_159 : MRow := (⟨"PointerAnalyzer", "drawPointers", "()V"⟩, prog_1_method_40_code, none, 8, false, 4, 68, 0, [])
def mr_160 : MRow := (⟨"PointerAnalyzer", "drawCalls", "()V"⟩, prog_1_method_41_code, none, 8, false, 4, 68, 0, [])
def mr_161 : MRow := (⟨"PointerAnalyzer", "drawFlow", "()V"⟩, prog_1_method_42_code, none, 8, false, 4, 68, 0, [])
def mr_162 : MRow := (⟨"PointerAnalyzer", "checkFunction", "(I)V"⟩, prog_1_method_43_code, none, 8, false, 7, 90, 1, [])
def mr_163 : MRow := (⟨"PointerAnalyzer", "checkContext", "(II)V"⟩, prog_1_method_44_code, none, 8, false, 8, 111, 2, [])
def mr_164 : MRow := (⟨"PointerAnalyzer", "checkStatement", "(I)V"⟩, prog_1_method_45_code, none, 8, false, 7, 90, 1, [])
def mr_165 : MRow := (⟨"PointerAnalyzer", "checkVariable", "(I)V"⟩, prog_1_method_46_code, none, 8, false, 7, 90, 1, [])
def mr_166 : MRow := (⟨"PointerAnalyzer", "checkField", "(II)V"⟩, prog_1_method_47_code, none, 8, false, 7, 90, 1, [])
def mr_167 : MRow := (⟨"PointerAnalyzer", "checkPlainFact", "(II)V"⟩, prog_1_method_48_code, none, 8, false, 8, 111, 3, [])
def mr_168 : MRow := (⟨"PointerAnalyzer", "parameterOf", "(I)I"⟩, prog_1_method_49_code, (some .int), 8, true, 1, 0, 0, [])
def mr_169 : MRow := (⟨"PointerAnalyzer", "resultOf", "(I)I"⟩, prog_1_method_50_code, (some .int), 8, true, 2, 20, 0, [])
def mr_170 : MRow := (⟨"PointerAnalyzer", "ownerOfLocal", "(I)I"⟩, prog_1_method_51_code, (some .int), 8, true, 1, 0, 0, [])
def mr_171 : MRow := (⟨"PointerAnalyzer", "fieldCode", "(II)I"⟩, prog_1_method_52_code, (some .int), 8, true, 1, 0, 0, [])
def mr_172 : MRow := (⟨"PointerAnalyzer", "allFields", "(I)J"⟩, prog_1_method_53_code, (some .long), 8, true, 2, 21, 0, [])
def mr_173 : MRow := (⟨"PointerAnalyzer", "has", "(JI)Z"⟩, prog_1_method_54_code, (some .boolean), 8, true, 1, 0, 0, [])
def mr_174 : MRow := (⟨"PointerAnalyzerModel", "thrown", "()I"⟩, prog_13_method_2_code, (some .int), 9, false, 1, 0, 0, [])
def mr_175 : MRow := (⟨"PointerAnalyzerModel", "fails", "(I)I"⟩, prog_13_method_3_code, (some .int), 9, false, 1, 0, 0, [])
def mr_176 : MRow := (⟨"PointerAnalyzerModel", "refuses", "(I)Z"⟩, prog_13_method_4_code, (some .boolean), 9, false, 1, 0, 0, [])
def mr_177 : MRow := (⟨"PointerAnalyzerModel", "isBetween", "(III)Z"⟩, prog_13_method_5_code, (some .boolean), 9, true, 1, 0, 0, [])
def mr_178 : MRow := (⟨"PointerAnalyzerModel", "bits", "(J)I"⟩, prog_13_method_6_code, (some .int), 9, true, 1, 0, 0, [])
def mr_179 : MRow := (⟨"PointerAnalyzerModel", "isFunction", "(I)Z"⟩, prog_13_method_7_code, (some .boolean), 9, true, 1, 0, 0, [])
def mr_180 : MRow := (⟨"PointerAnalyzerModel", "isVariable", "(I)Z"⟩, prog_13_method_8_code, (some .boolean), 9, true, 1, 0, 0, [])
def mr_181 : MRow := (⟨"PointerAnalyzerModel", "statements", "()I"⟩, prog_13_method_9_code, (some .int), 9, false, 1, 0, 0, [])
def mr_182 : MRow := (⟨"PointerAnalyzerModel", "placeOf", "(I)I"⟩, prog_13_method_10_code, (some .int), 9, false, 1, 0, 0, [])
def mr_183 : MRow := (⟨"PointerAnalyzerModel", "numberOf", "(I)I"⟩, prog_13_method_11_code, (some .int), 9, false, 1, 0, 0, [])
def mr_184 : MRow := (⟨"PointerAnalyzerModel", "many", "(II)I"⟩, prog_13_method_12_code, (some .int), 9, false, 1, 0, 0, [])
def mr_185 : MRow := (⟨"PointerAnalyzerModel", "siteOf", "(I)I"⟩, prog_13_method_13_code, (some .int), 9, false, 2, 23, 0, [])
def mr_186 : MRow := (⟨"PointerAnalyzerModel", "appendCharacter", "(I)I"⟩, prog_13_method_14_code, (some .int), 9, false, 2, 22, 0, [])
def mr_187 : MRow := (⟨"PointerAnalyzerModel", "next", "()I"⟩, prog_13_method_15_code, (some .int), 9, false, 1, 0, 0, [])
def mr_188 : MRow := (⟨"PointerAnalyzerModel", "skips", "(I)Z"⟩, prog_13_method_16_code, (some .boolean), 9, false, 2, 20, 0, [])
def mr_189 : MRow := (⟨"PointerAnalyzerModel", "name", "(I)I"⟩, prog_13_method_17_code, (some .int), 9, false, 2, 22, 0, [])
def mr_190 : MRow := (⟨"PointerAnalyzerModel", "digit", "(I)I"⟩, prog_13_method_18_code, (some .int), 9, false, 2, 22, 0, [])
def mr_191 : MRow := (⟨"PointerAnalyzerModel", "puts", "(IIII)V"⟩, prog_13_method_19_code, none, 9, false, 1, 0, 0, [])
def mr_192 : MRow := (⟨"PointerAnalyzerModel", "takesStore", "(I)Z"⟩, prog_13_method_20_code, (some .boolean), 9, false, 3, 45, 0, [])
def mr_193 : MRow := (⟨"PointerAnalyzerModel", "takesCall", "(II)Z"⟩, prog_13_method_21_code, (some .boolean), 9, false, 3, 45, 0, [])
def mr_194 : MRow := (⟨"PointerAnalyzerModel", "takesStatement", "(I)Z"⟩, prog_13_method_22_code, (some .boolean), 9, false, 4, 69, 0, [])
def mr_195 : MRow := (⟨"PointerAnalyzerModel", "takesText", "(I)Z"⟩, prog_13_method_23_code, (some .boolean), 9, false, 5, 94, 0, [])
def mr_196 : MRow := (⟨"PointerAnalyzerModel", "copies", "(II)V"⟩, prog_13_method_24_code, none, 9, false, 1, 0, 0, [])
def mr_197 : MRow := (⟨"PointerAnalyzerModel", "setBody", "(I)I"⟩, prog_13_method_25_code, (some .int), 9, false, 6, 116, 0, [])
def mr_198 : MRow := (⟨"PointerAnalyzerModel", "faultPosition", "()I"⟩, prog_13_method_26_code, (some .int), 9, false, 1, 0, 0, [])
def mr_199 : MRow := (⟨"PointerAnalyzerModel", "statementCount", "()I"⟩, prog_13_method_27_code, (some .int), 9, false, 2, 20, 0, [])
def mr_200 : MRow := (⟨"PointerAnalyzerModel", "isStatement", "(I)Z"⟩, prog_13_method_28_code, (some .boolean), 9, false, 2, 20, 0, [])
def mr_201 : MRow := (⟨"PointerAnalyzerModel", "kind", "(I)I"⟩, prog_13_method_29_code, (some .int), 9, false, 3, 41, 0, [])
def mr_202 : MRow := (⟨"PointerAnalyzerModel", "functionOf", "(I)I"⟩, prog_13_method_30_code, (some .int), 9, false, 3, 41, 0, [])
def mr_203 : MRow := (⟨"PointerAnalyzerModel", "sites", "()I"⟩, prog_13_method_31_code, (some .int), 9, false, 2, 25, 0, [])
def mr_204 : MRow := (⟨"PointerAnalyzerModel", "siteCount", "()I"⟩, prog_13_method_32_code, (some .int), 9, false, 3, 45, 0, [])
def mr_205 : MRow := (⟨"PointerAnalyzerModel", "setLimit", "(I)I"⟩, prog_13_method_33_code, (some .int), 9, false, 2, 22, 0, [])
def mr_206 : MRow := (⟨"PointerAnalyzerModel", "contextOf", "(II)I"⟩, prog_13_method_34_code, (some .int), 9, false, 1, 0, 0, [])
def mr_207 : MRow := (⟨"PointerAnalyzerModel", "codeBehind", "(III)I"⟩, prog_13_method_35_code, (some .int), 9, true, 1, 0, 0, [])
def mr_208 : MRow := (⟨"PointerAnalyzerModel", "addsContext", "(II)V"⟩, prog_13_method_36_code, none, 9, false, 1, 0, 0, [])
def mr_209 : MRow := (⟨"PointerAnalyzerModel", "findContexts", "(I)V"⟩, prog_13_method_37_code, none, 9, false, 2, 23, 0, [])
def mr_210 : MRow := (⟨"PointerAnalyzerModel", "isIn", "([JII)Z"⟩, prog_13_method_38_code, (some .boolean), 9, true, 1, 0, 0, [])
def mr_211 : MRow := (⟨"PointerAnalyzerModel", "cellOf", "(II)I"⟩, prog_13_method_39_code, (some .int), 9, true, 1, 0, 0, [])
def mr_212 : MRow := (⟨"PointerAnalyzerModel", "targetOf", "(I)I"⟩, prog_13_method_40_code, (some .int), 9, false, 1, 0, 0, [])
def mr_213 : MRow := (⟨"PointerAnalyzerModel", "adds", "(II)V"⟩, prog_13_method_41_code, none, 9, false, 2, 22, 0, [])
def mr_214 : MRow := (⟨"PointerAnalyzerModel", "addsAll", "([JII)V"⟩, prog_13_method_42_code, none, 9, false, 1, 0, 0, [])
def mr_215 : MRow := (⟨"PointerAnalyzerModel", "follows", "([JIII)V"⟩, prog_13_method_43_code, none, 9, false, 3, 46, 0, [])
def mr_216 : MRow := (⟨"PointerAnalyzerModel", "clears", "()V"⟩, prog_13_method_44_code, none, 9, false, 1, 0, 0, [])
def mr_217 : MRow := (⟨"PointerAnalyzerModel", "notes", "(II)V"⟩, prog_13_method_45_code, none, 9, false, 2, 22, 0, [])
def mr_218 : MRow := (⟨"PointerAnalyzerModel", "findRanks", "()V"⟩, prog_13_method_46_code, none, 9, false, 4, 74, 0, [])
def mr_219 : MRow := (⟨"PointerAnalyzerModel", "refreshes", "()V"⟩, prog_13_method_47_code, none, 9, false, 5, 98, 0, [])
def mr_220 : MRow := (⟨"PointerAnalyzerModel", "firstOf", "(I)I"⟩, prog_13_method_48_code, (some .int), 9, false, 1, 0, 0, [])
def mr_221 : MRow := (⟨"PointerAnalyzerModel", "contextsOf", "(I)I"⟩, prog_13_method_49_code, (some .int), 9, false, 1, 0, 0, [])
def mr_222 : MRow := (⟨"PointerAnalyzerModel", "contextCount", "(I)I"⟩, prog_13_method_50_code, (some .int), 9, false, 6, 121, 0, [])
def mr_223 : MRow := (⟨"PointerAnalyzerModel", "codeOf", "(II)I"⟩, prog_13_method_51_code, (some .int), 9, false, 6, 121, 0, [])
def mr_224 : MRow := (⟨"PointerAnalyzerModel", "contextLength", "(II)I"⟩, prog_13_method_52_code, (some .int), 9, false, 7, 143, 0, [])
def mr_225 : MRow := (⟨"PointerAnalyzerModel", "contextCall", "(III)I"⟩, prog_13_method_53_code, (some .int), 9, false, 7, 143, 0, [])
def mr_226 : MRow := (⟨"PointerAnalyzerModel", "targetsOf", "(I)J"⟩, prog_13_method_54_code, (some .long), 9, false, 2, 22, 0, [])
def mr_227 : MRow := (⟨"PointerAnalyzerModel", "targetsBy", "(I)J"⟩, prog_13_method_55_code, (some .long), 9, false, 6, 121, 0, [])
def mr_228 : MRow := (⟨"PointerAnalyzerModel", "pointsTo", "(I)J"⟩, prog_13_method_56_code, (some .long), 9, false, 7, 145, 0, [])
def mr_229 : MRow := (⟨"PointerAnalyzerModel", "pointsToIn", "(II)J"⟩, prog_13_method_57_code, (some .long), 9, false, 6, 121, 0, [])
def mr_230 : MRow := (⟨"PointerAnalyzerModel", "isField", "(II)Z"⟩, prog_13_method_58_code, (some .boolean), 9, false, 3, 45, 0, [])
def mr_231 : MRow := (⟨"PointerAnalyzerModel", "fieldPointsTo", "(II)J"⟩, prog_13_method_59_code, (some .long), 9, false, 7, 145, 0, [])
def mr_232 : MRow := (⟨"PointerAnalyzerModel", "factCount", "()I"⟩, prog_13_method_60_code, (some .int), 9, false, 6, 121, 0, [])
def mr_233 : MRow := (⟨"PointerAnalyzerModel", "mayAlias", "(II)Z"⟩, prog_13_method_61_code, (some .boolean), 9, false, 7, 145, 0, [])
def mr_234 : MRow := (⟨"PointerAnalyzerModel", "reached", "(I)J"⟩, prog_13_method_62_code, (some .long), 9, false, 7, 145, 0, [])
def mr_235 : MRow := (⟨"PointerAnalyzerModel", "reach", "(I)J"⟩, prog_13_method_63_code, (some .long), 9, false, 8, 171, 0, [])
def mr_236 : MRow := (⟨"PointerAnalyzerModel", "escapingSites", "()I"⟩, prog_13_method_64_code, (some .int), 9, false, 8, 171, 0, [])
def mr_237 : MRow := (⟨"PointerAnalyzerModel", "isTarget", "(I)Z"⟩, prog_13_method_65_code, (some .boolean), 9, false, 3, 45, 0, [])
def mr_238 : MRow := (⟨"PointerAnalyzerModel", "factAt", "(II)I"⟩, prog_13_method_66_code, (some .int), 9, false, 6, 121, 0, [])
def mr_239 : MRow := (⟨"PointerAnalyzerModel", "rank", "(II)I"⟩, prog_13_method_67_code, (some .int), 9, false, 7, 143, 0, [])
def mr_240 : MRow := (⟨"PointerAnalyzerModel", "reason", "(II)I"⟩, prog_13_method_68_code, (some .int), 9, false, 7, 143, 0, [])
def mr_241 : MRow := (⟨"PointerAnalyzerModel", "roundCount", "()I"⟩, prog_13_method_69_code, (some .int), 9, false, 6, 121, 0, [])
def mr_242 : MRow := (⟨"PointerAnalyzerModel", "rootOf", "(I)I"⟩, prog_13_method_70_code, (some .int), 9, false, 1, 0, 0, [])
def mr_243 : MRow := (⟨"PointerAnalyzerModel", "made", "()I"⟩, prog_13_method_71_code, (some .int), 9, false, 1, 0, 0, [])
def mr_244 : MRow := (⟨"PointerAnalyzerModel", "pointed", "(I)I"⟩, prog_13_method_72_code, (some .int), 9, false, 2, 22, 0, [])
def mr_245 : MRow := (⟨"PointerAnalyzerModel", "unifies", "(II)V"⟩, prog_13_method_73_code, none, 9, false, 2, 22, 0, [])
def mr_246 : MRow := (⟨"PointerAnalyzerModel", "unifiesBy", "(I)V"⟩, prog_13_method_74_code, none, 9, false, 3, 46, 0, [])
def mr_247 : MRow := (⟨"PointerAnalyzerModel", "findUnification", "()V"⟩, prog_13_method_75_code, none, 9, false, 4, 70, 0, [])
def mr_248 : MRow := (⟨"PointerAnalyzerModel", "unified", "(I)J"⟩, prog_13_method_76_code, (some .long), 9, false, 6, 121, 0, [])
def mr_249 : MRow := (⟨"PointerAnalyzerModel", "unifiedTargets", "(I)J"⟩, prog_13_method_77_code, (some .long), 9, false, 7, 146, 0, [])
def mr_250 : MRow := (⟨"PointerAnalyzerModel", "areUnified", "(II)Z"⟩, prog_13_method_78_code, (some .boolean), 9, false, 6, 121, 0, [])
def mr_251 : MRow := (⟨"PointerAnalyzerModel", "unifiedClasses", "()I"⟩, prog_13_method_79_code, (some .int), 9, false, 6, 121, 0, [])
def mr_252 : MRow := (⟨"PointerAnalyzerModel", "called", "(I)I"⟩, prog_13_method_80_code, (some .int), 9, false, 1, 0, 0, [])
def mr_253 : MRow := (⟨"PointerAnalyzerModel", "modifies", "(I)J"⟩, prog_13_method_81_code, (some .long), 9, false, 7, 145, 0, [])
def mr_254 : MRow := (⟨"PointerAnalyzerModel", "isReachable", "(I)Z"⟩, prog_13_method_82_code, (some .boolean), 9, false, 6, 121, 0, [])
def mr_255 : MRow := (⟨"PointerAnalyzerModel", "isRecursive", "(I)Z"⟩, prog_13_method_83_code, (some .boolean), 9, false, 2, 25, 0, [])
def mr_256 : MRow := (⟨"PointerAnalyzerModel", "led", "(IZ)I"⟩, prog_13_method_84_code, (some .int), 9, false, 2, 23, 0, [])
def mr_257 : MRow := (⟨"PointerAnalyzerModel", "edge", "(IIIZ)I"⟩, prog_13_method_85_code, (some .int), 9, true, 1, 0, 0, [])
def mr_258 : MRow := (⟨"PointerAnalyzerModel", "cycleOf", "(I)I"⟩, prog_13_method_86_code, (some .int), 9, false, 3, 50, 0, [])
def mr_259 : MRow := (⟨"PointerAnalyzerModel", "forgets", "()V"⟩, prog_13_method_87_code, none, 9, false, 1, 0, 0, [])
def mr_260 : MRow := (⟨"PointerAnalyzerModel", "assigns", "(II)V"⟩, prog_13_method_88_code, none, 9, false, 1, 0, 0, [])
def mr_261 : MRow := (⟨"PointerAnalyzerModel", "placeIn", "(I)I"⟩, prog_13_method_89_code, (some .int), 9, false, 1, 0, 0, [])
def mr_262 : MRow := (⟨"PointerAnalyzerModel", "opens", "(I)V"⟩, prog_13_method_90_code, none, 9, false, 1, 0, 0, [])
def mr_263 : MRow := (⟨"PointerAnalyzerModel", "makesObject", "(I)I"⟩, prog_13_method_91_code, (some .int), 9, false, 1, 0, 0, [])
def mr_264 : MRow := (⟨"PointerAnalyzerModel", "offsets", "(III)V"⟩, prog_13_method_92_code, none, 9, false, 2, 22, 0, [])
def mr_265 : MRow := (⟨"PointerAnalyzerModel", "executes", "(I)V"⟩, prog_13_method_93_code, none, 9, false, 3, 46, 0, [])
def mr_266 : MRow := (⟨"PointerAnalyzerModel", "closes", "()V"⟩, prog_13_method_94_code, none, 9, false, 2, 22, 0, [])
def mr_267 : MRow := (⟨"PointerAnalyzerModel", "run", "()I"⟩, prog_13_method_95_code, (some .int), 9, false, 4, 69, 0, [])
def mr_268 : MRow := (⟨"PointerAnalyzerModel", "observed", "(I)J"⟩, prog_13_method_96_code, (some .long), 9, false, 2, 21, 0, [])
def mr_269 : MRow := (⟨"PointerAnalyzerModel", "fieldObserved", "(II)J"⟩, prog_13_method_97_code, (some .long), 9, false, 4, 67, 0, [])
def mr_270 : MRow := (⟨"PointerAnalyzerModel", "faults", "()I"⟩, prog_13_method_98_code, (some .int), 9, false, 1, 0, 0, [])
def mr_271 : MRow := (⟨"PointerAnalyzerModel", "objects", "()I"⟩, prog_13_method_99_code, (some .int), 9, false, 1, 0, 0, [])
def mr_272 : MRow := (⟨"PointerAnalyzerModel", "precision", "()D"⟩, prog_13_method_100_code, (some .double), 9, false, 7, 146, 0, [])
def mr_273 : MRow := (⟨"PointerAnalyzerModel", "averageTargets", "()F"⟩, prog_13_method_101_code, (some .float), 9, false, 7, 145, 0, [])
def mr_274 : MRow := (⟨"PointerAnalyzerModel", "passes", "(I)I"⟩, prog_13_method_102_code, (some .int), 9, false, 1, 0, 0, [])
def mr_275 : MRow := (⟨"PointerAnalyzerModel", "passState", "(Z)V"⟩, prog_13_method_103_code, none, 9, false, 2, 22, 0, [])
def mr_276 : MRow := (⟨"PointerAnalyzerModel", "save", "()V"⟩, prog_13_method_104_code, none, 9, false, 3, 44, 0, [])
def mr_277 : MRow := (⟨"PointerAnalyzerModel", "restore", "()V"⟩, prog_13_method_105_code, none, 9, false, 3, 44, 0, [])
def mr_278 : MRow := (⟨"java/lang/Long", "bitCount", "(J)I"⟩, prog_21_method_50_code, (some .int), 13, true, 1, 0, 0, [])
def mr_279 : MRow := (⟨"PointerAnalyzerLaw", "appendCharacter", "(LPointerAnalyzer;I[J)I"⟩, method_3_code, (some .int), 12, true, 8, 111, 2, [(0, 9, 12, 13), (0, 9, 15, 15)])
def mr_280 : MRow := (⟨"PointerAnalyzerLaw", "setBody", "(LPointerAnalyzer;I[J)I"⟩, method_4_code, (some .int), 12, true, 9, 159, 3, [(0, 9, 12, 20), (0, 9, 15, 13), (0, 9, 18, 15)])
def mr_281 : MRow := (⟨"PointerAnalyzerLaw", "kind", "(LPointerAnalyzer;I[J)I"⟩, method_5_code, (some .int), 12, true, 9, 132, 1, [(0, 9, 12, 20)])
def mr_282 : MRow := (⟨"PointerAnalyzerLaw", "functionOf", "(LPointerAnalyzer;I[J)I"⟩, method_6_code, (some .int), 12, true, 9, 132, 1, [(0, 9, 12, 20)])
def mr_283 : MRow := (⟨"PointerAnalyzerLaw", "setLimit", "(LPointerAnalyzer;I[J)I"⟩, method_7_code, (some .int), 12, true, 8, 112, 1, [(0, 9, 12, 13)])
def mr_284 : MRow := (⟨"PointerAnalyzerLaw", "contextCount", "(LPointerAnalyzer;I[J)I"⟩, method_8_code, (some .int), 12, true, 9, 174, 1, [(0, 9, 12, 20)])
def mr_285 : MRow := (⟨"PointerAnalyzerLaw", "contextLength", "(LPointerAnalyzer;II[J)I"⟩, method_9_code, (some .int), 12, true, 10, 175, 2, [(0, 10, 13, 20)])
def mr_286 : MRow := (⟨"PointerAnalyzerLaw", "contextCall", "(LPointerAnalyzer;III[J)I"⟩, method_10_code, (some .int), 12, true, 10, 176, 3, [(0, 12, 15, 20)])
def mr_287 : MRow := (⟨"PointerAnalyzerLaw", "pointsTo", "(LPointerAnalyzer;I[J)I"⟩, method_11_code, (some .int), 12, true, 9, 174, 1, [(0, 8, 11, 20)])
def mr_288 : MRow := (⟨"PointerAnalyzerLaw", "pointsToIn", "(LPointerAnalyzer;II[J)I"⟩, method_12_code, (some .int), 12, true, 10, 175, 4, [(0, 9, 12, 20)])
def mr_289 : MRow := (⟨"PointerAnalyzerLaw", "fieldPointsTo", "(LPointerAnalyzer;II[J)I"⟩, method_13_code, (some .int), 12, true, 9, 175, 1, [(0, 9, 12, 20)])
def mr_290 : MRow := (⟨"PointerAnalyzerLaw", "mayAlias", "(LPointerAnalyzer;II[J)I"⟩, method_14_code, (some .int), 12, true, 9, 175, 2, [(0, 17, 20, 20)])
def mr_291 : MRow := (⟨"PointerAnalyzerLaw", "reach", "(LPointerAnalyzer;I[J)I"⟩, method_15_code, (some .int), 12, true, 9, 174, 1, [(0, 8, 11, 20)])
def mr_292 : MRow := (⟨"PointerAnalyzerLaw", "rank", "(LPointerAnalyzer;II[J)I"⟩, method_16_code, (some .int), 12, true, 10, 175, 3, [(0, 10, 13, 20), (0, 10, 17, 63)])
def mr_293 : MRow := (⟨"PointerAnalyzerLaw", "reason", "(LPointerAnalyzer;II[J)I"⟩, method_17_code, (some .int), 12, true, 10, 175, 3, [(0, 10, 13, 20), (0, 10, 17, 63)])
def mr_294 : MRow := (⟨"PointerAnalyzerLaw", "unifiedTargets", "(LPointerAnalyzer;I[J)I"⟩, method_18_code, (some .int), 12, true, 9, 139, 1, [(0, 8, 11, 20)])
def mr_295 : MRow := (⟨"PointerAnalyzerLaw", "areUnified", "(LPointerAnalyzer;II[J)I"⟩, method_19_code, (some .int), 12, true, 9, 140, 2, [(0, 17, 20, 20)])
def mr_296 : MRow := (⟨"PointerAnalyzerLaw", "modifies", "(LPointerAnalyzer;I[J)I"⟩, method_20_code, (some .int), 12, true, 9, 179, 1, [(0, 8, 11, 20)])
def mr_297 : MRow := (⟨"PointerAnalyzerLaw", "isReachable", "(LPointerAnalyzer;I[J)I"⟩, method_21_code, (some .int), 12, true, 9, 174, 1, [(0, 16, 19, 20)])
def mr_298 : MRow := (⟨"PointerAnalyzerLaw", "isRecursive", "(LPointerAnalyzer;I[J)I"⟩, method_22_code, (some .int), 12, true, 9, 132, 1, [(0, 16, 19, 20)])
def mr_299 : MRow := (⟨"PointerAnalyzerLaw", "cycleOf", "(LPointerAnalyzer;I[J)I"⟩, method_23_code, (some .int), 12, true, 9, 136, 1, [(0, 9, 12, 20)])
def mr_300 : MRow := (⟨"PointerAnalyzerLaw", "observed", "(LPointerAnalyzer;I[J)I"⟩, method_24_code, (some .int), 12, true, 9, 132, 1, [(0, 8, 11, 20)])
def mr_301 : MRow := (⟨"PointerAnalyzerLaw", "fieldObserved", "(LPointerAnalyzer;II[J)I"⟩, method_25_code, (some .int), 12, true, 9, 134, 1, [(0, 9, 12, 20)])
def mr_302 : MRow := (⟨"PointerAnalyzerLaw", "precision", "(LPointerAnalyzer;[D)I"⟩, method_26_code, (some .int), 12, true, 8, 176, 1, [(0, 7, 10, 97)])
def mr_303 : MRow := (⟨"PointerAnalyzerLaw", "averageTargets", "(LPointerAnalyzer;[D)I"⟩, method_27_code, (some .int), 12, true, 8, 177, 1, [(0, 8, 11, 97)])
def mr_304 : MRow := (⟨"PointerAnalyzerLaw", "restore", "(LPointerAnalyzer;)I"⟩, method_28_code, (some .int), 12, true, 8, 110, 1, [(0, 4, 7, 15)])
def mr_305 : MRow := (⟨"PointerAnalyzerLaw", "law", "([I)Z"⟩, code, (some .boolean), 12, true, 20, 10832, 3000, [])
def mT : List MRow := [mr_0, mr_1, mr_2, mr_3, mr_4, mr_5, mr_6, mr_7, mr_8, mr_9, mr_10, mr_11, mr_12, mr_13, mr_14, mr_15, mr_16, mr_17, mr_18, mr_19, mr_20, mr_21, mr_22, mr_23, mr_24, mr_25, mr_26, mr_27, mr_28, mr_29, mr_30, mr_31, mr_32, mr_33, mr_34, mr_35, mr_36, mr_37, mr_38, mr_39, mr_40, mr_41, mr_42, mr_43, mr_44, mr_45, mr_46, mr_47, mr_48, mr_49, mr_50, mr_51, mr_52, mr_53, mr_54, mr_55, mr_56, mr_57, mr_58, mr_59, mr_60, mr_61, mr_62, mr_63, mr_64, mr_65, mr_66, mr_67, mr_68, mr_69, mr_70, mr_71, mr_72, mr_73, mr_74, mr_75, mr_76, mr_77, mr_78, mr_79, mr_80, mr_81, mr_82, mr_83, mr_84, mr_85, mr_86, mr_87, mr_88, mr_89, mr_90, mr_91, mr_92, mr_93, mr_94, mr_95, mr_96, mr_97, mr_98, mr_99, mr_100, mr_101, mr_102, mr_103, mr_104, mr_105, mr_106, mr_107, mr_108, mr_109, mr_110, mr_111, mr_112, mr_113, mr_114, mr_115, mr_116, mr_117, mr_118, mr_119, mr_120, mr_121, mr_122, mr_123, mr_124, mr_125, mr_126, mr_127, mr_128, mr_129, mr_130, mr_131, mr_132, mr_133, mr_134, mr_135, mr_136, mr_137, mr_138, mr_139, mr_140, mr_141, mr_142, mr_143, mr_144, mr_145, mr_146, mr_147, mr_148, mr_149, mr_150, mr_151, mr_152, mr_153, mr_154, mr_155, mr_156, mr_157, mr_158, mr_159, mr_160, mr_161, mr_162, mr_163, mr_164, mr_165, mr_166, mr_167, mr_168, mr_169, mr_170, mr_171, mr_172, mr_173, mr_174, mr_175, mr_176, mr_177, mr_178, mr_179, mr_180, mr_181, mr_182, mr_183, mr_184, mr_185, mr_186, mr_187, mr_188, mr_189, mr_190, mr_191, mr_192, mr_193, mr_194, mr_195, mr_196, mr_197, mr_198, mr_199, mr_200, mr_201, mr_202, mr_203, mr_204, mr_205, mr_206, mr_207, mr_208, mr_209, mr_210, mr_211, mr_212, mr_213, mr_214, mr_215, mr_216, mr_217, mr_218, mr_219, mr_220, mr_221, mr_222, mr_223, mr_224, mr_225, mr_226, mr_227, mr_228, mr_229, mr_230, mr_231, mr_232, mr_233, mr_234, mr_235, mr_236, mr_237, mr_238, mr_239, mr_240, mr_241, mr_242, mr_243, mr_244, mr_245, mr_246, mr_247, mr_248, mr_249, mr_250, mr_251, mr_252, mr_253, mr_254, mr_255, mr_256, mr_257, mr_258, mr_259, mr_260, mr_261, mr_262, mr_263, mr_264, mr_265, mr_266, mr_267, mr_268, mr_269, mr_270, mr_271, mr_272, mr_273, mr_274, mr_275, mr_276, mr_277, mr_278, mr_279, mr_280, mr_281, mr_282, mr_283, mr_284, mr_285, mr_286, mr_287, mr_288, mr_289, mr_290, mr_291, mr_292, mr_293, mr_294, mr_295, mr_296, mr_297, mr_298, mr_299, mr_300, mr_301, mr_302, mr_303, mr_304, mr_305]
def mrw (mi : Nat) : MRow := mT.getD mi mr_0
abbrev mY (mi : Nat) : MethodName := (mrw mi).1
abbrev mB (mi : Nat) : ByteArray := (mrw mi).2.1
abbrev mR (mi : Nat) : Option FieldType := (mrw mi).2.2.1
abbrev mC (mi : Nat) : Nat := (mrw mi).2.2.2.1
abbrev mS (mi : Nat) : Bool := (mrw mi).2.2.2.2.1
abbrev mFr (mi : Nat) : Nat := (mrw mi).2.2.2.2.2.1
abbrev mLo (mi : Nat) : Nat := (mrw mi).2.2.2.2.2.2.1
abbrev mBu (mi : Nat) : Nat := (mrw mi).2.2.2.2.2.2.2.1
abbrev mH (mi : Nat) : List (Nat × Nat × Nat × Nat) := (mrw mi).2.2.2.2.2.2.2.2
def cdW (mi : Nat) : Cond := if (mH mi).isEmpty then .code (mY mi) (mB mi) (mL mi) (mR mi) else .codeWith (mY mi) (mB mi) (mL mi) (mR mi) (mH mi)
abbrev hostN : String := "PointerAnalyzer"
def LF : List (Nat × (Nat × (Nat × Nat))) := [(0, 11, 0, 153), (0, 15, 1, 154), (0, 29, 3, 156), (0, 32, 2, 155), (1, 11, 0, 229), (1, 15, 1, 230), (1, 18, 3, 232), (1, 22, 2, 231), (2, 9, 0, 173), (2, 15, 1, 174), (2, 19, 2, 175), (2, 22, 3, 176), (3, 9, 0, 305), (4, 14, 0, 242), (4, 18, 1, 243), (4, 22, 2, 244), (4, 25, 3, 245), (4, 29, 4, 246), (4, 32, 5, 247), (4, 35, 6, 248), (4, 38, 7, 249), (4, 41, 8, 250), (4, 52, 9, 251), (4, 56, 11, 253), (4, 81, 12, 254), (4, 87, 10, 252), (5, 11, 0, 315), (5, 15, 1, 316), (5, 18, 2, 317), (5, 22, 3, 318), (5, 25, 4, 319), (5, 28, 5, 320), (5, 31, 6, 321), (5, 35, 7, 322), (5, 38, 8, 323), (5, 41, 9, 324), (5, 44, 10, 325), (6, 9, 0, 192), (6, 15, 1, 193), (6, 18, 3, 195), (6, 21, 4, 196), (6, 24, 5, 197), (6, 27, 6, 198), (6, 30, 2, 194), (6, 74, 7, 199), (7, 11, 0, 289), (7, 15, 1, 290), (7, 18, 2, 291), (8, 12, 0, 349), (8, 19, 1, 350), (8, 26, 2, 351), (8, 30, 3, 352), (8, 36, 4, 353), (8, 40, 5, 354), (8, 46, 6, 355), (8, 53, 7, 356), (8, 60, 8, 357), (8, 64, 9, 358), (8, 68, 10, 359), (9, 7, 1, 1382), (9, 13, 2, 1383), (9, 16, 3, 1384), (9, 19, 4, 1385), (9, 22, 5, 1386), (9, 25, 7, 1388), (9, 28, 10, 1391), (9, 32, 14, 1394), (9, 35, 15, 1395), (9, 38, 17, 1397), (9, 42, 18, 1398), (9, 45, 21, 1401), (9, 48, 22, 1402), (9, 51, 24, 1404), (9, 54, 25, 1405), (9, 57, 26, 1406), (9, 60, 27, 1407), (9, 63, 30, 1410), (9, 66, 31, 1411), (9, 69, 32, 1412), (9, 72, 33, 1413), (9, 75, 34, 1414), (9, 78, 35, 1415), (9, 81, 41, 1421), (9, 84, 0, 1381), (9, 101, 8, 1389), (9, 104, 9, 1390), (9, 111, 12, 1392), (9, 114, 13, 1393), (9, 155, 19, 1399), (9, 171, 6, 1387), (9, 174, 16, 1396), (9, 191, 20, 1400), (9, 219, 23, 1403), (9, 278, 28, 1408), (9, 287, 29, 1409), (9, 313, 39, 1419), (9, 316, 38, 1418), (9, 319, 36, 1416), (9, 322, 37, 1417), (9, 338, 40, 1420), (9, 350, 43, 1423), (9, 353, 44, 1424), (9, 359, 42, 1422)]
def LM : List (Nat × (Nat × (Nat × Nat))) := [(0, 19, 98, 906), (0, 35, 30, 960), (0, 40, 4, 964), (0, 44, 9, 968), (0, 48, 5, 976), (0, 51, 11, 980), (0, 55, 6, 988), (0, 59, 31, 992), (0, 63, 7, 1000), (0, 67, 8, 1008), (0, 70, 10, 1004), (0, 73, 13, 972), (0, 76, 12, 984), (1, 25, 18, 426), (1, 29, 96, 434), (1, 35, 15, 438), (1, 39, 20, 468), (1, 42, 21, 472), (1, 46, 98, 435), (1, 50, 88, 442), (1, 55, 89, 443), (1, 58, 90, 447), (1, 61, 93, 454), (1, 64, 16, 461), (1, 68, 17, 465), (1, 71, 19, 430), (1, 74, 24, 1131), (1, 77, 26, 580), (2, 25, 103, 996), (2, 31, 98, 999), (2, 37, 96, 1052), (3, 15, 100, 604), (3, 21, 38, 624), (3, 25, 99, 613), (3, 29, 40, 618), (3, 37, 97, 622), (4, 45, 14, 422), (4, 49, 43, 476), (4, 59, 102, 495), (4, 65, 22, 498), (4, 69, 25, 487), (4, 73, 88, 502), (4, 78, 89, 503), (4, 84, 45, 504), (4, 90, 100, 480), (4, 94, 44, 483), (4, 97, 98, 494), (4, 104, 91, 508), (4, 107, 46, 515), (4, 111, 92, 518), (4, 114, 93, 525), (4, 117, 90, 526), (4, 120, 51, 527), (4, 124, 47, 546), (4, 127, 48, 562), (4, 130, 95, 566), (4, 133, 50, 570), (4, 137, 29, 576), (4, 141, 52, 558), (4, 147, 49, 550), (4, 150, 96, 542), (4, 154, 54, 554), (4, 166, 53, 531), (4, 170, 97, 535), (4, 175, 99, 539), (4, 182, 24, 1174), (5, 47, 100, 708), (5, 53, 62, 704), (5, 56, 64, 709), (5, 60, 65, 714), (5, 64, 96, 720), (5, 68, 89, 721), (5, 74, 98, 713), (5, 78, 67, 722), (5, 81, 66, 761), (5, 85, 88, 718), (5, 94, 72, 727), (5, 97, 73, 738), (5, 100, 91, 726), (5, 103, 74, 733), (5, 107, 92, 731), (5, 110, 90, 732), (5, 113, 68, 742), (5, 116, 69, 746), (5, 119, 95, 750), (5, 125, 93, 752), (5, 128, 70, 753), (5, 132, 71, 757), (5, 136, 99, 737), (5, 140, 97, 1321), (6, 34, 32, 1021), (6, 40, 33, 1025), (6, 43, 82, 1029), (6, 47, 34, 1039), (6, 50, 86, 1033), (6, 51, 90, 1034), (6, 55, 94, 1035), (6, 58, 35, 1048), (6, 61, 98, 801), (6, 67, 85, 797), (6, 70, 101, 794), (6, 77, 96, 399), (6, 80, 104, 451), (6, 85, 88, 395), (6, 88, 105, 512), (6, 91, 106, 522), (6, 94, 107, 458), (7, 22, 110, 649), (7, 25, 86, 660), (7, 31, 114, 661), (7, 35, 98, 653), (7, 41, 111, 654), (7, 45, 112, 657), (7, 48, 91, 665), (7, 51, 92, 666), (7, 54, 93, 667), (7, 57, 90, 668), (7, 60, 115, 669), (7, 64, 95, 678), (7, 67, 113, 679), (7, 76, 116, 673), (7, 79, 96, 677), (7, 87, 120, 688), (7, 91, 117, 692), (8, 79, 0, 882), (8, 88, 1, 902), (8, 92, 162, 938), (8, 96, 3, 955), (8, 100, 2, 1012), (8, 105, 81, 1017), (8, 111, 83, 1044), (8, 115, 158, 1053), (8, 118, 32, 1066), (8, 122, 86, 391), (8, 123, 164, 1074), (8, 126, 90, 1079), (8, 129, 94, 1087), (8, 132, 87, 406), (8, 137, 79, 414), (8, 140, 80, 1096), (8, 143, 41, 1057), (8, 146, 42, 418), (8, 150, 55, 1107), (8, 154, 23, 1111), (8, 159, 163, 1122), (8, 163, 27, 1127), (8, 172, 28, 1143), (8, 176, 165, 1154), (8, 179, 58, 605), (8, 183, 170, 1166), (8, 188, 59, 1169), (8, 192, 166, 1182), (8, 195, 171, 630), (8, 198, 56, 588), (8, 201, 159, 596), (8, 204, 40, 625), (8, 207, 172, 626), (8, 210, 167, 1209), (8, 213, 60, 1231), (8, 216, 61, 1242), (8, 219, 57, 637), (8, 222, 109, 645), (8, 225, 118, 1253), (8, 227, 117, 1265), (8, 231, 119, 684), (8, 234, 160, 1273), (8, 237, 173, 1214), (8, 241, 91, 1282), (8, 244, 161, 1304), (8, 247, 63, 700), (8, 250, 75, 766), (8, 253, 78, 1317), (8, 256, 76, 774), (8, 259, 77, 782), (8, 262, 278, 1350), (8, 275, 84, 790), (8, 280, 108, 1061), (8, 281, 62, 1065), (8, 284, 36, 600), (8, 285, 38, 609), (8, 289, 39, 614), (8, 292, 93, 1277), (8, 295, 37, 1278), (8, 298, 92, 1308), (8, 301, 168, 587), (8, 304, 169, 1309), (9, 87, 183, 1646), (9, 91, 182, 1606), (9, 94, 177, 1524), (9, 98, 175, 1527), (9, 107, 187, 1550), (9, 117, 189, 1558), (9, 120, 188, 1546), (9, 124, 191, 1562), (9, 128, 190, 1570), (9, 131, 192, 1554), (9, 134, 193, 1566), (9, 138, 194, 1542), (9, 141, 179, 1535), (9, 144, 195, 1538), (9, 147, 184, 1574), (9, 151, 196, 1578), (9, 159, 259, 1582), (9, 162, 181, 1594), (9, 165, 200, 1602), (9, 168, 203, 1618), (9, 177, 208, 1642), (9, 180, 207, 1650), (9, 184, 206, 1653), (9, 187, 210, 1672), (9, 196, 211, 1665), (9, 199, 213, 1668), (9, 202, 214, 1675), (9, 206, 185, 1680), (9, 209, 212, 1688), (9, 212, 209, 1638), (9, 216, 216, 1657), (9, 222, 215, 1661), (9, 226, 217, 1684), (9, 229, 218, 1634), (9, 232, 247, 1692), (9, 235, 219, 1630), (9, 238, 221, 1716), (9, 241, 220, 1728), (9, 244, 223, 1724), (9, 247, 226, 1747), (9, 251, 180, 1740), (9, 254, 227, 1743), (9, 257, 230, 1759), (9, 260, 178, 1767), (9, 264, 176, 1774), (9, 267, 234, 1782), (9, 272, 237, 1799), (9, 275, 238, 1795), (9, 281, 242, 1704), (9, 284, 243, 1696), (9, 290, 244, 1700), (9, 293, 245, 1712), (9, 296, 246, 1708), (9, 299, 248, 1815), (9, 302, 252, 1831), (9, 305, 257, 1851), (9, 309, 256, 1847), (9, 325, 260, 1870), (9, 328, 261, 1866), (9, 331, 263, 1878), (9, 334, 264, 1882), (9, 341, 262, 1858), (9, 344, 266, 1862), (9, 347, 265, 1874), (9, 356, 274, 1918), (9, 362, 275, 1914), (12, 7, 121, 807), (12, 17, 122, 934), (12, 22, 125, 1070), (12, 25, 126, 1083), (12, 28, 128, 1091), (12, 31, 129, 1103), (12, 34, 130, 1118), (12, 38, 131, 1138), (12, 42, 132, 1150), (12, 46, 133, 1162), (12, 50, 134, 1178), (12, 53, 136, 1190), (12, 57, 137, 1197), (12, 60, 139, 1205), (12, 65, 140, 1238), (12, 68, 142, 1249), (12, 71, 143, 1261), (12, 74, 145, 1269), (12, 77, 146, 1286), (12, 81, 147, 1293), (12, 84, 148, 1300), (12, 87, 150, 1313), (12, 90, 151, 1325), (12, 93, 154, 1346), (12, 99, 155, 1362), (12, 103, 157, 1370), (12, 110, 279, 802), (12, 115, 186, 1520), (12, 116, 174, 1516), (12, 120, 280, 907), (12, 122, 197, 1531), (12, 123, 123, 383), (12, 126, 198, 1586), (12, 127, 124, 387), (12, 130, 199, 1590), (12, 131, 281, 1067), (12, 133, 201, 1598), (12, 134, 282, 1080), (12, 136, 202, 1610), (12, 137, 127, 402), (12, 140, 204, 1614), (12, 141, 283, 1088), (12, 143, 205, 1622), (12, 144, 284, 1100), (12, 146, 222, 1626), (12, 147, 285, 1115), (12, 150, 224, 1720), (12, 151, 286, 1135), (12, 154, 225, 1732), (12, 155, 287, 1147), (12, 157, 228, 1736), (12, 158, 288, 1159), (12, 160, 229, 1751), (12, 161, 289, 1175), (12, 163, 231, 1755), (12, 164, 135, 410), (12, 167, 232, 1763), (12, 168, 290, 1187), (12, 170, 233, 1770), (12, 171, 291, 1194), (12, 173, 235, 1778), (12, 174, 138, 592), (12, 177, 236, 1786), (12, 178, 292, 1201), (12, 180, 239, 1791), (12, 181, 293, 1235), (12, 183, 240, 1803), (12, 184, 141, 633), (12, 187, 241, 1807), (12, 188, 294, 1246), (12, 190, 249, 1811), (12, 191, 295, 1258), (12, 193, 250, 1819), (12, 194, 144, 641), (12, 197, 251, 1823), (12, 198, 296, 1266), (12, 200, 253, 1827), (12, 201, 297, 1283), (12, 203, 254, 1835), (12, 204, 298, 1290), (12, 206, 255, 1839), (12, 207, 299, 1297), (12, 209, 258, 1843), (12, 210, 149, 696), (12, 213, 267, 1854), (12, 214, 300, 1310), (12, 216, 268, 1886), (12, 217, 301, 1322), (12, 219, 269, 1890), (12, 220, 152, 770), (12, 223, 270, 1894), (12, 224, 153, 778), (12, 227, 271, 1898), (12, 228, 302, 1329), (12, 231, 272, 1902), (12, 232, 303, 1359), (12, 234, 273, 1906), (12, 235, 156, 786), (12, 238, 276, 1910), (12, 239, 304, 1367), (12, 242, 277, 1922)]
def LN : List (Nat × (Nat × (Nat × Nat))) := [(0, 25, 168, 959), (3, 33, 173, 623), (4, 101, 168, 491), (4, 144, 169, 584), (4, 158, 173, 543), (4, 179, 170, 1173), (5, 88, 168, 719), (5, 91, 169, 765), (5, 122, 171, 751), (7, 70, 168, 682), (7, 73, 169, 683), (7, 83, 172, 1257)]
def LL : List (Nat × (Nat × (Int × Nat))) := [(4, 162, 7190235, 574), (4, 164, 2396745, 575), (4, 173, -1, 538), (8, 322, 7, 629), (9, 194, -1, 1679), (9, 270, 7, 1790), (13, 314, 6148914691236517205, 1353), (13, 316, 3689348814741910323, 1354), (13, 318, 1085102592571150095, 1355)]
def TG : List Cond := lw_tbl.filter goodWord
theorem tg_mem {i : Nat} {w : Cond} (h : lw_tbl[i]? = some w) (g : goodWord w = true) : w ∈ TG := List.mem_filter.mpr ⟨List.mem_of_getElem? h, g⟩
theorem tg_good {w : Cond} (h : w ∈ TG) : (w.onTables && w.keeps) = true ∨ ∃ ty, w = .arrayClass ty := good_of_word (List.mem_filter.mp h).2
def wLF (e : Nat × (Nat × (Nat × Nat))) : Cond := .fieldLink (cN e.1) e.2.1 (cN e.1) (fT e.1 e.2.2.1).2.1 (fT e.1 e.2.2.1).2.2.1
theorem LF_ok : LF.all (fun e => decide (lw_tbl[e.2.2.2]? = some (wLF e))) = true := by decide +kernel
def wLM (e : Nat × (Nat × (Nat × Nat))) : Cond := .methodLink (cN e.1) e.2.1 (mY e.2.2.1)
theorem LM_ok : LM.all (fun e => decide (lw_tbl[e.2.2.2]? = some (wLM e))) = true := by decide +kernel
def wLN (e : Nat × (Nat × (Nat × Nat))) : Cond := .methodLinkNest (cN e.1) e.2.1 (mY e.2.2.1) hostN
theorem LN_ok : LN.all (fun e => decide (lw_tbl[e.2.2.2]? = some (wLN e))) = true := by decide +kernel
def wLL (e : Nat × (Nat × (Int × Nat))) : Cond := .constantLong (cN e.1) e.2.1 (Int64.ofInt e.2.2.1)
theorem LL_ok : LL.all (fun e => decide (lw_tbl[e.2.2.2]? = some (wLL e))) = true := by decide +kernel
def okLW (e : Nat × (Nat × (Nat × (Nat × Nat)))) : Bool := decide (lw_tbl[e.2.1]? = some (cdW e.1)) && (goodWord (cdW e.1) && (decide (lw_tbl[e.2.2.2.2]? = some (.initialized (mY e.1).cls)) && (if mS e.1 then decide (lw_tbl[e.2.2.1]? = some (.static (mY e.1))) else decide (lw_tbl[e.2.2.1]? = some (.instanceMethod (mY e.1))) && (decide (lw_tbl[e.2.2.2.1]? = some (.selects (mY e.1).cls (mY e.1) (mY e.1)))))))
theorem lw_0 : okLW (0, 885, 883, 884, 117) = true := by decide +kernel
theorem lw_1 : okLW (1, 905, 903, 904, 117) = true := by decide +kernel
theorem lw_2 : okLW (2, 1015, 1013, 1014, 117) = true := by decide +kernel
theorem lw_3 : okLW (3, 958, 956, 957, 117) = true := by decide +kernel
theorem lw_4 : okLW (4, 967, 966, 38, 117) = true := by decide +kernel
theorem lw_5 : okLW (5, 979, 978, 41, 117) = true := by decide +kernel
theorem lw_6 : okLW (6, 991, 990, 44, 117) = true := by decide +kernel
theorem lw_7 : okLW (7, 1003, 1002, 45, 117) = true := by decide +kernel
theorem lw_8 : okLW (8, 1011, 1010, 47, 117) = true := by decide +kernel
theorem lw_9 : okLW (9, 971, 970, 39, 117) = true := by decide +kernel
theorem lw_10 : okLW (10, 1007, 1006, 46, 117) = true := by decide +kernel
theorem lw_11 : okLW (11, 983, 982, 42, 117) = true := by decide +kernel
theorem lw_12 : okLW (12, 987, 986, 43, 117) = true := by decide +kernel
theorem lw_13 : okLW (13, 975, 974, 40, 117) = true := by decide +kernel
theorem lw_14 : okLW (14, 425, 423, 424, 121) = true := by decide +kernel
theorem lw_15 : okLW (15, 441, 440, 2, 121) = true := by decide +kernel
theorem lw_16 : okLW (16, 464, 463, 3, 121) = true := by decide +kernel
theorem lw_17 : okLW (17, 467, 466, 0, 121) = true := by decide +kernel
theorem lw_18 : okLW (18, 429, 428, 0, 121) = true := by decide +kernel
theorem lw_19 : okLW (19, 433, 432, 1, 121) = true := by decide +kernel
theorem lw_20 : okLW (20, 471, 470, 4, 121) = true := by decide +kernel
theorem lw_21 : okLW (21, 475, 474, 5, 121) = true := by decide +kernel
theorem lw_22 : okLW (22, 501, 499, 500, 121) = true := by decide +kernel
theorem lw_23 : okLW (23, 1114, 1112, 1113, 121) = true := by decide +kernel
theorem lw_24 : okLW (24, 1134, 1132, 1133, 121) = true := by decide +kernel
theorem lw_25 : okLW (25, 490, 488, 489, 121) = true := by decide +kernel
theorem lw_26 : okLW (26, 583, 582, 17, 121) = true := by decide +kernel
theorem lw_27 : okLW (27, 1130, 1128, 1129, 121) = true := by decide +kernel
theorem lw_28 : okLW (28, 1146, 1144, 1145, 121) = true := by decide +kernel
theorem lw_29 : okLW (29, 579, 577, 578, 121) = true := by decide +kernel
theorem lw_30 : okLW (30, 963, 961, 962, 118) = true := by decide +kernel
theorem lw_31 : okLW (31, 995, 993, 994, 118) = true := by decide +kernel
theorem lw_32 : okLW (32, 1024, 1022, 1023, 118) = true := by decide +kernel
theorem lw_33 : okLW (33, 1028, 1026, 1027, 118) = true := by decide +kernel
theorem lw_34 : okLW (34, 1042, 1040, 1041, 118) = true := by decide +kernel
theorem lw_35 : okLW (35, 1051, 1049, 1050, 118) = true := by decide +kernel
theorem lw_36 : okLW (36, 603, 601, 602, 123) = true := by decide +kernel
theorem lw_37 : okLW (37, 1281, 1279, 1280, 123) = true := by decide +kernel
theorem lw_38 : okLW (38, 612, 610, 611, 123) = true := by decide +kernel
theorem lw_39 : okLW (39, 617, 615, 616, 123) = true := by decide +kernel
theorem lw_40 : okLW (40, 621, 619, 620, 123) = true := by decide +kernel
theorem lw_41 : okLW (41, 1060, 1058, 1059, 120) = true := by decide +kernel
theorem lw_42 : okLW (42, 421, 419, 420, 120) = true := by decide +kernel
theorem lw_43 : okLW (43, 479, 478, 6, 120) = true := by decide +kernel
theorem lw_44 : okLW (44, 486, 485, 7, 120) = true := by decide +kernel
theorem lw_45 : okLW (45, 507, 506, 8, 120) = true := by decide +kernel
theorem lw_46 : okLW (46, 517, 516, 0, 120) = true := by decide +kernel
theorem lw_47 : okLW (47, 549, 548, 11, 120) = true := by decide +kernel
theorem lw_48 : okLW (48, 565, 564, 15, 120) = true := by decide +kernel
theorem lw_49 : okLW (49, 553, 552, 12, 120) = true := by decide +kernel
theorem lw_50 : okLW (50, 573, 572, 16, 120) = true := by decide +kernel
theorem lw_51 : okLW (51, 530, 529, 9, 120) = true := by decide +kernel
theorem lw_52 : okLW (52, 561, 560, 14, 120) = true := by decide +kernel
theorem lw_53 : okLW (53, 534, 533, 10, 120) = true := by decide +kernel
theorem lw_54 : okLW (54, 557, 556, 13, 120) = true := by decide +kernel
theorem lw_55 : okLW (55, 1110, 1108, 1109, 120) = true := by decide +kernel
theorem lw_56 : okLW (56, 591, 589, 590, 120) = true := by decide +kernel
theorem lw_57 : okLW (57, 640, 638, 639, 120) = true := by decide +kernel
theorem lw_58 : okLW (58, 608, 606, 607, 120) = true := by decide +kernel
theorem lw_59 : okLW (59, 1172, 1170, 1171, 120) = true := by decide +kernel
theorem lw_60 : okLW (60, 1234, 1232, 1233, 120) = true := by decide +kernel
theorem lw_61 : okLW (61, 1245, 1243, 1244, 120) = true := by decide +kernel
theorem lw_62 : okLW (62, 707, 705, 706, 124) = true := by decide +kernel
theorem lw_63 : okLW (63, 703, 701, 702, 124) = true := by decide +kernel
theorem lw_64 : okLW (64, 712, 711, 24, 124) = true := by decide +kernel
theorem lw_65 : okLW (65, 717, 716, 25, 124) = true := by decide +kernel
theorem lw_66 : okLW (66, 764, 763, 34, 124) = true := by decide +kernel
theorem lw_67 : okLW (67, 725, 724, 26, 124) = true := by decide +kernel
theorem lw_68 : okLW (68, 745, 744, 30, 124) = true := by decide +kernel
theorem lw_69 : okLW (69, 749, 748, 31, 124) = true := by decide +kernel
theorem lw_70 : okLW (70, 756, 755, 32, 124) = true := by decide +kernel
theorem lw_71 : okLW (71, 760, 759, 33, 124) = true := by decide +kernel
theorem lw_72 : okLW (72, 730, 729, 27, 124) = true := by decide +kernel
theorem lw_73 : okLW (73, 741, 740, 29, 124) = true := by decide +kernel
theorem lw_74 : okLW (74, 736, 735, 28, 124) = true := by decide +kernel
theorem lw_75 : okLW (75, 769, 767, 768, 124) = true := by decide +kernel
theorem lw_76 : okLW (76, 777, 775, 776, 124) = true := by decide +kernel
theorem lw_77 : okLW (77, 785, 783, 784, 124) = true := by decide +kernel
theorem lw_78 : okLW (78, 1320, 1318, 1319, 124) = true := by decide +kernel
theorem lw_79 : okLW (79, 417, 415, 416, 119) = true := by decide +kernel
theorem lw_80 : okLW (80, 1099, 1097, 1098, 119) = true := by decide +kernel
theorem lw_81 : okLW (81, 1020, 1018, 1019, 119) = true := by decide +kernel
theorem lw_82 : okLW (82, 1032, 1031, 48, 119) = true := by decide +kernel
theorem lw_83 : okLW (83, 1047, 1045, 1046, 119) = true := by decide +kernel
theorem lw_84 : okLW (84, 793, 791, 792, 119) = true := by decide +kernel
theorem lw_85 : okLW (85, 800, 799, 35, 119) = true := by decide +kernel
theorem lw_86 : okLW (86, 394, 392, 393, 119) = true := by decide +kernel
theorem lw_87 : okLW (87, 409, 407, 408, 119) = true := by decide +kernel
theorem lw_88 : okLW (88, 398, 396, 397, 119) = true := by decide +kernel
theorem lw_89 : okLW (89, 446, 444, 445, 119) = true := by decide +kernel
theorem lw_90 : okLW (90, 450, 448, 449, 119) = true := by decide +kernel
theorem lw_91 : okLW (91, 511, 509, 510, 119) = true := by decide +kernel
theorem lw_92 : okLW (92, 521, 519, 520, 119) = true := by decide +kernel
theorem lw_93 : okLW (93, 457, 455, 456, 119) = true := by decide +kernel
theorem lw_94 : okLW (94, 1038, 1036, 1037, 119) = true := by decide +kernel
theorem lw_95 : okLW (95, 569, 567, 568, 119) = true := by decide +kernel
theorem lw_96 : okLW (96, 401, 400, 0, 131) = true := by decide +kernel
theorem lw_97 : okLW (97, 537, 536, 0, 131) = true := by decide +kernel
theorem lw_98 : okLW (98, 437, 436, 0, 131) = true := by decide +kernel
theorem lw_99 : okLW (99, 541, 540, 0, 131) = true := by decide +kernel
theorem lw_100 : okLW (100, 482, 481, 0, 131) = true := by decide +kernel
theorem lw_101 : okLW (101, 796, 795, 0, 131) = true := by decide +kernel
theorem lw_102 : okLW (102, 497, 496, 0, 131) = true := by decide +kernel
theorem lw_103 : okLW (103, 998, 997, 0, 135) = true := by decide +kernel
theorem lw_104 : okLW (104, 453, 452, 0, 135) = true := by decide +kernel
theorem lw_105 : okLW (105, 514, 513, 0, 135) = true := by decide +kernel
theorem lw_106 : okLW (106, 524, 523, 0, 135) = true := by decide +kernel
theorem lw_107 : okLW (107, 460, 459, 0, 135) = true := by decide +kernel
theorem lw_108 : okLW (108, 1064, 1062, 1063, 122) = true := by decide +kernel
theorem lw_109 : okLW (109, 648, 646, 647, 122) = true := by decide +kernel
theorem lw_110 : okLW (110, 652, 651, 19, 122) = true := by decide +kernel
theorem lw_111 : okLW (111, 656, 655, 0, 122) = true := by decide +kernel
theorem lw_112 : okLW (112, 659, 658, 0, 122) = true := by decide +kernel
theorem lw_113 : okLW (113, 681, 680, 0, 122) = true := by decide +kernel
theorem lw_114 : okLW (114, 664, 663, 20, 122) = true := by decide +kernel
theorem lw_115 : okLW (115, 672, 671, 21, 122) = true := by decide +kernel
theorem lw_116 : okLW (116, 676, 675, 22, 122) = true := by decide +kernel
theorem lw_117 : okLW (117, 695, 693, 694, 122) = true := by decide +kernel
theorem lw_118 : okLW (118, 1256, 1254, 1255, 122) = true := by decide +kernel
theorem lw_119 : okLW (119, 687, 685, 686, 122) = true := by decide +kernel
theorem lw_120 : okLW (120, 691, 690, 23, 122) = true := by decide +kernel
theorem lw_121 : okLW (121, 810, 808, 809, 116) = true := by decide +kernel
theorem lw_122 : okLW (122, 937, 935, 936, 116) = true := by decide +kernel
theorem lw_123 : okLW (123, 386, 384, 385, 116) = true := by decide +kernel
theorem lw_124 : okLW (124, 390, 388, 389, 116) = true := by decide +kernel
theorem lw_125 : okLW (125, 1073, 1071, 1072, 116) = true := by decide +kernel
theorem lw_126 : okLW (126, 1086, 1084, 1085, 116) = true := by decide +kernel
theorem lw_127 : okLW (127, 405, 403, 404, 116) = true := by decide +kernel
theorem lw_128 : okLW (128, 1094, 1092, 1093, 116) = true := by decide +kernel
theorem lw_129 : okLW (129, 1106, 1104, 1105, 116) = true := by decide +kernel
theorem lw_130 : okLW (130, 1121, 1119, 1120, 116) = true := by decide +kernel
theorem lw_131 : okLW (131, 1141, 1139, 1140, 116) = true := by decide +kernel
theorem lw_132 : okLW (132, 1153, 1151, 1152, 116) = true := by decide +kernel
theorem lw_133 : okLW (133, 1165, 1163, 1164, 116) = true := by decide +kernel
theorem lw_134 : okLW (134, 1181, 1179, 1180, 116) = true := by decide +kernel
theorem lw_135 : okLW (135, 413, 411, 412, 116) = true := by decide +kernel
theorem lw_136 : okLW (136, 1193, 1191, 1192, 116) = true := by decide +kernel
theorem lw_137 : okLW (137, 1200, 1198, 1199, 116) = true := by decide +kernel
theorem lw_138 : okLW (138, 595, 593, 594, 116) = true := by decide +kernel
theorem lw_139 : okLW (139, 1208, 1206, 1207, 116) = true := by decide +kernel
theorem lw_140 : okLW (140, 1241, 1239, 1240, 116) = true := by decide +kernel
theorem lw_141 : okLW (141, 636, 634, 635, 116) = true := by decide +kernel
theorem lw_142 : okLW (142, 1252, 1250, 1251, 116) = true := by decide +kernel
theorem lw_143 : okLW (143, 1264, 1262, 1263, 116) = true := by decide +kernel
theorem lw_144 : okLW (144, 644, 642, 643, 116) = true := by decide +kernel
theorem lw_145 : okLW (145, 1272, 1270, 1271, 116) = true := by decide +kernel
theorem lw_146 : okLW (146, 1289, 1287, 1288, 116) = true := by decide +kernel
theorem lw_147 : okLW (147, 1296, 1294, 1295, 116) = true := by decide +kernel
theorem lw_148 : okLW (148, 1303, 1301, 1302, 116) = true := by decide +kernel
theorem lw_149 : okLW (149, 699, 697, 698, 116) = true := by decide +kernel
theorem lw_150 : okLW (150, 1316, 1314, 1315, 116) = true := by decide +kernel
theorem lw_151 : okLW (151, 1328, 1326, 1327, 116) = true := by decide +kernel
theorem lw_152 : okLW (152, 773, 771, 772, 116) = true := by decide +kernel
theorem lw_153 : okLW (153, 781, 779, 780, 116) = true := by decide +kernel
theorem lw_154 : okLW (154, 1349, 1347, 1348, 116) = true := by decide +kernel
theorem lw_155 : okLW (155, 1365, 1363, 1364, 116) = true := by decide +kernel
theorem lw_156 : okLW (156, 789, 787, 788, 116) = true := by decide +kernel
theorem lw_157 : okLW (157, 1373, 1371, 1372, 116) = true := by decide +kernel
theorem lw_158 : okLW (158, 1056, 1055, 49, 116) = true := by decide +kernel
theorem lw_159 : okLW (159, 599, 598, 18, 116) = true := by decide +kernel
theorem lw_160 : okLW (160, 1276, 1275, 55, 116) = true := by decide +kernel
theorem lw_161 : okLW (161, 1307, 1306, 56, 116) = true := by decide +kernel
theorem lw_162 : okLW (162, 941, 940, 37, 116) = true := by decide +kernel
theorem lw_163 : okLW (163, 1125, 1124, 51, 116) = true := by decide +kernel
theorem lw_164 : okLW (164, 1077, 1076, 50, 116) = true := by decide +kernel
theorem lw_165 : okLW (165, 1157, 1156, 52, 116) = true := by decide +kernel
theorem lw_166 : okLW (166, 1185, 1184, 53, 116) = true := by decide +kernel
theorem lw_167 : okLW (167, 1212, 1211, 54, 116) = true := by decide +kernel
theorem lw_168 : okLW (168, 493, 492, 0, 116) = true := by decide +kernel
theorem lw_169 : okLW (169, 586, 585, 0, 116) = true := by decide +kernel
theorem lw_170 : okLW (170, 1168, 1167, 0, 116) = true := by decide +kernel
theorem lw_171 : okLW (171, 632, 631, 0, 116) = true := by decide +kernel
theorem lw_172 : okLW (172, 628, 627, 0, 116) = true := by decide +kernel
theorem lw_173 : okLW (173, 545, 544, 0, 116) = true := by decide +kernel
theorem lw_174 : okLW (174, 1519, 1517, 1518, 125) = true := by decide +kernel
theorem lw_175 : okLW (175, 1530, 1529, 57, 125) = true := by decide +kernel
theorem lw_176 : okLW (176, 1777, 1776, 99, 125) = true := by decide +kernel
theorem lw_177 : okLW (177, 1526, 1525, 0, 125) = true := by decide +kernel
theorem lw_178 : okLW (178, 1769, 1768, 0, 125) = true := by decide +kernel
theorem lw_179 : okLW (179, 1537, 1536, 0, 125) = true := by decide +kernel
theorem lw_180 : okLW (180, 1742, 1741, 0, 125) = true := by decide +kernel
theorem lw_181 : okLW (181, 1597, 1596, 70, 125) = true := by decide +kernel
theorem lw_182 : okLW (182, 1609, 1608, 72, 125) = true := by decide +kernel
theorem lw_183 : okLW (183, 1649, 1648, 78, 125) = true := by decide +kernel
theorem lw_184 : okLW (184, 1577, 1576, 67, 125) = true := by decide +kernel
theorem lw_185 : okLW (185, 1683, 1682, 84, 125) = true := by decide +kernel
theorem lw_186 : okLW (186, 1523, 1521, 1522, 125) = true := by decide +kernel
theorem lw_187 : okLW (187, 1553, 1552, 61, 125) = true := by decide +kernel
theorem lw_188 : okLW (188, 1549, 1548, 60, 125) = true := by decide +kernel
theorem lw_189 : okLW (189, 1561, 1560, 63, 125) = true := by decide +kernel
theorem lw_190 : okLW (190, 1573, 1572, 66, 125) = true := by decide +kernel
theorem lw_191 : okLW (191, 1565, 1564, 64, 125) = true := by decide +kernel
theorem lw_192 : okLW (192, 1557, 1556, 62, 125) = true := by decide +kernel
theorem lw_193 : okLW (193, 1569, 1568, 65, 125) = true := by decide +kernel
theorem lw_194 : okLW (194, 1545, 1544, 59, 125) = true := by decide +kernel
theorem lw_195 : okLW (195, 1541, 1540, 58, 125) = true := by decide +kernel
theorem lw_196 : okLW (196, 1581, 1580, 68, 125) = true := by decide +kernel
theorem lw_197 : okLW (197, 1534, 1532, 1533, 125) = true := by decide +kernel
theorem lw_198 : okLW (198, 1589, 1587, 1588, 125) = true := by decide +kernel
theorem lw_199 : okLW (199, 1593, 1591, 1592, 125) = true := by decide +kernel
theorem lw_200 : okLW (200, 1605, 1604, 71, 125) = true := by decide +kernel
theorem lw_201 : okLW (201, 1601, 1599, 1600, 125) = true := by decide +kernel
theorem lw_202 : okLW (202, 1613, 1611, 1612, 125) = true := by decide +kernel
theorem lw_203 : okLW (203, 1621, 1620, 73, 125) = true := by decide +kernel
theorem lw_204 : okLW (204, 1617, 1615, 1616, 125) = true := by decide +kernel
theorem lw_205 : okLW (205, 1625, 1623, 1624, 125) = true := by decide +kernel
theorem lw_206 : okLW (206, 1656, 1655, 79, 125) = true := by decide +kernel
theorem lw_207 : okLW (207, 1652, 1651, 0, 125) = true := by decide +kernel
theorem lw_208 : okLW (208, 1645, 1644, 77, 125) = true := by decide +kernel
theorem lw_209 : okLW (209, 1641, 1640, 76, 125) = true := by decide +kernel
theorem lw_210 : okLW (210, 1674, 1673, 0, 125) = true := by decide +kernel
theorem lw_211 : okLW (211, 1667, 1666, 0, 125) = true := by decide +kernel
theorem lw_212 : okLW (212, 1691, 1690, 86, 125) = true := by decide +kernel
theorem lw_213 : okLW (213, 1671, 1670, 82, 125) = true := by decide +kernel
theorem lw_214 : okLW (214, 1678, 1677, 83, 125) = true := by decide +kernel
theorem lw_215 : okLW (215, 1664, 1663, 81, 125) = true := by decide +kernel
theorem lw_216 : okLW (216, 1660, 1659, 80, 125) = true := by decide +kernel
theorem lw_217 : okLW (217, 1687, 1686, 85, 125) = true := by decide +kernel
theorem lw_218 : okLW (218, 1637, 1636, 75, 125) = true := by decide +kernel
theorem lw_219 : okLW (219, 1633, 1632, 74, 125) = true := by decide +kernel
theorem lw_220 : okLW (220, 1731, 1730, 95, 125) = true := by decide +kernel
theorem lw_221 : okLW (221, 1719, 1718, 93, 125) = true := by decide +kernel
theorem lw_222 : okLW (222, 1629, 1627, 1628, 125) = true := by decide +kernel
theorem lw_223 : okLW (223, 1727, 1726, 94, 125) = true := by decide +kernel
theorem lw_224 : okLW (224, 1723, 1721, 1722, 125) = true := by decide +kernel
theorem lw_225 : okLW (225, 1735, 1733, 1734, 125) = true := by decide +kernel
theorem lw_226 : okLW (226, 1750, 1749, 97, 125) = true := by decide +kernel
theorem lw_227 : okLW (227, 1746, 1745, 96, 125) = true := by decide +kernel
theorem lw_228 : okLW (228, 1739, 1737, 1738, 125) = true := by decide +kernel
theorem lw_229 : okLW (229, 1754, 1752, 1753, 125) = true := by decide +kernel
theorem lw_230 : okLW (230, 1762, 1761, 98, 125) = true := by decide +kernel
theorem lw_231 : okLW (231, 1758, 1756, 1757, 125) = true := by decide +kernel
theorem lw_232 : okLW (232, 1766, 1764, 1765, 125) = true := by decide +kernel
theorem lw_233 : okLW (233, 1773, 1771, 1772, 125) = true := by decide +kernel
theorem lw_234 : okLW (234, 1785, 1784, 100, 125) = true := by decide +kernel
theorem lw_235 : okLW (235, 1781, 1779, 1780, 125) = true := by decide +kernel
theorem lw_236 : okLW (236, 1789, 1787, 1788, 125) = true := by decide +kernel
theorem lw_237 : okLW (237, 1802, 1801, 102, 125) = true := by decide +kernel
theorem lw_238 : okLW (238, 1798, 1797, 101, 125) = true := by decide +kernel
theorem lw_239 : okLW (239, 1794, 1792, 1793, 125) = true := by decide +kernel
theorem lw_240 : okLW (240, 1806, 1804, 1805, 125) = true := by decide +kernel
theorem lw_241 : okLW (241, 1810, 1808, 1809, 125) = true := by decide +kernel
theorem lw_242 : okLW (242, 1707, 1706, 90, 125) = true := by decide +kernel
theorem lw_243 : okLW (243, 1699, 1698, 88, 125) = true := by decide +kernel
theorem lw_244 : okLW (244, 1703, 1702, 89, 125) = true := by decide +kernel
theorem lw_245 : okLW (245, 1715, 1714, 92, 125) = true := by decide +kernel
theorem lw_246 : okLW (246, 1711, 1710, 91, 125) = true := by decide +kernel
theorem lw_247 : okLW (247, 1695, 1694, 87, 125) = true := by decide +kernel
theorem lw_248 : okLW (248, 1818, 1817, 103, 125) = true := by decide +kernel
theorem lw_249 : okLW (249, 1814, 1812, 1813, 125) = true := by decide +kernel
theorem lw_250 : okLW (250, 1822, 1820, 1821, 125) = true := by decide +kernel
theorem lw_251 : okLW (251, 1826, 1824, 1825, 125) = true := by decide +kernel
theorem lw_252 : okLW (252, 1834, 1833, 104, 125) = true := by decide +kernel
theorem lw_253 : okLW (253, 1830, 1828, 1829, 125) = true := by decide +kernel
theorem lw_254 : okLW (254, 1838, 1836, 1837, 125) = true := by decide +kernel
theorem lw_255 : okLW (255, 1842, 1840, 1841, 125) = true := by decide +kernel
theorem lw_256 : okLW (256, 1850, 1849, 105, 125) = true := by decide +kernel
theorem lw_257 : okLW (257, 1853, 1852, 0, 125) = true := by decide +kernel
theorem lw_258 : okLW (258, 1846, 1844, 1845, 125) = true := by decide +kernel
theorem lw_259 : okLW (259, 1585, 1584, 69, 125) = true := by decide +kernel
theorem lw_260 : okLW (260, 1873, 1872, 109, 125) = true := by decide +kernel
theorem lw_261 : okLW (261, 1869, 1868, 108, 125) = true := by decide +kernel
theorem lw_262 : okLW (262, 1861, 1860, 106, 125) = true := by decide +kernel
theorem lw_263 : okLW (263, 1881, 1880, 111, 125) = true := by decide +kernel
theorem lw_264 : okLW (264, 1885, 1884, 112, 125) = true := by decide +kernel
theorem lw_265 : okLW (265, 1877, 1876, 110, 125) = true := by decide +kernel
theorem lw_266 : okLW (266, 1865, 1864, 107, 125) = true := by decide +kernel
theorem lw_267 : okLW (267, 1857, 1855, 1856, 125) = true := by decide +kernel
theorem lw_268 : okLW (268, 1889, 1887, 1888, 125) = true := by decide +kernel
theorem lw_269 : okLW (269, 1893, 1891, 1892, 125) = true := by decide +kernel
theorem lw_270 : okLW (270, 1897, 1895, 1896, 125) = true := by decide +kernel
theorem lw_271 : okLW (271, 1901, 1899, 1900, 125) = true := by decide +kernel
theorem lw_272 : okLW (272, 1905, 1903, 1904, 125) = true := by decide +kernel
theorem lw_273 : okLW (273, 1909, 1907, 1908, 125) = true := by decide +kernel
theorem lw_274 : okLW (274, 1921, 1920, 114, 125) = true := by decide +kernel
theorem lw_275 : okLW (275, 1917, 1916, 113, 125) = true := by decide +kernel
theorem lw_276 : okLW (276, 1913, 1911, 1912, 125) = true := by decide +kernel
theorem lw_277 : okLW (277, 1925, 1923, 1924, 125) = true := by decide +kernel
theorem lw_278 : okLW (278, 1352, 1351, 0, 138) = true := by decide +kernel
theorem lw_279 : okLW (279, 804, 803, 0, 115) = true := by decide +kernel
theorem lw_280 : okLW (280, 909, 908, 0, 115) = true := by decide +kernel
theorem lw_281 : okLW (281, 1069, 1068, 0, 115) = true := by decide +kernel
theorem lw_282 : okLW (282, 1082, 1081, 0, 115) = true := by decide +kernel
theorem lw_283 : okLW (283, 1090, 1089, 0, 115) = true := by decide +kernel
theorem lw_284 : okLW (284, 1102, 1101, 0, 115) = true := by decide +kernel
theorem lw_285 : okLW (285, 1117, 1116, 0, 115) = true := by decide +kernel
theorem lw_286 : okLW (286, 1137, 1136, 0, 115) = true := by decide +kernel
theorem lw_287 : okLW (287, 1149, 1148, 0, 115) = true := by decide +kernel
theorem lw_288 : okLW (288, 1161, 1160, 0, 115) = true := by decide +kernel
theorem lw_289 : okLW (289, 1177, 1176, 0, 115) = true := by decide +kernel
theorem lw_290 : okLW (290, 1189, 1188, 0, 115) = true := by decide +kernel
theorem lw_291 : okLW (291, 1196, 1195, 0, 115) = true := by decide +kernel
theorem lw_292 : okLW (292, 1203, 1202, 0, 115) = true := by decide +kernel
theorem lw_293 : okLW (293, 1237, 1236, 0, 115) = true := by decide +kernel
theorem lw_294 : okLW (294, 1248, 1247, 0, 115) = true := by decide +kernel
theorem lw_295 : okLW (295, 1260, 1259, 0, 115) = true := by decide +kernel
theorem lw_296 : okLW (296, 1268, 1267, 0, 115) = true := by decide +kernel
theorem lw_297 : okLW (297, 1285, 1284, 0, 115) = true := by decide +kernel
theorem lw_298 : okLW (298, 1292, 1291, 0, 115) = true := by decide +kernel
theorem lw_299 : okLW (299, 1299, 1298, 0, 115) = true := by decide +kernel
theorem lw_300 : okLW (300, 1312, 1311, 0, 115) = true := by decide +kernel
theorem lw_301 : okLW (301, 1324, 1323, 0, 115) = true := by decide +kernel
theorem lw_302 : okLW (302, 1331, 1330, 0, 115) = true := by decide +kernel
theorem lw_303 : okLW (303, 1361, 1360, 0, 115) = true := by decide +kernel
theorem lw_304 : okLW (304, 1369, 1368, 0, 115) = true := by decide +kernel
def LW_0 : List (Nat × (Nat × (Nat × (Nat × Nat)))) := [(0, 885, 883, 884, 117), (1, 905, 903, 904, 117), (2, 1015, 1013, 1014, 117), (3, 958, 956, 957, 117), (4, 967, 966, 38, 117), (5, 979, 978, 41, 117), (6, 991, 990, 44, 117), (7, 1003, 1002, 45, 117), (8, 1011, 1010, 47, 117), (9, 971, 970, 39, 117), (10, 1007, 1006, 46, 117), (11, 983, 982, 42, 117), (12, 987, 986, 43, 117), (13, 975, 974, 40, 117), (14, 425, 423, 424, 121), (15, 441, 440, 2, 121), (16, 464, 463, 3, 121), (17, 467, 466, 0, 121), (18, 429, 428, 0, 121), (19, 433, 432, 1, 121)]
theorem LW_r0 : ∀ e ∈ LW_0, okLW e = true := List.forall_mem_cons.mpr ⟨lw_0, List.forall_mem_cons.mpr ⟨lw_1, List.forall_mem_cons.mpr ⟨lw_2, List.forall_mem_cons.mpr ⟨lw_3, List.forall_mem_cons.mpr ⟨lw_4, List.forall_mem_cons.mpr ⟨lw_5, List.forall_mem_cons.mpr ⟨lw_6, List.forall_mem_cons.mpr ⟨lw_7, List.forall_mem_cons.mpr ⟨lw_8, List.forall_mem_cons.mpr ⟨lw_9, List.forall_mem_cons.mpr ⟨lw_10, List.forall_mem_cons.mpr ⟨lw_11, List.forall_mem_cons.mpr ⟨lw_12, List.forall_mem_cons.mpr ⟨lw_13, List.forall_mem_cons.mpr ⟨lw_14, List.forall_mem_cons.mpr ⟨lw_15, List.forall_mem_cons.mpr ⟨lw_16, List.forall_mem_cons.mpr ⟨lw_17, List.forall_mem_cons.mpr ⟨lw_18, List.forall_mem_cons.mpr ⟨lw_19, fun _ h => absurd h List.not_mem_nil⟩⟩⟩⟩⟩⟩⟩⟩⟩⟩⟩⟩⟩⟩⟩⟩⟩⟩⟩⟩
def LW_1 : List (Nat × (Nat × (Nat × (Nat × Nat)))) := [(20, 471, 470, 4, 121), (21, 475, 474, 5, 121), (22, 501, 499, 500, 121), (23, 1114, 1112, 1113, 121), (24, 1134, 1132, 1133, 121), (25, 490, 488, 489, 121), (26, 583, 582, 17, 121), (27, 1130, 1128, 1129, 121), (28, 1146, 1144, 1145, 121), (29, 579, 577, 578, 121), (30, 963, 961, 962, 118), (31, 995, 993, 994, 118), (32, 1024, 1022, 1023, 118), (33, 1028, 1026, 1027, 118), (34, 1042, 1040, 1041, 118), (35, 1051, 1049, 1050, 118), (36, 603, 601, 602, 123), (37, 1281, 1279, 1280, 123), (38, 612, 610, 611, 123), (39, 617, 615, 616, 123)]
theorem LW_r1 : ∀ e ∈ LW_1, okLW e = true := List.forall_mem_cons.mpr ⟨lw_20, List.forall_mem_cons.mpr ⟨lw_21, List.forall_mem_cons.mpr ⟨lw_22, List.forall_mem_cons.mpr ⟨lw_23, List.forall_mem_cons.mpr ⟨lw_24, List.forall_mem_cons.mpr ⟨lw_25, List.forall_mem_cons.mpr ⟨lw_26, List.forall_mem_cons.mpr ⟨lw_27, List.forall_mem_cons.mpr ⟨lw_28, List.forall_mem_cons.mpr ⟨lw_29, List.forall_mem_cons.mpr ⟨lw_30, List.forall_mem_cons.mpr ⟨lw_31, List.forall_mem_cons.mpr ⟨lw_32, List.forall_mem_cons.mpr ⟨lw_33, List.forall_mem_cons.mpr ⟨lw_34, List.forall_mem_cons.mpr ⟨lw_35, List.forall_mem_cons.mpr ⟨lw_36, List.forall_mem_cons.mpr ⟨lw_37, List.forall_mem_cons.mpr ⟨lw_38, List.forall_mem_cons.mpr ⟨lw_39, fun _ h => absurd h List.not_mem_nil⟩⟩⟩⟩⟩⟩⟩⟩⟩⟩⟩⟩⟩⟩⟩⟩⟩⟩⟩⟩
def LW_2 : List (Nat × (Nat × (Nat × (Nat × Nat)))) := [(40, 621, 619, 620, 123), (41, 1060, 1058, 1059, 120), (42, 421, 419, 420, 120), (43, 479, 478, 6, 120), (44, 486, 485, 7, 120), (45, 507, 506, 8, 120), (46, 517, 516, 0, 120), (47, 549, 548, 11, 120), (48, 565, 564, 15, 120), (49, 553, 552, 12, 120), (50, 573, 572, 16, 120), (51, 530, 529, 9, 120), (52, 561, 560, 14, 120), (53, 534, 533, 10, 120), (54, 557, 556, 13, 120), (55, 1110, 1108, 1109, 120), (56, 591, 589, 590, 120), (57, 640, 638, 639, 120), (58, 608, 606, 607, 120), (59, 1172, 1170, 1171, 120)]
theorem LW_r2 : ∀ e ∈ LW_2, okLW e = true := List.forall_mem_cons.mpr ⟨lw_40, List.forall_mem_cons.mpr ⟨lw_41, List.forall_mem_cons.mpr ⟨lw_42, List.forall_mem_cons.mpr ⟨lw_43, List.forall_mem_cons.mpr ⟨lw_44, List.forall_mem_cons.mpr ⟨lw_45, List.forall_mem_cons.mpr ⟨lw_46, List.forall_mem_cons.mpr ⟨lw_47, List.forall_mem_cons.mpr ⟨lw_48, List.forall_mem_cons.mpr ⟨lw_49, List.forall_mem_cons.mpr ⟨lw_50, List.forall_mem_cons.mpr ⟨lw_51, List.forall_mem_cons.mpr ⟨lw_52, List.forall_mem_cons.mpr ⟨lw_53, List.forall_mem_cons.mpr ⟨lw_54, List.forall_mem_cons.mpr ⟨lw_55, List.forall_mem_cons.mpr ⟨lw_56, List.forall_mem_cons.mpr ⟨lw_57, List.forall_mem_cons.mpr ⟨lw_58, List.forall_mem_cons.mpr ⟨lw_59, fun _ h => absurd h List.not_mem_nil⟩⟩⟩⟩⟩⟩⟩⟩⟩⟩⟩⟩⟩⟩⟩⟩⟩⟩⟩⟩
def LW_3 : List (Nat × (Nat × (Nat × (Nat × Nat)))) := [(60, 1234, 1232, 1233, 120), (61, 1245, 1243, 1244, 120), (62, 707, 705, 706, 124), (63, 703, 701, 702, 124), (64, 712, 711, 24, 124), (65, 717, 716, 25, 124), (66, 764, 763, 34, 124), (67, 725, 724, 26, 124), (68, 745, 744, 30, 124), (69, 749, 748, 31, 124), (70, 756, 755, 32, 124), (71, 760, 759, 33, 124), (72, 730, 729, 27, 124), (73, 741, 740, 29, 124), (74, 736, 735, 28, 124), (75, 769, 767, 768, 124), (76, 777, 775, 776, 124), (77, 785, 783, 784, 124), (78, 1320, 1318, 1319, 124), (79, 417, 415, 416, 119)]
theorem LW_r3 : ∀ e ∈ LW_3, okLW e = true := List.forall_mem_cons.mpr ⟨lw_60, List.forall_mem_cons.mpr ⟨lw_61, List.forall_mem_cons.mpr ⟨lw_62, List.forall_mem_cons.mpr ⟨lw_63, List.forall_mem_cons.mpr ⟨lw_64, List.forall_mem_cons.mpr ⟨lw_65, List.forall_mem_cons.mpr ⟨lw_66, List.forall_mem_cons.mpr ⟨lw_67, List.forall_mem_cons.mpr ⟨lw_68, List.forall_mem_cons.mpr ⟨lw_69, List.forall_mem_cons.mpr ⟨lw_70, List.forall_mem_cons.mpr ⟨lw_71, List.forall_mem_cons.mpr ⟨lw_72, List.forall_mem_cons.mpr ⟨lw_73, List.forall_mem_cons.mpr ⟨lw_74, List.forall_mem_cons.mpr ⟨lw_75, List.forall_mem_cons.mpr ⟨lw_76, List.forall_mem_cons.mpr ⟨lw_77, List.forall_mem_cons.mpr ⟨lw_78, List.forall_mem_cons.mpr ⟨lw_79, fun _ h => absurd h List.not_mem_nil⟩⟩⟩⟩⟩⟩⟩⟩⟩⟩⟩⟩⟩⟩⟩⟩⟩⟩⟩⟩
def LW_4 : List (Nat × (Nat × (Nat × (Nat × Nat)))) := [(80, 1099, 1097, 1098, 119), (81, 1020, 1018, 1019, 119), (82, 1032, 1031, 48, 119), (83, 1047, 1045, 1046, 119), (84, 793, 791, 792, 119), (85, 800, 799, 35, 119), (86, 394, 392, 393, 119), (87, 409, 407, 408, 119), (88, 398, 396, 397, 119), (89, 446, 444, 445, 119), (90, 450, 448, 449, 119), (91, 511, 509, 510, 119), (92, 521, 519, 520, 119), (93, 457, 455, 456, 119), (94, 1038, 1036, 1037, 119), (95, 569, 567, 568, 119), (96, 401, 400, 0, 131), (97, 537, 536, 0, 131), (98, 437, 436, 0, 131), (99, 541, 540, 0, 131)]
theorem LW_r4 : ∀ e ∈ LW_4, okLW e = true := List.forall_mem_cons.mpr ⟨lw_80, List.forall_mem_cons.mpr ⟨lw_81, List.forall_mem_cons.mpr ⟨lw_82, List.forall_mem_cons.mpr ⟨lw_83, List.forall_mem_cons.mpr ⟨lw_84, List.forall_mem_cons.mpr ⟨lw_85, List.forall_mem_cons.mpr ⟨lw_86, List.forall_mem_cons.mpr ⟨lw_87, List.forall_mem_cons.mpr ⟨lw_88, List.forall_mem_cons.mpr ⟨lw_89, List.forall_mem_cons.mpr ⟨lw_90, List.forall_mem_cons.mpr ⟨lw_91, List.forall_mem_cons.mpr ⟨lw_92, List.forall_mem_cons.mpr ⟨lw_93, List.forall_mem_cons.mpr ⟨lw_94, List.forall_mem_cons.mpr ⟨lw_95, List.forall_mem_cons.mpr ⟨lw_96, List.forall_mem_cons.mpr ⟨lw_97, List.forall_mem_cons.mpr ⟨lw_98, List.forall_mem_cons.mpr ⟨lw_99, fun _ h => absurd h List.not_mem_nil⟩⟩⟩⟩⟩⟩⟩⟩⟩⟩⟩⟩⟩⟩⟩⟩⟩⟩⟩⟩
def LW_5 : List (Nat × (Nat × (Nat × (Nat × Nat)))) := [(100, 482, 481, 0, 131), (101, 796, 795, 0, 131), (102, 497, 496, 0, 131), (103, 998, 997, 0, 135), (104, 453, 452, 0, 135), (105, 514, 513, 0, 135), (106, 524, 523, 0, 135), (107, 460, 459, 0, 135), (108, 1064, 1062, 1063, 122), (109, 648, 646, 647, 122), (110, 652, 651, 19, 122), (111, 656, 655, 0, 122), (112, 659, 658, 0, 122), (113, 681, 680, 0, 122), (114, 664, 663, 20, 122), (115, 672, 671, 21, 122), (116, 676, 675, 22, 122), (117, 695, 693, 694, 122), (118, 1256, 1254, 1255, 122), (119, 687, 685, 686, 122)]
theorem LW_r5 : ∀ e ∈ LW_5, okLW e = true := List.forall_mem_cons.mpr ⟨lw_100, List.forall_mem_cons.mpr ⟨lw_101, List.forall_mem_cons.mpr ⟨lw_102, List.forall_mem_cons.mpr ⟨lw_103, List.forall_mem_cons.mpr ⟨lw_104, List.forall_mem_cons.mpr ⟨lw_105, List.forall_mem_cons.mpr ⟨lw_106, List.forall_mem_cons.mpr ⟨lw_107, List.forall_mem_cons.mpr ⟨lw_108, List.forall_mem_cons.mpr ⟨lw_109, List.forall_mem_cons.mpr ⟨lw_110, List.forall_mem_cons.mpr ⟨lw_111, List.forall_mem_cons.mpr ⟨lw_112, List.forall_mem_cons.mpr ⟨lw_113, List.forall_mem_cons.mpr ⟨lw_114, List.forall_mem_cons.mpr ⟨lw_115, List.forall_mem_cons.mpr ⟨lw_116, List.forall_mem_cons.mpr ⟨lw_117, List.forall_mem_cons.mpr ⟨lw_118, List.forall_mem_cons.mpr ⟨lw_119, fun _ h => absurd h List.not_mem_nil⟩⟩⟩⟩⟩⟩⟩⟩⟩⟩⟩⟩⟩⟩⟩⟩⟩⟩⟩⟩
def LW_6 : List (Nat × (Nat × (Nat × (Nat × Nat)))) := [(120, 691, 690, 23, 122), (121, 810, 808, 809, 116), (122, 937, 935, 936, 116), (123, 386, 384, 385, 116), (124, 390, 388, 389, 116), (125, 1073, 1071, 1072, 116), (126, 1086, 1084, 1085, 116), (127, 405, 403, 404, 116), (128, 1094, 1092, 1093, 116), (129, 1106, 1104, 1105, 116), (130, 1121, 1119, 1120, 116), (131, 1141, 1139, 1140, 116), (132, 1153, 1151, 1152, 116), (133, 1165, 1163, 1164, 116), (134, 1181, 1179, 1180, 116), (135, 413, 411, 412, 116), (136, 1193, 1191, 1192, 116), (137, 1200, 1198, 1199, 116), (138, 595, 593, 594, 116), (139, 1208, 1206, 1207, 116)]
theorem LW_r6 : ∀ e ∈ LW_6, okLW e = true := List.forall_mem_cons.mpr ⟨lw_120, List.forall_mem_cons.mpr ⟨lw_121, List.forall_mem_cons.mpr ⟨lw_122, List.forall_mem_cons.mpr ⟨lw_123, List.forall_mem_cons.mpr ⟨lw_124, List.forall_mem_cons.mpr ⟨lw_125, List.forall_mem_cons.mpr ⟨lw_126, List.forall_mem_cons.mpr ⟨lw_127, List.forall_mem_cons.mpr ⟨lw_128, List.forall_mem_cons.mpr ⟨lw_129, List.forall_mem_cons.mpr ⟨lw_130, List.forall_mem_cons.mpr ⟨lw_131, List.forall_mem_cons.mpr ⟨lw_132, List.forall_mem_cons.mpr ⟨lw_133, List.forall_mem_cons.mpr ⟨lw_134, List.forall_mem_cons.mpr ⟨lw_135, List.forall_mem_cons.mpr ⟨lw_136, List.forall_mem_cons.mpr ⟨lw_137, List.forall_mem_cons.mpr ⟨lw_138, List.forall_mem_cons.mpr ⟨lw_139, fun _ h => absurd h List.not_mem_nil⟩⟩⟩⟩⟩⟩⟩⟩⟩⟩⟩⟩⟩⟩⟩⟩⟩⟩⟩⟩
def LW_7 : List (Nat × (Nat × (Nat × (Nat × Nat)))) := [(140, 1241, 1239, 1240, 116), (141, 636, 634, 635, 116), (142, 1252, 1250, 1251, 116), (143, 1264, 1262, 1263, 116), (144, 644, 642, 643, 116), (145, 1272, 1270, 1271, 116), (146, 1289, 1287, 1288, 116), (147, 1296, 1294, 1295, 116), (148, 1303, 1301, 1302, 116), (149, 699, 697, 698, 116), (150, 1316, 1314, 1315, 116), (151, 1328, 1326, 1327, 116), (152, 773, 771, 772, 116), (153, 781, 779, 780, 116), (154, 1349, 1347, 1348, 116), (155, 1365, 1363, 1364, 116), (156, 789, 787, 788, 116), (157, 1373, 1371, 1372, 116), (158, 1056, 1055, 49, 116), (159, 599, 598, 18, 116)]
theorem LW_r7 : ∀ e ∈ LW_7, okLW e = true := List.forall_mem_cons.mpr ⟨lw_140, List.forall_mem_cons.mpr ⟨lw_141, List.forall_mem_cons.mpr ⟨lw_142, List.forall_mem_cons.mpr ⟨lw_143, List.forall_mem_cons.mpr ⟨lw_144, List.forall_mem_cons.mpr ⟨lw_145, List.forall_mem_cons.mpr ⟨lw_146, List.forall_mem_cons.mpr ⟨lw_147, List.forall_mem_cons.mpr ⟨lw_148, List.forall_mem_cons.mpr ⟨lw_149, List.forall_mem_cons.mpr ⟨lw_150, List.forall_mem_cons.mpr ⟨lw_151, List.forall_mem_cons.mpr ⟨lw_152, List.forall_mem_cons.mpr ⟨lw_153, List.forall_mem_cons.mpr ⟨lw_154, List.forall_mem_cons.mpr ⟨lw_155, List.forall_mem_cons.mpr ⟨lw_156, List.forall_mem_cons.mpr ⟨lw_157, List.forall_mem_cons.mpr ⟨lw_158, List.forall_mem_cons.mpr ⟨lw_159, fun _ h => absurd h List.not_mem_nil⟩⟩⟩⟩⟩⟩⟩⟩⟩⟩⟩⟩⟩⟩⟩⟩⟩⟩⟩⟩
def LW_8 : List (Nat × (Nat × (Nat × (Nat × Nat)))) := [(160, 1276, 1275, 55, 116), (161, 1307, 1306, 56, 116), (162, 941, 940, 37, 116), (163, 1125, 1124, 51, 116), (164, 1077, 1076, 50, 116), (165, 1157, 1156, 52, 116), (166, 1185, 1184, 53, 116), (167, 1212, 1211, 54, 116), (168, 493, 492, 0, 116), (169, 586, 585, 0, 116), (170, 1168, 1167, 0, 116), (171, 632, 631, 0, 116), (172, 628, 627, 0, 116), (173, 545, 544, 0, 116), (174, 1519, 1517, 1518, 125), (175, 1530, 1529, 57, 125), (176, 1777, 1776, 99, 125), (177, 1526, 1525, 0, 125), (178, 1769, 1768, 0, 125), (179, 1537, 1536, 0, 125)]
theorem LW_r8 : ∀ e ∈ LW_8, okLW e = true := List.forall_mem_cons.mpr ⟨lw_160, List.forall_mem_cons.mpr ⟨lw_161, List.forall_mem_cons.mpr ⟨lw_162, List.forall_mem_cons.mpr ⟨lw_163, List.forall_mem_cons.mpr ⟨lw_164, List.forall_mem_cons.mpr ⟨lw_165, List.forall_mem_cons.mpr ⟨lw_166, List.forall_mem_cons.mpr ⟨lw_167, List.forall_mem_cons.mpr ⟨lw_168, List.forall_mem_cons.mpr ⟨lw_169, List.forall_mem_cons.mpr ⟨lw_170, List.forall_mem_cons.mpr ⟨lw_171, List.forall_mem_cons.mpr ⟨lw_172, List.forall_mem_cons.mpr ⟨lw_173, List.forall_mem_cons.mpr ⟨lw_174, List.forall_mem_cons.mpr ⟨lw_175, List.forall_mem_cons.mpr ⟨lw_176, List.forall_mem_cons.mpr ⟨lw_177, List.forall_mem_cons.mpr ⟨lw_178, List.forall_mem_cons.mpr ⟨lw_179, fun _ h => absurd h List.not_mem_nil⟩⟩⟩⟩⟩⟩⟩⟩⟩⟩⟩⟩⟩⟩⟩⟩⟩⟩⟩⟩
def LW_9 : List (Nat × (Nat × (Nat × (Nat × Nat)))) := [(180, 1742, 1741, 0, 125), (181, 1597, 1596, 70, 125), (182, 1609, 1608, 72, 125), (183, 1649, 1648, 78, 125), (184, 1577, 1576, 67, 125), (185, 1683, 1682, 84, 125), (186, 1523, 1521, 1522, 125), (187, 1553, 1552, 61, 125), (188, 1549, 1548, 60, 125), (189, 1561, 1560, 63, 125), (190, 1573, 1572, 66, 125), (191, 1565, 1564, 64, 125), (192, 1557, 1556, 62, 125), (193, 1569, 1568, 65, 125), (194, 1545, 1544, 59, 125), (195, 1541, 1540, 58, 125), (196, 1581, 1580, 68, 125), (197, 1534, 1532, 1533, 125), (198, 1589, 1587, 1588, 125), (199, 1593, 1591, 1592, 125)]
theorem LW_r9 : ∀ e ∈ LW_9, okLW e = true := List.forall_mem_cons.mpr ⟨lw_180, List.forall_mem_cons.mpr ⟨lw_181, List.forall_mem_cons.mpr ⟨lw_182, List.forall_mem_cons.mpr ⟨lw_183, List.forall_mem_cons.mpr ⟨lw_184, List.forall_mem_cons.mpr ⟨lw_185, List.forall_mem_cons.mpr ⟨lw_186, List.forall_mem_cons.mpr ⟨lw_187, List.forall_mem_cons.mpr ⟨lw_188, List.forall_mem_cons.mpr ⟨lw_189, List.forall_mem_cons.mpr ⟨lw_190, List.forall_mem_cons.mpr ⟨lw_191, List.forall_mem_cons.mpr ⟨lw_192, List.forall_mem_cons.mpr ⟨lw_193, List.forall_mem_cons.mpr ⟨lw_194, List.forall_mem_cons.mpr ⟨lw_195, List.forall_mem_cons.mpr ⟨lw_196, List.forall_mem_cons.mpr ⟨lw_197, List.forall_mem_cons.mpr ⟨lw_198, List.forall_mem_cons.mpr ⟨lw_199, fun _ h => absurd h List.not_mem_nil⟩⟩⟩⟩⟩⟩⟩⟩⟩⟩⟩⟩⟩⟩⟩⟩⟩⟩⟩⟩
def LW_10 : List (Nat × (Nat × (Nat × (Nat × Nat)))) := [(200, 1605, 1604, 71, 125), (201, 1601, 1599, 1600, 125), (202, 1613, 1611, 1612, 125), (203, 1621, 1620, 73, 125), (204, 1617, 1615, 1616, 125), (205, 1625, 1623, 1624, 125), (206, 1656, 1655, 79, 125), (207, 1652, 1651, 0, 125), (208, 1645, 1644, 77, 125), (209, 1641, 1640, 76, 125), (210, 1674, 1673, 0, 125), (211, 1667, 1666, 0, 125), (212, 1691, 1690, 86, 125), (213, 1671, 1670, 82, 125), (214, 1678, 1677, 83, 125), (215, 1664, 1663, 81, 125), (216, 1660, 1659, 80, 125), (217, 1687, 1686, 85, 125), (218, 1637, 1636, 75, 125), (219, 1633, 1632, 74, 125)]
theorem LW_r10 : ∀ e ∈ LW_10, okLW e = true := List.forall_mem_cons.mpr ⟨lw_200, List.forall_mem_cons.mpr ⟨lw_201, List.forall_mem_cons.mpr ⟨lw_202, List.forall_mem_cons.mpr ⟨lw_203, List.forall_mem_cons.mpr ⟨lw_204, List.forall_mem_cons.mpr ⟨lw_205, List.forall_mem_cons.mpr ⟨lw_206, List.forall_mem_cons.mpr ⟨lw_207, List.forall_mem_cons.mpr ⟨lw_208, List.forall_mem_cons.mpr ⟨lw_209, List.forall_mem_cons.mpr ⟨lw_210, List.forall_mem_cons.mpr ⟨lw_211, List.forall_mem_cons.mpr ⟨lw_212, List.forall_mem_cons.mpr ⟨lw_213, List.forall_mem_cons.mpr ⟨lw_214, List.forall_mem_cons.mpr ⟨lw_215, List.forall_mem_cons.mpr ⟨lw_216, List.forall_mem_cons.mpr ⟨lw_217, List.forall_mem_cons.mpr ⟨lw_218, List.forall_mem_cons.mpr ⟨lw_219, fun _ h => absurd h List.not_mem_nil⟩⟩⟩⟩⟩⟩⟩⟩⟩⟩⟩⟩⟩⟩⟩⟩⟩⟩⟩⟩
def LW_11 : List (Nat × (Nat × (Nat × (Nat × Nat)))) := [(220, 1731, 1730, 95, 125), (221, 1719, 1718, 93, 125), (222, 1629, 1627, 1628, 125), (223, 1727, 1726, 94, 125), (224, 1723, 1721, 1722, 125), (225, 1735, 1733, 1734, 125), (226, 1750, 1749, 97, 125), (227, 1746, 1745, 96, 125), (228, 1739, 1737, 1738, 125), (229, 1754, 1752, 1753, 125), (230, 1762, 1761, 98, 125), (231, 1758, 1756, 1757, 125), (232, 1766, 1764, 1765, 125), (233, 1773, 1771, 1772, 125), (234, 1785, 1784, 100, 125), (235, 1781, 1779, 1780, 125), (236, 1789, 1787, 1788, 125), (237, 1802, 1801, 102, 125), (238, 1798, 1797, 101, 125), (239, 1794, 1792, 1793, 125)]
theorem LW_r11 : ∀ e ∈ LW_11, okLW e = true := List.forall_mem_cons.mpr ⟨lw_220, List.forall_mem_cons.mpr ⟨lw_221, List.forall_mem_cons.mpr ⟨lw_222, List.forall_mem_cons.mpr ⟨lw_223, List.forall_mem_cons.mpr ⟨lw_224, List.forall_mem_cons.mpr ⟨lw_225, List.forall_mem_cons.mpr ⟨lw_226, List.forall_mem_cons.mpr ⟨lw_227, List.forall_mem_cons.mpr ⟨lw_228, List.forall_mem_cons.mpr ⟨lw_229, List.forall_mem_cons.mpr ⟨lw_230, List.forall_mem_cons.mpr ⟨lw_231, List.forall_mem_cons.mpr ⟨lw_232, List.forall_mem_cons.mpr ⟨lw_233, List.forall_mem_cons.mpr ⟨lw_234, List.forall_mem_cons.mpr ⟨lw_235, List.forall_mem_cons.mpr ⟨lw_236, List.forall_mem_cons.mpr ⟨lw_237, List.forall_mem_cons.mpr ⟨lw_238, List.forall_mem_cons.mpr ⟨lw_239, fun _ h => absurd h List.not_mem_nil⟩⟩⟩⟩⟩⟩⟩⟩⟩⟩⟩⟩⟩⟩⟩⟩⟩⟩⟩⟩
def LW_12 : List (Nat × (Nat × (Nat × (Nat × Nat)))) := [(240, 1806, 1804, 1805, 125), (241, 1810, 1808, 1809, 125), (242, 1707, 1706, 90, 125), (243, 1699, 1698, 88, 125), (244, 1703, 1702, 89, 125), (245, 1715, 1714, 92, 125), (246, 1711, 1710, 91, 125), (247, 1695, 1694, 87, 125), (248, 1818, 1817, 103, 125), (249, 1814, 1812, 1813, 125), (250, 1822, 1820, 1821, 125), (251, 1826, 1824, 1825, 125), (252, 1834, 1833, 104, 125), (253, 1830, 1828, 1829, 125), (254, 1838, 1836, 1837, 125), (255, 1842, 1840, 1841, 125), (256, 1850, 1849, 105, 125), (257, 1853, 1852, 0, 125), (258, 1846, 1844, 1845, 125), (259, 1585, 1584, 69, 125)]
theorem LW_r12 : ∀ e ∈ LW_12, okLW e = true := List.forall_mem_cons.mpr ⟨lw_240, List.forall_mem_cons.mpr ⟨lw_241, List.forall_mem_cons.mpr ⟨lw_242, List.forall_mem_cons.mpr ⟨lw_243, List.forall_mem_cons.mpr ⟨lw_244, List.forall_mem_cons.mpr ⟨lw_245, List.forall_mem_cons.mpr ⟨lw_246, List.forall_mem_cons.mpr ⟨lw_247, List.forall_mem_cons.mpr ⟨lw_248, List.forall_mem_cons.mpr ⟨lw_249, List.forall_mem_cons.mpr ⟨lw_250, List.forall_mem_cons.mpr ⟨lw_251, List.forall_mem_cons.mpr ⟨lw_252, List.forall_mem_cons.mpr ⟨lw_253, List.forall_mem_cons.mpr ⟨lw_254, List.forall_mem_cons.mpr ⟨lw_255, List.forall_mem_cons.mpr ⟨lw_256, List.forall_mem_cons.mpr ⟨lw_257, List.forall_mem_cons.mpr ⟨lw_258, List.forall_mem_cons.mpr ⟨lw_259, fun _ h => absurd h List.not_mem_nil⟩⟩⟩⟩⟩⟩⟩⟩⟩⟩⟩⟩⟩⟩⟩⟩⟩⟩⟩⟩
def LW_13 : List (Nat × (Nat × (Nat × (Nat × Nat)))) := [(260, 1873, 1872, 109, 125), (261, 1869, 1868, 108, 125), (262, 1861, 1860, 106, 125), (263, 1881, 1880, 111, 125), (264, 1885, 1884, 112, 125), (265, 1877, 1876, 110, 125), (266, 1865, 1864, 107, 125), (267, 1857, 1855, 1856, 125), (268, 1889, 1887, 1888, 125), (269, 1893, 1891, 1892, 125), (270, 1897, 1895, 1896, 125), (271, 1901, 1899, 1900, 125), (272, 1905, 1903, 1904, 125), (273, 1909, 1907, 1908, 125), (274, 1921, 1920, 114, 125), (275, 1917, 1916, 113, 125), (276, 1913, 1911, 1912, 125), (277, 1925, 1923, 1924, 125), (278, 1352, 1351, 0, 138), (279, 804, 803, 0, 115)]
theorem LW_r13 : ∀ e ∈ LW_13, okLW e = true := List.forall_mem_cons.mpr ⟨lw_260, List.forall_mem_cons.mpr ⟨lw_261, List.forall_mem_cons.mpr ⟨lw_262, List.forall_mem_cons.mpr ⟨lw_263, List.forall_mem_cons.mpr ⟨lw_264, List.forall_mem_cons.mpr ⟨lw_265, List.forall_mem_cons.mpr ⟨lw_266, List.forall_mem_cons.mpr ⟨lw_267, List.forall_mem_cons.mpr ⟨lw_268, List.forall_mem_cons.mpr ⟨lw_269, List.forall_mem_cons.mpr ⟨lw_270, List.forall_mem_cons.mpr ⟨lw_271, List.forall_mem_cons.mpr ⟨lw_272, List.forall_mem_cons.mpr ⟨lw_273, List.forall_mem_cons.mpr ⟨lw_274, List.forall_mem_cons.mpr ⟨lw_275, List.forall_mem_cons.mpr ⟨lw_276, List.forall_mem_cons.mpr ⟨lw_277, List.forall_mem_cons.mpr ⟨lw_278, List.forall_mem_cons.mpr ⟨lw_279, fun _ h => absurd h List.not_mem_nil⟩⟩⟩⟩⟩⟩⟩⟩⟩⟩⟩⟩⟩⟩⟩⟩⟩⟩⟩⟩
def LW_14 : List (Nat × (Nat × (Nat × (Nat × Nat)))) := [(280, 909, 908, 0, 115), (281, 1069, 1068, 0, 115), (282, 1082, 1081, 0, 115), (283, 1090, 1089, 0, 115), (284, 1102, 1101, 0, 115), (285, 1117, 1116, 0, 115), (286, 1137, 1136, 0, 115), (287, 1149, 1148, 0, 115), (288, 1161, 1160, 0, 115), (289, 1177, 1176, 0, 115), (290, 1189, 1188, 0, 115), (291, 1196, 1195, 0, 115), (292, 1203, 1202, 0, 115), (293, 1237, 1236, 0, 115), (294, 1248, 1247, 0, 115), (295, 1260, 1259, 0, 115), (296, 1268, 1267, 0, 115), (297, 1285, 1284, 0, 115), (298, 1292, 1291, 0, 115), (299, 1299, 1298, 0, 115)]
theorem LW_r14 : ∀ e ∈ LW_14, okLW e = true := List.forall_mem_cons.mpr ⟨lw_280, List.forall_mem_cons.mpr ⟨lw_281, List.forall_mem_cons.mpr ⟨lw_282, List.forall_mem_cons.mpr ⟨lw_283, List.forall_mem_cons.mpr ⟨lw_284, List.forall_mem_cons.mpr ⟨lw_285, List.forall_mem_cons.mpr ⟨lw_286, List.forall_mem_cons.mpr ⟨lw_287, List.forall_mem_cons.mpr ⟨lw_288, List.forall_mem_cons.mpr ⟨lw_289, List.forall_mem_cons.mpr ⟨lw_290, List.forall_mem_cons.mpr ⟨lw_291, List.forall_mem_cons.mpr ⟨lw_292, List.forall_mem_cons.mpr ⟨lw_293, List.forall_mem_cons.mpr ⟨lw_294, List.forall_mem_cons.mpr ⟨lw_295, List.forall_mem_cons.mpr ⟨lw_296, List.forall_mem_cons.mpr ⟨lw_297, List.forall_mem_cons.mpr ⟨lw_298, List.forall_mem_cons.mpr ⟨lw_299, fun _ h => absurd h List.not_mem_nil⟩⟩⟩⟩⟩⟩⟩⟩⟩⟩⟩⟩⟩⟩⟩⟩⟩⟩⟩⟩
def LW_15 : List (Nat × (Nat × (Nat × (Nat × Nat)))) := [(300, 1312, 1311, 0, 115), (301, 1324, 1323, 0, 115), (302, 1331, 1330, 0, 115), (303, 1361, 1360, 0, 115), (304, 1369, 1368, 0, 115)]
theorem LW_r15 : ∀ e ∈ LW_15, okLW e = true := List.forall_mem_cons.mpr ⟨lw_300, List.forall_mem_cons.mpr ⟨lw_301, List.forall_mem_cons.mpr ⟨lw_302, List.forall_mem_cons.mpr ⟨lw_303, List.forall_mem_cons.mpr ⟨lw_304, fun _ h => absurd h List.not_mem_nil⟩⟩⟩⟩⟩
def LW : List (Nat × (Nat × (Nat × (Nat × Nat)))) := LW_0 ++ (LW_1 ++ (LW_2 ++ (LW_3 ++ (LW_4 ++ (LW_5 ++ (LW_6 ++ (LW_7 ++ (LW_8 ++ (LW_9 ++ (LW_10 ++ (LW_11 ++ (LW_12 ++ (LW_13 ++ (LW_14 ++ (LW_15)))))))))))))))
theorem LW_ok : ∀ e ∈ LW, okLW e = true := List.forall_mem_append.mpr ⟨LW_r0, List.forall_mem_append.mpr ⟨LW_r1, List.forall_mem_append.mpr ⟨LW_r2, List.forall_mem_append.mpr ⟨LW_r3, List.forall_mem_append.mpr ⟨LW_r4, List.forall_mem_append.mpr ⟨LW_r5, List.forall_mem_append.mpr ⟨LW_r6, List.forall_mem_append.mpr ⟨LW_r7, List.forall_mem_append.mpr ⟨LW_r8, List.forall_mem_append.mpr ⟨LW_r9, List.forall_mem_append.mpr ⟨LW_r10, List.forall_mem_append.mpr ⟨LW_r11, List.forall_mem_append.mpr ⟨LW_r12, List.forall_mem_append.mpr ⟨LW_r13, List.forall_mem_append.mpr ⟨LW_r14, LW_r15⟩⟩⟩⟩⟩⟩⟩⟩⟩⟩⟩⟩⟩⟩⟩
