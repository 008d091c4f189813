/-! the outer walk: the methods (printed by gen_jm.py) -/
def jIL : MethodName := ({ cls := "java/lang/AbstractStringBuilder", name := "isLatin1", desc := "()Z" } : Jvm.MethodName)
def m_sbI : MD := (({ cls := "java/lang/StringBuilder", name := "<init>", desc := "()V" } : Jvm.MethodName), (prog_33_method_1_code, (1, (none, (2, 101)))))
def m_sbC : MD := (({ cls := "java/lang/StringBuilder", name := "append", desc := "(C)Ljava/lang/StringBuilder;" } : Jvm.MethodName), (prog_33_method_14_code, (2, ((some (.object "java/lang/StringBuilder")), (5, 171)))))
def m_sbS : MD := (({ cls := "java/lang/StringBuilder", name := "append", desc := "(Ljava/lang/String;)Ljava/lang/StringBuilder;" } : Jvm.MethodName), (prog_33_method_7_code, (2, ((some (.object "java/lang/StringBuilder")), (5, 172)))))
def m_sbN : MD := (({ cls := "java/lang/StringBuilder", name := "append", desc := "(I)Ljava/lang/StringBuilder;" } : Jvm.MethodName), (prog_33_method_15_code, (2, ((some (.object "java/lang/StringBuilder")), (5, 173)))))
def m_sbT : MD := (({ cls := "java/lang/StringBuilder", name := "toString", desc := "()Ljava/lang/String;" } : Jvm.MethodName), (prog_33_method_42_code, (1, ((some (.object "java/lang/String")), (6, 192)))))
def m_sbL : MD := (({ cls := "java/lang/StringBuilder", name := "length", desc := "()I" } : Jvm.MethodName), (prog_33_method_93_code, (1, ((some .int), (2, 100)))))
def m_asI : MD := (({ cls := "java/lang/AbstractStringBuilder", name := "<init>", desc := "(I)V" } : Jvm.MethodName), (prog_15_method_2_code, (2, (none, (1, 80)))))
def m_asC : MD := (({ cls := "java/lang/AbstractStringBuilder", name := "append", desc := "(C)Ljava/lang/AbstractStringBuilder;" } : Jvm.MethodName), (prog_15_method_31_code, (2, ((some (.object "java/lang/AbstractStringBuilder")), (4, 150)))))
def m_asS : MD := (({ cls := "java/lang/AbstractStringBuilder", name := "append", desc := "(Ljava/lang/String;)Ljava/lang/AbstractStringBuilder;" } : Jvm.MethodName), (prog_15_method_22_code, (3, ((some (.object "java/lang/AbstractStringBuilder")), (4, 150)))))
def m_asN : MD := (({ cls := "java/lang/AbstractStringBuilder", name := "append", desc := "(I)Ljava/lang/AbstractStringBuilder;" } : Jvm.MethodName), (prog_15_method_32_code, (4, ((some (.object "java/lang/AbstractStringBuilder")), (4, 150)))))
def m_asE : MD := (({ cls := "java/lang/AbstractStringBuilder", name := "ensureCapacityInternal", desc := "(I)V" } : Jvm.MethodName), (prog_15_method_9_code, (3, (none, (3, 128)))))
def m_asW : MD := (({ cls := "java/lang/AbstractStringBuilder", name := "newCapacity", desc := "(I)I" } : Jvm.MethodName), (prog_15_method_10_code, (6, ((some .int), (2, 103)))))
def m_as1 : MD := (({ cls := "java/lang/AbstractStringBuilder", name := "isLatin1", desc := "()Z" } : Jvm.MethodName), (prog_15_method_68_code, (1, ((some .boolean), (1, 80)))))
def m_asP : MD := (({ cls := "java/lang/AbstractStringBuilder", name := "putStringAt", desc := "(ILjava/lang/String;)V" } : Jvm.MethodName), (prog_15_method_73_code, (3, (none, (3, 123)))))
def m_asF : MD := (({ cls := "java/lang/AbstractStringBuilder", name := "inflateIfNeededFor", desc := "(Ljava/lang/String;)V" } : Jvm.MethodName), (prog_15_method_71_code, (2, (none, (2, 100)))))
def m_asV : MD := (({ cls := "java/lang/AbstractStringBuilder", name := "getValue", desc := "()[B" } : Jvm.MethodName), (prog_15_method_64_code, (1, ((some (.array .byte)), (1, 80)))))
def m_asL : MD := (({ cls := "java/lang/AbstractStringBuilder", name := "length", desc := "()I" } : Jvm.MethodName), (prog_15_method_6_code, (1, ((some .int), (1, 80)))))
def m_stI : MD := (({ cls := "java/lang/String", name := "<init>", desc := "(Ljava/lang/StringBuilder;)V" } : Jvm.MethodName), (prog_32_method_53_code, (2, (none, (5, 171)))))
def m_stB : MD := (({ cls := "java/lang/String", name := "<init>", desc := "(Ljava/lang/AbstractStringBuilder;Ljava/lang/Void;)V" } : Jvm.MethodName), (prog_32_method_150_code, (5, (none, (4, 147)))))
def m_stL : MD := (({ cls := "java/lang/String", name := "length", desc := "()I" } : Jvm.MethodName), (prog_32_method_54_code, (1, ((some .int), (2, 100)))))
def m_stA : MD := (({ cls := "java/lang/String", name := "charAt", desc := "(I)C" } : Jvm.MethodName), (prog_32_method_56_code, (2, ((some .char), (4, 144)))))
def m_stG : MD := (({ cls := "java/lang/String", name := "getBytes", desc := "([BIB)V" } : Jvm.MethodName), (prog_32_method_147_code, (4, (none, (2, 100)))))
def m_stD : MD := (({ cls := "java/lang/String", name := "coder", desc := "()B" } : Jvm.MethodName), (prog_32_method_152_code, (1, ((some .byte), (1, 80)))))
def m_st1 : MD := (({ cls := "java/lang/String", name := "isLatin1", desc := "()Z" } : Jvm.MethodName), (prog_32_method_154_code, (1, ((some .boolean), (1, 80)))))
def m_stX : MD := (({ cls := "java/lang/String", name := "checkIndex", desc := "(II)V" } : Jvm.MethodName), (prog_32_method_155_code, (2, (none, (2, 102)))))
def m_l1E : MD := (({ cls := "java/lang/StringLatin1", name := "canEncode", desc := "(C)Z" } : Jvm.MethodName), (prog_34_method_3_code, (1, ((some .boolean), (1, 80)))))
def m_l1A : MD := (({ cls := "java/lang/StringLatin1", name := "charAt", desc := "([BI)C" } : Jvm.MethodName), (prog_34_method_2_code, (2, ((some .char), (3, 123)))))
def m_inS : MD := (({ cls := "java/lang/Integer", name := "stringSize", desc := "(I)I" } : Jvm.MethodName), (prog_27_method_13_code, (4, ((some .int), (1, 80)))))
def m_inG : MD := (({ cls := "java/lang/Integer", name := "getChars", desc := "(II[B)I" } : Jvm.MethodName), (prog_27_method_12_code, (7, ((some .int), (1, 80)))))
def m_arO : MD := (({ cls := "java/util/Arrays", name := "copyOf", desc := "([BI)[B" } : Jvm.MethodName), (prog_40_method_121_code, (3, ((some (.array .byte)), (1, 80)))))
def m_arR : MD := (({ cls := "java/util/Arrays", name := "copyOfRange", desc := "([BII)[B" } : Jvm.MethodName), (prog_40_method_132_code, (3, ((some (.array .byte)), (3, 125)))))
def m_arB : MD := (({ cls := "java/util/Arrays", name := "copyOfRangeByte", desc := "([BII)[B" } : Jvm.MethodName), (prog_40_method_133_code, (5, ((some (.array .byte)), (2, 101)))))
def m_arK : MD := (({ cls := "java/util/Arrays", name := "checkLength", desc := "(II)V" } : Jvm.MethodName), (prog_40_method_131_code, (2, (none, (1, 80)))))
def m_nlN : MD := (({ cls := "jdk/internal/util/ArraysSupport", name := "newLength", desc := "(III)I" } : Jvm.MethodName), (prog_42_method_27_code, (4, ((some .int), (1, 80)))))
def m_pcX : MD := (({ cls := "jdk/internal/util/Preconditions", name := "checkIndex", desc := "(IILjava/util/function/BiFunction;)I" } : Jvm.MethodName), (prog_43_method_11_code, (3, ((some .int), (1, 80)))))
def m_lwT : MD := (({ cls := "PointerAnalyzerLaw", name := "text", desc := "([I)Ljava/lang/String;" } : Jvm.MethodName), (method_41_code, (3, ((some (.object "java/lang/String")), (7, 212)))))
def m_lwP : MD := (({ cls := "PointerAnalyzerLaw", name := "put", desc := "(LPointerAnalyzer;ILjava/lang/String;)J" } : Jvm.MethodName), (method_42_code, (4, ((some .long), (10, 181)))))
def m_lwG : MD := (({ cls := "PointerAnalyzerLaw", name := "program", desc := "(LPointerAnalyzer;I)[[[I" } : Jvm.MethodName), (method_43_code, (10, ((some (.array (.array (.array .int)))), (11, 234)))))
def m_lwC : MD := (({ cls := "PointerAnalyzerLaw", name := "cell", desc := "([II)I" } : Jvm.MethodName), (method_40_code, (2, ((some .int), (1, 80)))))
def m_lwS : MD := (({ cls := "PointerAnalyzerLaw", name := "saved", desc := "(LPointerAnalyzer;I)Z" } : Jvm.MethodName), (method_49_code, (11, ((some .boolean), (11, 204)))))
def m_lwB : MD := (({ cls := "PointerAnalyzerLaw", name := "bounds", desc := "(LPointerAnalyzer;)Z" } : Jvm.MethodName), (method_45_code, (9, ((some .boolean), (10, 198)))))
def m_lwR : MD := (({ cls := "PointerAnalyzerLaw", name := "ranks", desc := "(LPointerAnalyzer;)Z" } : Jvm.MethodName), (method_46_code, (14, ((some .boolean), (11, 198)))))
theorem d_sbI_0 : decode prog_33_method_1_code 0 = .ok (.aload_n 0, 1) := by decide +kernel
theorem d_sbI_1 : decode prog_33_method_1_code 1 = .ok (.bipush 16, 2) := by decide +kernel
theorem d_sbI_3 : decode prog_33_method_1_code 3 = .ok (.invokespecial 1, 3) := by decide +kernel
theorem d_sbI_6 : decode prog_33_method_1_code 6 = .ok (.return_, 1) := by decide +kernel
theorem d_sbC_0 : decode prog_33_method_14_code 0 = .ok (.aload_n 0, 1) := by decide +kernel
theorem d_sbC_1 : decode prog_33_method_14_code 1 = .ok (.iload_n 1, 1) := by decide +kernel
theorem d_sbC_2 : decode prog_33_method_14_code 2 = .ok (.invokespecial 50, 3) := by decide +kernel
theorem d_sbC_5 : decode prog_33_method_14_code 5 = .ok (.pop, 1) := by decide +kernel
theorem d_sbC_6 : decode prog_33_method_14_code 6 = .ok (.aload_n 0, 1) := by decide +kernel
theorem d_sbC_7 : decode prog_33_method_14_code 7 = .ok (.areturn, 1) := by decide +kernel
theorem d_sbS_0 : decode prog_33_method_7_code 0 = .ok (.aload_n 0, 1) := by decide +kernel
theorem d_sbS_1 : decode prog_33_method_7_code 1 = .ok (.aload_n 1, 1) := by decide +kernel
theorem d_sbS_2 : decode prog_33_method_7_code 2 = .ok (.invokespecial 29, 3) := by decide +kernel
theorem d_sbS_5 : decode prog_33_method_7_code 5 = .ok (.pop, 1) := by decide +kernel
theorem d_sbS_6 : decode prog_33_method_7_code 6 = .ok (.aload_n 0, 1) := by decide +kernel
theorem d_sbS_7 : decode prog_33_method_7_code 7 = .ok (.areturn, 1) := by decide +kernel
theorem d_sbN_0 : decode prog_33_method_15_code 0 = .ok (.aload_n 0, 1) := by decide +kernel
theorem d_sbN_1 : decode prog_33_method_15_code 1 = .ok (.iload_n 1, 1) := by decide +kernel
theorem d_sbN_2 : decode prog_33_method_15_code 2 = .ok (.invokespecial 53, 3) := by decide +kernel
theorem d_sbN_5 : decode prog_33_method_15_code 5 = .ok (.pop, 1) := by decide +kernel
theorem d_sbN_6 : decode prog_33_method_15_code 6 = .ok (.aload_n 0, 1) := by decide +kernel
theorem d_sbN_7 : decode prog_33_method_15_code 7 = .ok (.areturn, 1) := by decide +kernel
theorem d_sbT_0 : decode prog_33_method_42_code 0 = .ok (.new 18, 3) := by decide +kernel
theorem d_sbT_3 : decode prog_33_method_42_code 3 = .ok (.dup, 1) := by decide +kernel
theorem d_sbT_4 : decode prog_33_method_42_code 4 = .ok (.aload_n 0, 1) := by decide +kernel
theorem d_sbT_5 : decode prog_33_method_42_code 5 = .ok (.invokespecial 137, 3) := by decide +kernel
theorem d_sbT_8 : decode prog_33_method_42_code 8 = .ok (.areturn, 1) := by decide +kernel
theorem d_sbL_0 : decode prog_33_method_93_code 0 = .ok (.aload_n 0, 1) := by decide +kernel
theorem d_sbL_1 : decode prog_33_method_93_code 1 = .ok (.invokespecial 343, 3) := by decide +kernel
theorem d_sbL_4 : decode prog_33_method_93_code 4 = .ok (.ireturn, 1) := by decide +kernel
theorem d_asI_0 : decode prog_15_method_2_code 0 = .ok (.aload_n 0, 1) := by decide +kernel
theorem d_asI_1 : decode prog_15_method_2_code 1 = .ok (.invokespecial 3, 3) := by decide +kernel
theorem d_asI_4 : decode prog_15_method_2_code 4 = .ok (.getstatic 18, 3) := by decide +kernel
theorem d_asI_7 : decode prog_15_method_2_code 7 = .ok (.ifCond .eq 18, 3) := by decide +kernel
theorem d_asI_10 : decode prog_15_method_2_code 10 = .ok (.aload_n 0, 1) := by decide +kernel
theorem d_asI_11 : decode prog_15_method_2_code 11 = .ok (.iload_n 1, 1) := by decide +kernel
theorem d_asI_12 : decode prog_15_method_2_code 12 = .ok (.newarray .byte, 2) := by decide +kernel
theorem d_asI_14 : decode prog_15_method_2_code 14 = .ok (.putfield 15, 3) := by decide +kernel
theorem d_asI_17 : decode prog_15_method_2_code 17 = .ok (.aload_n 0, 1) := by decide +kernel
theorem d_asI_18 : decode prog_15_method_2_code 18 = .ok (.iconst 0, 1) := by decide +kernel
theorem d_asI_19 : decode prog_15_method_2_code 19 = .ok (.putfield 22, 3) := by decide +kernel
theorem d_asI_22 : decode prog_15_method_2_code 22 = .ok (.goto 16, 3) := by decide +kernel
theorem d_asI_38 : decode prog_15_method_2_code 38 = .ok (.return_, 1) := by decide +kernel
theorem d_asC_0 : decode prog_15_method_31_code 0 = .ok (.aload_n 0, 1) := by decide +kernel
theorem d_asC_1 : decode prog_15_method_31_code 1 = .ok (.aload_n 0, 1) := by decide +kernel
theorem d_asC_2 : decode prog_15_method_31_code 2 = .ok (.getfield 79, 3) := by decide +kernel
theorem d_asC_5 : decode prog_15_method_31_code 5 = .ok (.iconst 1, 1) := by decide +kernel
theorem d_asC_6 : decode prog_15_method_31_code 6 = .ok (.iadd, 1) := by decide +kernel
theorem d_asC_7 : decode prog_15_method_31_code 7 = .ok (.invokevirtual 100, 3) := by decide +kernel
theorem d_asC_10 : decode prog_15_method_31_code 10 = .ok (.aload_n 0, 1) := by decide +kernel
theorem d_asC_11 : decode prog_15_method_31_code 11 = .ok (.invokevirtual 83, 3) := by decide +kernel
theorem d_asC_14 : decode prog_15_method_31_code 14 = .ok (.ifCond .eq 31, 3) := by decide +kernel
theorem d_asC_17 : decode prog_15_method_31_code 17 = .ok (.iload_n 1, 1) := by decide +kernel
theorem d_asC_18 : decode prog_15_method_31_code 18 = .ok (.invokestatic 191, 3) := by decide +kernel
theorem d_asC_21 : decode prog_15_method_31_code 21 = .ok (.ifCond .eq 24, 3) := by decide +kernel
theorem d_asC_24 : decode prog_15_method_31_code 24 = .ok (.aload_n 0, 1) := by decide +kernel
theorem d_asC_25 : decode prog_15_method_31_code 25 = .ok (.getfield 15, 3) := by decide +kernel
theorem d_asC_28 : decode prog_15_method_31_code 28 = .ok (.aload_n 0, 1) := by decide +kernel
theorem d_asC_29 : decode prog_15_method_31_code 29 = .ok (.dup, 1) := by decide +kernel
theorem d_asC_30 : decode prog_15_method_31_code 30 = .ok (.getfield 79, 3) := by decide +kernel
theorem d_asC_33 : decode prog_15_method_31_code 33 = .ok (.dup_x1, 1) := by decide +kernel
theorem d_asC_34 : decode prog_15_method_31_code 34 = .ok (.iconst 1, 1) := by decide +kernel
theorem d_asC_35 : decode prog_15_method_31_code 35 = .ok (.iadd, 1) := by decide +kernel
theorem d_asC_36 : decode prog_15_method_31_code 36 = .ok (.putfield 79, 3) := by decide +kernel
theorem d_asC_39 : decode prog_15_method_31_code 39 = .ok (.iload_n 1, 1) := by decide +kernel
theorem d_asC_40 : decode prog_15_method_31_code 40 = .ok (.i2b, 1) := by decide +kernel
theorem d_asC_41 : decode prog_15_method_31_code 41 = .ok (.bastore, 1) := by decide +kernel
theorem d_asC_42 : decode prog_15_method_31_code 42 = .ok (.goto 33, 3) := by decide +kernel
theorem d_asC_75 : decode prog_15_method_31_code 75 = .ok (.aload_n 0, 1) := by decide +kernel
theorem d_asC_76 : decode prog_15_method_31_code 76 = .ok (.areturn, 1) := by decide +kernel
theorem d_asS_0 : decode prog_15_method_22_code 0 = .ok (.aload_n 1, 1) := by decide +kernel
theorem d_asS_1 : decode prog_15_method_22_code 1 = .ok (.ifnonnull 8, 3) := by decide +kernel
theorem d_asS_9 : decode prog_15_method_22_code 9 = .ok (.aload_n 1, 1) := by decide +kernel
theorem d_asS_10 : decode prog_15_method_22_code 10 = .ok (.invokevirtual 32, 3) := by decide +kernel
theorem d_asS_13 : decode prog_15_method_22_code 13 = .ok (.istore_n 2, 1) := by decide +kernel
theorem d_asS_14 : decode prog_15_method_22_code 14 = .ok (.aload_n 0, 1) := by decide +kernel
theorem d_asS_15 : decode prog_15_method_22_code 15 = .ok (.aload_n 0, 1) := by decide +kernel
theorem d_asS_16 : decode prog_15_method_22_code 16 = .ok (.getfield 79, 3) := by decide +kernel
theorem d_asS_19 : decode prog_15_method_22_code 19 = .ok (.iload_n 2, 1) := by decide +kernel
theorem d_asS_20 : decode prog_15_method_22_code 20 = .ok (.iadd, 1) := by decide +kernel
theorem d_asS_21 : decode prog_15_method_22_code 21 = .ok (.invokevirtual 100, 3) := by decide +kernel
theorem d_asS_24 : decode prog_15_method_22_code 24 = .ok (.aload_n 0, 1) := by decide +kernel
theorem d_asS_25 : decode prog_15_method_22_code 25 = .ok (.aload_n 0, 1) := by decide +kernel
theorem d_asS_26 : decode prog_15_method_22_code 26 = .ok (.getfield 79, 3) := by decide +kernel
theorem d_asS_29 : decode prog_15_method_22_code 29 = .ok (.aload_n 1, 1) := by decide +kernel
theorem d_asS_30 : decode prog_15_method_22_code 30 = .ok (.invokevirtual 208, 3) := by decide +kernel
theorem d_asS_33 : decode prog_15_method_22_code 33 = .ok (.aload_n 0, 1) := by decide +kernel
theorem d_asS_34 : decode prog_15_method_22_code 34 = .ok (.dup, 1) := by decide +kernel
theorem d_asS_35 : decode prog_15_method_22_code 35 = .ok (.getfield 79, 3) := by decide +kernel
theorem d_asS_38 : decode prog_15_method_22_code 38 = .ok (.iload_n 2, 1) := by decide +kernel
theorem d_asS_39 : decode prog_15_method_22_code 39 = .ok (.iadd, 1) := by decide +kernel
theorem d_asS_40 : decode prog_15_method_22_code 40 = .ok (.putfield 79, 3) := by decide +kernel
theorem d_asS_43 : decode prog_15_method_22_code 43 = .ok (.aload_n 0, 1) := by decide +kernel
theorem d_asS_44 : decode prog_15_method_22_code 44 = .ok (.areturn, 1) := by decide +kernel
theorem d_asN_0 : decode prog_15_method_32_code 0 = .ok (.aload_n 0, 1) := by decide +kernel
theorem d_asN_1 : decode prog_15_method_32_code 1 = .ok (.getfield 79, 3) := by decide +kernel
theorem d_asN_4 : decode prog_15_method_32_code 4 = .ok (.istore_n 2, 1) := by decide +kernel
theorem d_asN_5 : decode prog_15_method_32_code 5 = .ok (.iload_n 2, 1) := by decide +kernel
theorem d_asN_6 : decode prog_15_method_32_code 6 = .ok (.iload_n 1, 1) := by decide +kernel
theorem d_asN_7 : decode prog_15_method_32_code 7 = .ok (.invokestatic 245, 3) := by decide +kernel
theorem d_asN_10 : decode prog_15_method_32_code 10 = .ok (.iadd, 1) := by decide +kernel
theorem d_asN_11 : decode prog_15_method_32_code 11 = .ok (.istore_n 3, 1) := by decide +kernel
theorem d_asN_12 : decode prog_15_method_32_code 12 = .ok (.aload_n 0, 1) := by decide +kernel
theorem d_asN_13 : decode prog_15_method_32_code 13 = .ok (.iload_n 3, 1) := by decide +kernel
theorem d_asN_14 : decode prog_15_method_32_code 14 = .ok (.invokevirtual 100, 3) := by decide +kernel
theorem d_asN_17 : decode prog_15_method_32_code 17 = .ok (.aload_n 0, 1) := by decide +kernel
theorem d_asN_18 : decode prog_15_method_32_code 18 = .ok (.invokevirtual 83, 3) := by decide +kernel
theorem d_asN_21 : decode prog_15_method_32_code 21 = .ok (.ifCond .eq 16, 3) := by decide +kernel
theorem d_asN_24 : decode prog_15_method_32_code 24 = .ok (.iload_n 1, 1) := by decide +kernel
theorem d_asN_25 : decode prog_15_method_32_code 25 = .ok (.iload_n 3, 1) := by decide +kernel
theorem d_asN_26 : decode prog_15_method_32_code 26 = .ok (.aload_n 0, 1) := by decide +kernel
theorem d_asN_27 : decode prog_15_method_32_code 27 = .ok (.getfield 15, 3) := by decide +kernel
theorem d_asN_30 : decode prog_15_method_32_code 30 = .ok (.invokestatic 248, 3) := by decide +kernel
theorem d_asN_33 : decode prog_15_method_32_code 33 = .ok (.pop, 1) := by decide +kernel
theorem d_asN_34 : decode prog_15_method_32_code 34 = .ok (.goto 14, 3) := by decide +kernel
theorem d_asN_48 : decode prog_15_method_32_code 48 = .ok (.aload_n 0, 1) := by decide +kernel
theorem d_asN_49 : decode prog_15_method_32_code 49 = .ok (.iload_n 3, 1) := by decide +kernel
theorem d_asN_50 : decode prog_15_method_32_code 50 = .ok (.putfield 79, 3) := by decide +kernel
theorem d_asN_53 : decode prog_15_method_32_code 53 = .ok (.aload_n 0, 1) := by decide +kernel
theorem d_asN_54 : decode prog_15_method_32_code 54 = .ok (.areturn, 1) := by decide +kernel
theorem d_asE_0 : decode prog_15_method_9_code 0 = .ok (.aload_n 0, 1) := by decide +kernel
theorem d_asE_1 : decode prog_15_method_9_code 1 = .ok (.getfield 15, 3) := by decide +kernel
theorem d_asE_4 : decode prog_15_method_9_code 4 = .ok (.arraylength, 1) := by decide +kernel
theorem d_asE_5 : decode prog_15_method_9_code 5 = .ok (.aload_n 0, 1) := by decide +kernel
theorem d_asE_6 : decode prog_15_method_9_code 6 = .ok (.getfield 22, 3) := by decide +kernel
theorem d_asE_9 : decode prog_15_method_9_code 9 = .ok (.ishr, 1) := by decide +kernel
theorem d_asE_10 : decode prog_15_method_9_code 10 = .ok (.istore_n 2, 1) := by decide +kernel
theorem d_asE_11 : decode prog_15_method_9_code 11 = .ok (.iload_n 1, 1) := by decide +kernel
theorem d_asE_12 : decode prog_15_method_9_code 12 = .ok (.iload_n 2, 1) := by decide +kernel
theorem d_asE_13 : decode prog_15_method_9_code 13 = .ok (.isub, 1) := by decide +kernel
theorem d_asE_14 : decode prog_15_method_9_code 14 = .ok (.ifCond .le 24, 3) := by decide +kernel
theorem d_asE_17 : decode prog_15_method_9_code 17 = .ok (.aload_n 0, 1) := by decide +kernel
theorem d_asE_18 : decode prog_15_method_9_code 18 = .ok (.aload_n 0, 1) := by decide +kernel
theorem d_asE_19 : decode prog_15_method_9_code 19 = .ok (.getfield 15, 3) := by decide +kernel
theorem d_asE_22 : decode prog_15_method_9_code 22 = .ok (.aload_n 0, 1) := by decide +kernel
theorem d_asE_23 : decode prog_15_method_9_code 23 = .ok (.iload_n 1, 1) := by decide +kernel
theorem d_asE_24 : decode prog_15_method_9_code 24 = .ok (.invokevirtual 104, 3) := by decide +kernel
theorem d_asE_27 : decode prog_15_method_9_code 27 = .ok (.aload_n 0, 1) := by decide +kernel
theorem d_asE_28 : decode prog_15_method_9_code 28 = .ok (.getfield 22, 3) := by decide +kernel
theorem d_asE_31 : decode prog_15_method_9_code 31 = .ok (.ishl, 1) := by decide +kernel
theorem d_asE_32 : decode prog_15_method_9_code 32 = .ok (.invokestatic 108, 3) := by decide +kernel
theorem d_asE_35 : decode prog_15_method_9_code 35 = .ok (.putfield 15, 3) := by decide +kernel
theorem d_asE_38 : decode prog_15_method_9_code 38 = .ok (.return_, 1) := by decide +kernel
theorem d_asW_0 : decode prog_15_method_10_code 0 = .ok (.aload_n 0, 1) := by decide +kernel
theorem d_asW_1 : decode prog_15_method_10_code 1 = .ok (.getfield 15, 3) := by decide +kernel
theorem d_asW_4 : decode prog_15_method_10_code 4 = .ok (.arraylength, 1) := by decide +kernel
theorem d_asW_5 : decode prog_15_method_10_code 5 = .ok (.istore_n 2, 1) := by decide +kernel
theorem d_asW_6 : decode prog_15_method_10_code 6 = .ok (.iload_n 1, 1) := by decide +kernel
theorem d_asW_7 : decode prog_15_method_10_code 7 = .ok (.aload_n 0, 1) := by decide +kernel
theorem d_asW_8 : decode prog_15_method_10_code 8 = .ok (.getfield 22, 3) := by decide +kernel
theorem d_asW_11 : decode prog_15_method_10_code 11 = .ok (.ishl, 1) := by decide +kernel
theorem d_asW_12 : decode prog_15_method_10_code 12 = .ok (.istore_n 3, 1) := by decide +kernel
theorem d_asW_13 : decode prog_15_method_10_code 13 = .ok (.iload_n 3, 1) := by decide +kernel
theorem d_asW_14 : decode prog_15_method_10_code 14 = .ok (.iload_n 2, 1) := by decide +kernel
theorem d_asW_15 : decode prog_15_method_10_code 15 = .ok (.isub, 1) := by decide +kernel
theorem d_asW_16 : decode prog_15_method_10_code 16 = .ok (.istore 4, 2) := by decide +kernel
theorem d_asW_18 : decode prog_15_method_10_code 18 = .ok (.iload_n 2, 1) := by decide +kernel
theorem d_asW_19 : decode prog_15_method_10_code 19 = .ok (.iload 4, 2) := by decide +kernel
theorem d_asW_21 : decode prog_15_method_10_code 21 = .ok (.iload_n 2, 1) := by decide +kernel
theorem d_asW_22 : decode prog_15_method_10_code 22 = .ok (.iconst 2, 1) := by decide +kernel
theorem d_asW_23 : decode prog_15_method_10_code 23 = .ok (.aload_n 0, 1) := by decide +kernel
theorem d_asW_24 : decode prog_15_method_10_code 24 = .ok (.getfield 22, 3) := by decide +kernel
theorem d_asW_27 : decode prog_15_method_10_code 27 = .ok (.ishl, 1) := by decide +kernel
theorem d_asW_28 : decode prog_15_method_10_code 28 = .ok (.iadd, 1) := by decide +kernel
theorem d_asW_29 : decode prog_15_method_10_code 29 = .ok (.invokestatic 114, 3) := by decide +kernel
theorem d_asW_32 : decode prog_15_method_10_code 32 = .ok (.istore 5, 2) := by decide +kernel
theorem d_asW_34 : decode prog_15_method_10_code 34 = .ok (.iload 5, 2) := by decide +kernel
theorem d_asW_36 : decode prog_15_method_10_code 36 = .ok (.ldc 39, 2) := by decide +kernel
theorem d_asW_38 : decode prog_15_method_10_code 38 = .ok (.if_icmp .ne 13, 3) := by decide +kernel
theorem d_asW_51 : decode prog_15_method_10_code 51 = .ok (.iload 5, 2) := by decide +kernel
theorem d_asW_53 : decode prog_15_method_10_code 53 = .ok (.aload_n 0, 1) := by decide +kernel
theorem d_asW_54 : decode prog_15_method_10_code 54 = .ok (.getfield 22, 3) := by decide +kernel
theorem d_asW_57 : decode prog_15_method_10_code 57 = .ok (.ishr, 1) := by decide +kernel
theorem d_asW_58 : decode prog_15_method_10_code 58 = .ok (.ireturn, 1) := by decide +kernel
theorem d_as1_0 : decode prog_15_method_68_code 0 = .ok (.getstatic 18, 3) := by decide +kernel
theorem d_as1_3 : decode prog_15_method_68_code 3 = .ok (.ifCond .eq 14, 3) := by decide +kernel
theorem d_as1_6 : decode prog_15_method_68_code 6 = .ok (.aload_n 0, 1) := by decide +kernel
theorem d_as1_7 : decode prog_15_method_68_code 7 = .ok (.getfield 22, 3) := by decide +kernel
theorem d_as1_10 : decode prog_15_method_68_code 10 = .ok (.ifCond .ne 7, 3) := by decide +kernel
theorem d_as1_13 : decode prog_15_method_68_code 13 = .ok (.iconst 1, 1) := by decide +kernel
theorem d_as1_14 : decode prog_15_method_68_code 14 = .ok (.goto 4, 3) := by decide +kernel
theorem d_as1_17 : decode prog_15_method_68_code 17 = .ok (.iconst 0, 1) := by decide +kernel
theorem d_as1_18 : decode prog_15_method_68_code 18 = .ok (.ireturn, 1) := by decide +kernel
theorem d_asP_0 : decode prog_15_method_73_code 0 = .ok (.aload_n 0, 1) := by decide +kernel
theorem d_asP_1 : decode prog_15_method_73_code 1 = .ok (.aload_n 2, 1) := by decide +kernel
theorem d_asP_2 : decode prog_15_method_73_code 2 = .ok (.invokevirtual 397, 3) := by decide +kernel
theorem d_asP_5 : decode prog_15_method_73_code 5 = .ok (.aload_n 2, 1) := by decide +kernel
theorem d_asP_6 : decode prog_15_method_73_code 6 = .ok (.aload_n 0, 1) := by decide +kernel
theorem d_asP_7 : decode prog_15_method_73_code 7 = .ok (.getfield 15, 3) := by decide +kernel
theorem d_asP_10 : decode prog_15_method_73_code 10 = .ok (.iload_n 1, 1) := by decide +kernel
theorem d_asP_11 : decode prog_15_method_73_code 11 = .ok (.aload_n 0, 1) := by decide +kernel
theorem d_asP_12 : decode prog_15_method_73_code 12 = .ok (.getfield 22, 3) := by decide +kernel
theorem d_asP_15 : decode prog_15_method_73_code 15 = .ok (.invokevirtual 399, 3) := by decide +kernel
theorem d_asP_18 : decode prog_15_method_73_code 18 = .ok (.return_, 1) := by decide +kernel
theorem d_asF_0 : decode prog_15_method_71_code 0 = .ok (.getstatic 18, 3) := by decide +kernel
theorem d_asF_3 : decode prog_15_method_71_code 3 = .ok (.ifCond .eq 18, 3) := by decide +kernel
theorem d_asF_6 : decode prog_15_method_71_code 6 = .ok (.aload_n 0, 1) := by decide +kernel
theorem d_asF_7 : decode prog_15_method_71_code 7 = .ok (.getfield 22, 3) := by decide +kernel
theorem d_asF_10 : decode prog_15_method_71_code 10 = .ok (.aload_n 1, 1) := by decide +kernel
theorem d_asF_11 : decode prog_15_method_71_code 11 = .ok (.invokevirtual 40, 3) := by decide +kernel
theorem d_asF_14 : decode prog_15_method_71_code 14 = .ok (.if_icmp .eq 7, 3) := by decide +kernel
theorem d_asF_21 : decode prog_15_method_71_code 21 = .ok (.return_, 1) := by decide +kernel
theorem d_asV_0 : decode prog_15_method_64_code 0 = .ok (.aload_n 0, 1) := by decide +kernel
theorem d_asV_1 : decode prog_15_method_64_code 1 = .ok (.getfield 15, 3) := by decide +kernel
theorem d_asV_4 : decode prog_15_method_64_code 4 = .ok (.areturn, 1) := by decide +kernel
theorem d_asL_0 : decode prog_15_method_6_code 0 = .ok (.aload_n 0, 1) := by decide +kernel
theorem d_asL_1 : decode prog_15_method_6_code 1 = .ok (.getfield 79, 3) := by decide +kernel
theorem d_asL_4 : decode prog_15_method_6_code 4 = .ok (.ireturn, 1) := by decide +kernel
theorem d_stI_0 : decode prog_32_method_53_code 0 = .ok (.aload_n 0, 1) := by decide +kernel
theorem d_stI_1 : decode prog_32_method_53_code 1 = .ok (.aload_n 1, 1) := by decide +kernel
theorem d_stI_2 : decode prog_32_method_53_code 2 = .ok (.aconst_null, 1) := by decide +kernel
theorem d_stI_3 : decode prog_32_method_53_code 3 = .ok (.invokespecial 489, 3) := by decide +kernel
theorem d_stI_6 : decode prog_32_method_53_code 6 = .ok (.return_, 1) := by decide +kernel
theorem d_stB_0 : decode prog_32_method_150_code 0 = .ok (.aload_n 0, 1) := by decide +kernel
theorem d_stB_1 : decode prog_32_method_150_code 1 = .ok (.invokespecial 1, 3) := by decide +kernel
theorem d_stB_4 : decode prog_32_method_150_code 4 = .ok (.aload_n 1, 1) := by decide +kernel
theorem d_stB_5 : decode prog_32_method_150_code 5 = .ok (.invokevirtual 552, 3) := by decide +kernel
theorem d_stB_8 : decode prog_32_method_150_code 8 = .ok (.astore_n 3, 1) := by decide +kernel
theorem d_stB_9 : decode prog_32_method_150_code 9 = .ok (.aload_n 1, 1) := by decide +kernel
theorem d_stB_10 : decode prog_32_method_150_code 10 = .ok (.invokevirtual 549, 3) := by decide +kernel
theorem d_stB_13 : decode prog_32_method_150_code 13 = .ok (.istore 4, 2) := by decide +kernel
theorem d_stB_15 : decode prog_32_method_150_code 15 = .ok (.aload_n 1, 1) := by decide +kernel
theorem d_stB_16 : decode prog_32_method_150_code 16 = .ok (.invokevirtual 1047, 3) := by decide +kernel
theorem d_stB_19 : decode prog_32_method_150_code 19 = .ok (.ifCond .eq 22, 3) := by decide +kernel
theorem d_stB_22 : decode prog_32_method_150_code 22 = .ok (.aload_n 0, 1) := by decide +kernel
theorem d_stB_23 : decode prog_32_method_150_code 23 = .ok (.iconst 0, 1) := by decide +kernel
theorem d_stB_24 : decode prog_32_method_150_code 24 = .ok (.putfield 15, 3) := by decide +kernel
theorem d_stB_27 : decode prog_32_method_150_code 27 = .ok (.aload_n 0, 1) := by decide +kernel
theorem d_stB_28 : decode prog_32_method_150_code 28 = .ok (.aload_n 3, 1) := by decide +kernel
theorem d_stB_29 : decode prog_32_method_150_code 29 = .ok (.iconst 0, 1) := by decide +kernel
theorem d_stB_30 : decode prog_32_method_150_code 30 = .ok (.iload 4, 2) := by decide +kernel
theorem d_stB_32 : decode prog_32_method_150_code 32 = .ok (.invokestatic 54, 3) := by decide +kernel
theorem d_stB_35 : decode prog_32_method_150_code 35 = .ok (.putfield 9, 3) := by decide +kernel
theorem d_stB_38 : decode prog_32_method_150_code 38 = .ok (.goto 59, 3) := by decide +kernel
theorem d_stB_97 : decode prog_32_method_150_code 97 = .ok (.return_, 1) := by decide +kernel
theorem d_stL_0 : decode prog_32_method_54_code 0 = .ok (.aload_n 0, 1) := by decide +kernel
theorem d_stL_1 : decode prog_32_method_54_code 1 = .ok (.getfield 9, 3) := by decide +kernel
theorem d_stL_4 : decode prog_32_method_54_code 4 = .ok (.arraylength, 1) := by decide +kernel
theorem d_stL_5 : decode prog_32_method_54_code 5 = .ok (.aload_n 0, 1) := by decide +kernel
theorem d_stL_6 : decode prog_32_method_54_code 6 = .ok (.invokevirtual 335, 3) := by decide +kernel
theorem d_stL_9 : decode prog_32_method_54_code 9 = .ok (.ishr, 1) := by decide +kernel
theorem d_stL_10 : decode prog_32_method_54_code 10 = .ok (.ireturn, 1) := by decide +kernel
theorem d_stA_0 : decode prog_32_method_56_code 0 = .ok (.aload_n 0, 1) := by decide +kernel
theorem d_stA_1 : decode prog_32_method_56_code 1 = .ok (.invokevirtual 492, 3) := by decide +kernel
theorem d_stA_4 : decode prog_32_method_56_code 4 = .ok (.ifCond .eq 12, 3) := by decide +kernel
theorem d_stA_7 : decode prog_32_method_56_code 7 = .ok (.aload_n 0, 1) := by decide +kernel
theorem d_stA_8 : decode prog_32_method_56_code 8 = .ok (.getfield 9, 3) := by decide +kernel
theorem d_stA_11 : decode prog_32_method_56_code 11 = .ok (.iload_n 1, 1) := by decide +kernel
theorem d_stA_12 : decode prog_32_method_56_code 12 = .ok (.invokestatic 495, 3) := by decide +kernel
theorem d_stA_15 : decode prog_32_method_56_code 15 = .ok (.ireturn, 1) := by decide +kernel
theorem d_stG_0 : decode prog_32_method_147_code 0 = .ok (.aload_n 0, 1) := by decide +kernel
theorem d_stG_1 : decode prog_32_method_147_code 1 = .ok (.invokevirtual 335, 3) := by decide +kernel
theorem d_stG_4 : decode prog_32_method_147_code 4 = .ok (.iload_n 3, 1) := by decide +kernel
theorem d_stG_5 : decode prog_32_method_147_code 5 = .ok (.if_icmp .ne 23, 3) := by decide +kernel
theorem d_stG_8 : decode prog_32_method_147_code 8 = .ok (.aload_n 0, 1) := by decide +kernel
theorem d_stG_9 : decode prog_32_method_147_code 9 = .ok (.getfield 9, 3) := by decide +kernel
theorem d_stG_12 : decode prog_32_method_147_code 12 = .ok (.iconst 0, 1) := by decide +kernel
theorem d_stG_13 : decode prog_32_method_147_code 13 = .ok (.aload_n 1, 1) := by decide +kernel
theorem d_stG_14 : decode prog_32_method_147_code 14 = .ok (.iload_n 2, 1) := by decide +kernel
theorem d_stG_15 : decode prog_32_method_147_code 15 = .ok (.iload_n 3, 1) := by decide +kernel
theorem d_stG_16 : decode prog_32_method_147_code 16 = .ok (.ishl, 1) := by decide +kernel
theorem d_stG_17 : decode prog_32_method_147_code 17 = .ok (.aload_n 0, 1) := by decide +kernel
theorem d_stG_18 : decode prog_32_method_147_code 18 = .ok (.getfield 9, 3) := by decide +kernel
theorem d_stG_21 : decode prog_32_method_147_code 21 = .ok (.arraylength, 1) := by decide +kernel
theorem d_stG_22 : decode prog_32_method_147_code 22 = .ok (.invokestatic 212, 3) := by decide +kernel
theorem d_stG_25 : decode prog_32_method_147_code 25 = .ok (.goto 18, 3) := by decide +kernel
theorem d_stG_28 : decode prog_32_method_147_code 28 = .ok (.aload_n 0, 1) := by decide +kernel
theorem d_stG_29 : decode prog_32_method_147_code 29 = .ok (.getfield 9, 3) := by decide +kernel
theorem d_stG_32 : decode prog_32_method_147_code 32 = .ok (.iconst 0, 1) := by decide +kernel
theorem d_stG_33 : decode prog_32_method_147_code 33 = .ok (.aload_n 1, 1) := by decide +kernel
theorem d_stG_34 : decode prog_32_method_147_code 34 = .ok (.iload_n 2, 1) := by decide +kernel
theorem d_stG_35 : decode prog_32_method_147_code 35 = .ok (.aload_n 0, 1) := by decide +kernel
theorem d_stG_36 : decode prog_32_method_147_code 36 = .ok (.getfield 9, 3) := by decide +kernel
theorem d_stG_39 : decode prog_32_method_147_code 39 = .ok (.arraylength, 1) := by decide +kernel
theorem d_stG_40 : decode prog_32_method_147_code 40 = .ok (.invokestatic 106, 3) := by decide +kernel
theorem d_stG_43 : decode prog_32_method_147_code 43 = .ok (.return_, 1) := by decide +kernel
theorem d_stD_0 : decode prog_32_method_152_code 0 = .ok (.getstatic 38, 3) := by decide +kernel
theorem d_stD_3 : decode prog_32_method_152_code 3 = .ok (.ifCond .eq 10, 3) := by decide +kernel
theorem d_stD_6 : decode prog_32_method_152_code 6 = .ok (.aload_n 0, 1) := by decide +kernel
theorem d_stD_7 : decode prog_32_method_152_code 7 = .ok (.getfield 15, 3) := by decide +kernel
theorem d_stD_10 : decode prog_32_method_152_code 10 = .ok (.goto 4, 3) := by decide +kernel
theorem d_stD_13 : decode prog_32_method_152_code 13 = .ok (.iconst 1, 1) := by decide +kernel
theorem d_stD_14 : decode prog_32_method_152_code 14 = .ok (.ireturn, 1) := by decide +kernel
theorem d_st1_0 : decode prog_32_method_154_code 0 = .ok (.getstatic 38, 3) := by decide +kernel
theorem d_st1_3 : decode prog_32_method_154_code 3 = .ok (.ifCond .eq 14, 3) := by decide +kernel
theorem d_st1_6 : decode prog_32_method_154_code 6 = .ok (.aload_n 0, 1) := by decide +kernel
theorem d_st1_7 : decode prog_32_method_154_code 7 = .ok (.getfield 15, 3) := by decide +kernel
theorem d_st1_10 : decode prog_32_method_154_code 10 = .ok (.ifCond .ne 7, 3) := by decide +kernel
theorem d_st1_13 : decode prog_32_method_154_code 13 = .ok (.iconst 1, 1) := by decide +kernel
theorem d_st1_14 : decode prog_32_method_154_code 14 = .ok (.goto 4, 3) := by decide +kernel
theorem d_st1_17 : decode prog_32_method_154_code 17 = .ok (.iconst 0, 1) := by decide +kernel
theorem d_st1_18 : decode prog_32_method_154_code 18 = .ok (.ireturn, 1) := by decide +kernel
theorem d_stX_0 : decode prog_32_method_155_code 0 = .ok (.iload_n 0, 1) := by decide +kernel
theorem d_stX_1 : decode prog_32_method_155_code 1 = .ok (.iload_n 1, 1) := by decide +kernel
theorem d_stX_2 : decode prog_32_method_155_code 2 = .ok (.getstatic 1053, 3) := by decide +kernel
theorem d_stX_5 : decode prog_32_method_155_code 5 = .ok (.invokestatic 1059, 3) := by decide +kernel
theorem d_stX_8 : decode prog_32_method_155_code 8 = .ok (.pop, 1) := by decide +kernel
theorem d_stX_9 : decode prog_32_method_155_code 9 = .ok (.return_, 1) := by decide +kernel
theorem d_l1E_0 : decode prog_34_method_3_code 0 = .ok (.iload_n 0, 1) := by decide +kernel
theorem d_l1E_1 : decode prog_34_method_3_code 1 = .ok (.sipush 255, 3) := by decide +kernel
theorem d_l1E_4 : decode prog_34_method_3_code 4 = .ok (.if_icmp .gt 7, 3) := by decide +kernel
theorem d_l1E_7 : decode prog_34_method_3_code 7 = .ok (.iconst 1, 1) := by decide +kernel
theorem d_l1E_8 : decode prog_34_method_3_code 8 = .ok (.goto 4, 3) := by decide +kernel
theorem d_l1E_11 : decode prog_34_method_3_code 11 = .ok (.iconst 0, 1) := by decide +kernel
theorem d_l1E_12 : decode prog_34_method_3_code 12 = .ok (.ireturn, 1) := by decide +kernel
theorem d_l1A_0 : decode prog_34_method_2_code 0 = .ok (.iload_n 1, 1) := by decide +kernel
theorem d_l1A_1 : decode prog_34_method_2_code 1 = .ok (.aload_n 0, 1) := by decide +kernel
theorem d_l1A_2 : decode prog_34_method_2_code 2 = .ok (.arraylength, 1) := by decide +kernel
theorem d_l1A_3 : decode prog_34_method_2_code 3 = .ok (.invokestatic 9, 3) := by decide +kernel
theorem d_l1A_6 : decode prog_34_method_2_code 6 = .ok (.aload_n 0, 1) := by decide +kernel
theorem d_l1A_7 : decode prog_34_method_2_code 7 = .ok (.iload_n 1, 1) := by decide +kernel
theorem d_l1A_8 : decode prog_34_method_2_code 8 = .ok (.baload, 1) := by decide +kernel
theorem d_l1A_9 : decode prog_34_method_2_code 9 = .ok (.sipush 255, 3) := by decide +kernel
theorem d_l1A_12 : decode prog_34_method_2_code 12 = .ok (.iand, 1) := by decide +kernel
theorem d_l1A_13 : decode prog_34_method_2_code 13 = .ok (.i2c, 1) := by decide +kernel
theorem d_l1A_14 : decode prog_34_method_2_code 14 = .ok (.ireturn, 1) := by decide +kernel
theorem d_inS_0 : decode prog_27_method_13_code 0 = .ok (.iconst 1, 1) := by decide +kernel
theorem d_inS_1 : decode prog_27_method_13_code 1 = .ok (.istore_n 1, 1) := by decide +kernel
theorem d_inS_2 : decode prog_27_method_13_code 2 = .ok (.iload_n 0, 1) := by decide +kernel
theorem d_inS_3 : decode prog_27_method_13_code 3 = .ok (.ifCond .lt 8, 3) := by decide +kernel
theorem d_inS_6 : decode prog_27_method_13_code 6 = .ok (.iconst 0, 1) := by decide +kernel
theorem d_inS_7 : decode prog_27_method_13_code 7 = .ok (.istore_n 1, 1) := by decide +kernel
theorem d_inS_8 : decode prog_27_method_13_code 8 = .ok (.iload_n 0, 1) := by decide +kernel
theorem d_inS_9 : decode prog_27_method_13_code 9 = .ok (.ineg, 1) := by decide +kernel
theorem d_inS_10 : decode prog_27_method_13_code 10 = .ok (.istore_n 0, 1) := by decide +kernel
theorem d_inS_11 : decode prog_27_method_13_code 11 = .ok (.bipush (-10), 2) := by decide +kernel
theorem d_inS_13 : decode prog_27_method_13_code 13 = .ok (.istore_n 2, 1) := by decide +kernel
theorem d_inS_14 : decode prog_27_method_13_code 14 = .ok (.iconst 1, 1) := by decide +kernel
theorem d_inS_15 : decode prog_27_method_13_code 15 = .ok (.istore_n 3, 1) := by decide +kernel
theorem d_inS_16 : decode prog_27_method_13_code 16 = .ok (.iload_n 3, 1) := by decide +kernel
theorem d_inS_17 : decode prog_27_method_13_code 17 = .ok (.bipush 10, 2) := by decide +kernel
theorem d_inS_19 : decode prog_27_method_13_code 19 = .ok (.if_icmp .ge 23, 3) := by decide +kernel
theorem d_inS_22 : decode prog_27_method_13_code 22 = .ok (.iload_n 0, 1) := by decide +kernel
theorem d_inS_23 : decode prog_27_method_13_code 23 = .ok (.iload_n 2, 1) := by decide +kernel
theorem d_inS_24 : decode prog_27_method_13_code 24 = .ok (.if_icmp .le 7, 3) := by decide +kernel
theorem d_inS_27 : decode prog_27_method_13_code 27 = .ok (.iload_n 3, 1) := by decide +kernel
theorem d_inS_28 : decode prog_27_method_13_code 28 = .ok (.iload_n 1, 1) := by decide +kernel
theorem d_inS_29 : decode prog_27_method_13_code 29 = .ok (.iadd, 1) := by decide +kernel
theorem d_inS_30 : decode prog_27_method_13_code 30 = .ok (.ireturn, 1) := by decide +kernel
theorem d_inS_31 : decode prog_27_method_13_code 31 = .ok (.bipush 10, 2) := by decide +kernel
theorem d_inS_33 : decode prog_27_method_13_code 33 = .ok (.iload_n 2, 1) := by decide +kernel
theorem d_inS_34 : decode prog_27_method_13_code 34 = .ok (.imul, 1) := by decide +kernel
theorem d_inS_35 : decode prog_27_method_13_code 35 = .ok (.istore_n 2, 1) := by decide +kernel
theorem d_inS_36 : decode prog_27_method_13_code 36 = .ok (.iinc 3 1, 3) := by decide +kernel
theorem d_inS_39 : decode prog_27_method_13_code 39 = .ok (.goto (-23), 3) := by decide +kernel
theorem d_inS_42 : decode prog_27_method_13_code 42 = .ok (.bipush 10, 2) := by decide +kernel
theorem d_inS_44 : decode prog_27_method_13_code 44 = .ok (.iload_n 1, 1) := by decide +kernel
theorem d_inS_45 : decode prog_27_method_13_code 45 = .ok (.iadd, 1) := by decide +kernel
theorem d_inS_46 : decode prog_27_method_13_code 46 = .ok (.ireturn, 1) := by decide +kernel
theorem d_inG_0 : decode prog_27_method_12_code 0 = .ok (.iload_n 1, 1) := by decide +kernel
theorem d_inG_1 : decode prog_27_method_12_code 1 = .ok (.istore 5, 2) := by decide +kernel
theorem d_inG_3 : decode prog_27_method_12_code 3 = .ok (.iload_n 0, 1) := by decide +kernel
theorem d_inG_4 : decode prog_27_method_12_code 4 = .ok (.ifCond .ge 7, 3) := by decide +kernel
theorem d_inG_7 : decode prog_27_method_12_code 7 = .ok (.iconst 1, 1) := by decide +kernel
theorem d_inG_8 : decode prog_27_method_12_code 8 = .ok (.goto 4, 3) := by decide +kernel
theorem d_inG_11 : decode prog_27_method_12_code 11 = .ok (.iconst 0, 1) := by decide +kernel
theorem d_inG_12 : decode prog_27_method_12_code 12 = .ok (.istore 6, 2) := by decide +kernel
theorem d_inG_14 : decode prog_27_method_12_code 14 = .ok (.iload 6, 2) := by decide +kernel
theorem d_inG_16 : decode prog_27_method_12_code 16 = .ok (.ifCond .ne 6, 3) := by decide +kernel
theorem d_inG_19 : decode prog_27_method_12_code 19 = .ok (.iload_n 0, 1) := by decide +kernel
theorem d_inG_20 : decode prog_27_method_12_code 20 = .ok (.ineg, 1) := by decide +kernel
theorem d_inG_21 : decode prog_27_method_12_code 21 = .ok (.istore_n 0, 1) := by decide +kernel
theorem d_inG_22 : decode prog_27_method_12_code 22 = .ok (.iload_n 0, 1) := by decide +kernel
theorem d_inG_23 : decode prog_27_method_12_code 23 = .ok (.bipush (-100), 2) := by decide +kernel
theorem d_inG_25 : decode prog_27_method_12_code 25 = .ok (.if_icmp .gt 47, 3) := by decide +kernel
theorem d_inG_72 : decode prog_27_method_12_code 72 = .ok (.aload_n 2, 1) := by decide +kernel
theorem d_inG_73 : decode prog_27_method_12_code 73 = .ok (.iinc 5 (-1), 3) := by decide +kernel
theorem d_inG_76 : decode prog_27_method_12_code 76 = .ok (.iload 5, 2) := by decide +kernel
theorem d_inG_78 : decode prog_27_method_12_code 78 = .ok (.getstatic 83, 3) := by decide +kernel
theorem d_inG_81 : decode prog_27_method_12_code 81 = .ok (.iload_n 0, 1) := by decide +kernel
theorem d_inG_82 : decode prog_27_method_12_code 82 = .ok (.ineg, 1) := by decide +kernel
theorem d_inG_83 : decode prog_27_method_12_code 83 = .ok (.baload, 1) := by decide +kernel
theorem d_inG_84 : decode prog_27_method_12_code 84 = .ok (.bastore, 1) := by decide +kernel
theorem d_inG_85 : decode prog_27_method_12_code 85 = .ok (.iload_n 0, 1) := by decide +kernel
theorem d_inG_86 : decode prog_27_method_12_code 86 = .ok (.bipush (-9), 2) := by decide +kernel
theorem d_inG_88 : decode prog_27_method_12_code 88 = .ok (.if_icmp .ge 16, 3) := by decide +kernel
theorem d_inG_91 : decode prog_27_method_12_code 91 = .ok (.aload_n 2, 1) := by decide +kernel
theorem d_inG_92 : decode prog_27_method_12_code 92 = .ok (.iinc 5 (-1), 3) := by decide +kernel
theorem d_inG_95 : decode prog_27_method_12_code 95 = .ok (.iload 5, 2) := by decide +kernel
theorem d_inG_97 : decode prog_27_method_12_code 97 = .ok (.getstatic 87, 3) := by decide +kernel
theorem d_inG_100 : decode prog_27_method_12_code 100 = .ok (.iload_n 0, 1) := by decide +kernel
theorem d_inG_101 : decode prog_27_method_12_code 101 = .ok (.ineg, 1) := by decide +kernel
theorem d_inG_102 : decode prog_27_method_12_code 102 = .ok (.baload, 1) := by decide +kernel
theorem d_inG_103 : decode prog_27_method_12_code 103 = .ok (.bastore, 1) := by decide +kernel
theorem d_inG_104 : decode prog_27_method_12_code 104 = .ok (.iload 6, 2) := by decide +kernel
theorem d_inG_106 : decode prog_27_method_12_code 106 = .ok (.ifCond .eq 12, 3) := by decide +kernel
theorem d_inG_109 : decode prog_27_method_12_code 109 = .ok (.aload_n 2, 1) := by decide +kernel
theorem d_inG_110 : decode prog_27_method_12_code 110 = .ok (.iinc 5 (-1), 3) := by decide +kernel
theorem d_inG_113 : decode prog_27_method_12_code 113 = .ok (.iload 5, 2) := by decide +kernel
theorem d_inG_115 : decode prog_27_method_12_code 115 = .ok (.bipush 45, 2) := by decide +kernel
theorem d_inG_117 : decode prog_27_method_12_code 117 = .ok (.bastore, 1) := by decide +kernel
theorem d_inG_118 : decode prog_27_method_12_code 118 = .ok (.iload 5, 2) := by decide +kernel
theorem d_inG_120 : decode prog_27_method_12_code 120 = .ok (.ireturn, 1) := by decide +kernel
theorem d_arO_0 : decode prog_40_method_121_code 0 = .ok (.iload_n 1, 1) := by decide +kernel
theorem d_arO_1 : decode prog_40_method_121_code 1 = .ok (.aload_n 0, 1) := by decide +kernel
theorem d_arO_2 : decode prog_40_method_121_code 2 = .ok (.arraylength, 1) := by decide +kernel
theorem d_arO_3 : decode prog_40_method_121_code 3 = .ok (.if_icmp .ne 11, 3) := by decide +kernel
theorem d_arO_14 : decode prog_40_method_121_code 14 = .ok (.iload_n 1, 1) := by decide +kernel
theorem d_arO_15 : decode prog_40_method_121_code 15 = .ok (.newarray .byte, 2) := by decide +kernel
theorem d_arO_17 : decode prog_40_method_121_code 17 = .ok (.astore_n 2, 1) := by decide +kernel
theorem d_arO_18 : decode prog_40_method_121_code 18 = .ok (.aload_n 0, 1) := by decide +kernel
theorem d_arO_19 : decode prog_40_method_121_code 19 = .ok (.iconst 0, 1) := by decide +kernel
theorem d_arO_20 : decode prog_40_method_121_code 20 = .ok (.aload_n 2, 1) := by decide +kernel
theorem d_arO_21 : decode prog_40_method_121_code 21 = .ok (.iconst 0, 1) := by decide +kernel
theorem d_arO_22 : decode prog_40_method_121_code 22 = .ok (.aload_n 0, 1) := by decide +kernel
theorem d_arO_23 : decode prog_40_method_121_code 23 = .ok (.arraylength, 1) := by decide +kernel
theorem d_arO_24 : decode prog_40_method_121_code 24 = .ok (.iload_n 1, 1) := by decide +kernel
theorem d_arO_25 : decode prog_40_method_121_code 25 = .ok (.invokestatic 304, 3) := by decide +kernel
theorem d_arO_28 : decode prog_40_method_121_code 28 = .ok (.invokestatic 150, 3) := by decide +kernel
theorem d_arO_31 : decode prog_40_method_121_code 31 = .ok (.aload_n 2, 1) := by decide +kernel
theorem d_arO_32 : decode prog_40_method_121_code 32 = .ok (.areturn, 1) := by decide +kernel
theorem d_arR_0 : decode prog_40_method_132_code 0 = .ok (.iload_n 1, 1) := by decide +kernel
theorem d_arR_1 : decode prog_40_method_132_code 1 = .ok (.ifCond .ne 9, 3) := by decide +kernel
theorem d_arR_4 : decode prog_40_method_132_code 4 = .ok (.iload_n 2, 1) := by decide +kernel
theorem d_arR_5 : decode prog_40_method_132_code 5 = .ok (.aload_n 0, 1) := by decide +kernel
theorem d_arR_6 : decode prog_40_method_132_code 6 = .ok (.arraylength, 1) := by decide +kernel
theorem d_arR_7 : decode prog_40_method_132_code 7 = .ok (.if_icmp .eq 10, 3) := by decide +kernel
theorem d_arR_10 : decode prog_40_method_132_code 10 = .ok (.aload_n 0, 1) := by decide +kernel
theorem d_arR_11 : decode prog_40_method_132_code 11 = .ok (.iload_n 1, 1) := by decide +kernel
theorem d_arR_12 : decode prog_40_method_132_code 12 = .ok (.iload_n 2, 1) := by decide +kernel
theorem d_arR_13 : decode prog_40_method_132_code 13 = .ok (.invokestatic 339, 3) := by decide +kernel
theorem d_arR_16 : decode prog_40_method_132_code 16 = .ok (.areturn, 1) := by decide +kernel
theorem d_arR_17 : decode prog_40_method_132_code 17 = .ok (.aload_n 0, 1) := by decide +kernel
theorem d_arR_18 : decode prog_40_method_132_code 18 = .ok (.invokevirtual 310, 3) := by decide +kernel
theorem d_arR_21 : decode prog_40_method_132_code 21 = .ok (.checkcast 311, 3) := by decide +kernel
theorem d_arR_24 : decode prog_40_method_132_code 24 = .ok (.areturn, 1) := by decide +kernel
theorem d_arB_0 : decode prog_40_method_133_code 0 = .ok (.iload_n 1, 1) := by decide +kernel
theorem d_arB_1 : decode prog_40_method_133_code 1 = .ok (.iload_n 2, 1) := by decide +kernel
theorem d_arB_2 : decode prog_40_method_133_code 2 = .ok (.invokestatic 343, 3) := by decide +kernel
theorem d_arB_5 : decode prog_40_method_133_code 5 = .ok (.iload_n 2, 1) := by decide +kernel
theorem d_arB_6 : decode prog_40_method_133_code 6 = .ok (.iload_n 1, 1) := by decide +kernel
theorem d_arB_7 : decode prog_40_method_133_code 7 = .ok (.isub, 1) := by decide +kernel
theorem d_arB_8 : decode prog_40_method_133_code 8 = .ok (.istore_n 3, 1) := by decide +kernel
theorem d_arB_9 : decode prog_40_method_133_code 9 = .ok (.iload_n 3, 1) := by decide +kernel
theorem d_arB_10 : decode prog_40_method_133_code 10 = .ok (.newarray .byte, 2) := by decide +kernel
theorem d_arB_12 : decode prog_40_method_133_code 12 = .ok (.astore 4, 2) := by decide +kernel
theorem d_arB_14 : decode prog_40_method_133_code 14 = .ok (.aload_n 0, 1) := by decide +kernel
theorem d_arB_15 : decode prog_40_method_133_code 15 = .ok (.iload_n 1, 1) := by decide +kernel
theorem d_arB_16 : decode prog_40_method_133_code 16 = .ok (.aload 4, 2) := by decide +kernel
theorem d_arB_18 : decode prog_40_method_133_code 18 = .ok (.iconst 0, 1) := by decide +kernel
theorem d_arB_19 : decode prog_40_method_133_code 19 = .ok (.aload_n 0, 1) := by decide +kernel
theorem d_arB_20 : decode prog_40_method_133_code 20 = .ok (.arraylength, 1) := by decide +kernel
theorem d_arB_21 : decode prog_40_method_133_code 21 = .ok (.iload_n 1, 1) := by decide +kernel
theorem d_arB_22 : decode prog_40_method_133_code 22 = .ok (.isub, 1) := by decide +kernel
theorem d_arB_23 : decode prog_40_method_133_code 23 = .ok (.iload_n 3, 1) := by decide +kernel
theorem d_arB_24 : decode prog_40_method_133_code 24 = .ok (.invokestatic 304, 3) := by decide +kernel
theorem d_arB_27 : decode prog_40_method_133_code 27 = .ok (.invokestatic 150, 3) := by decide +kernel
theorem d_arB_30 : decode prog_40_method_133_code 30 = .ok (.aload 4, 2) := by decide +kernel
theorem d_arB_32 : decode prog_40_method_133_code 32 = .ok (.areturn, 1) := by decide +kernel
theorem d_arK_0 : decode prog_40_method_131_code 0 = .ok (.iload_n 1, 1) := by decide +kernel
theorem d_arK_1 : decode prog_40_method_131_code 1 = .ok (.iload_n 0, 1) := by decide +kernel
theorem d_arK_2 : decode prog_40_method_131_code 2 = .ok (.if_icmp .ge 35, 3) := by decide +kernel
theorem d_arK_37 : decode prog_40_method_131_code 37 = .ok (.return_, 1) := by decide +kernel
theorem d_nlN_0 : decode prog_42_method_27_code 0 = .ok (.iload_n 0, 1) := by decide +kernel
theorem d_nlN_1 : decode prog_42_method_27_code 1 = .ok (.iload_n 1, 1) := by decide +kernel
theorem d_nlN_2 : decode prog_42_method_27_code 2 = .ok (.iload_n 2, 1) := by decide +kernel
theorem d_nlN_3 : decode prog_42_method_27_code 3 = .ok (.invokestatic 194, 3) := by decide +kernel
theorem d_nlN_6 : decode prog_42_method_27_code 6 = .ok (.iadd, 1) := by decide +kernel
theorem d_nlN_7 : decode prog_42_method_27_code 7 = .ok (.istore_n 3, 1) := by decide +kernel
theorem d_nlN_8 : decode prog_42_method_27_code 8 = .ok (.iconst 0, 1) := by decide +kernel
theorem d_nlN_9 : decode prog_42_method_27_code 9 = .ok (.iload_n 3, 1) := by decide +kernel
theorem d_nlN_10 : decode prog_42_method_27_code 10 = .ok (.if_icmp .ge 11, 3) := by decide +kernel
theorem d_nlN_13 : decode prog_42_method_27_code 13 = .ok (.iload_n 3, 1) := by decide +kernel
theorem d_nlN_14 : decode prog_42_method_27_code 14 = .ok (.ldc 200, 2) := by decide +kernel
theorem d_nlN_16 : decode prog_42_method_27_code 16 = .ok (.if_icmp .gt 5, 3) := by decide +kernel
theorem d_nlN_19 : decode prog_42_method_27_code 19 = .ok (.iload_n 3, 1) := by decide +kernel
theorem d_nlN_20 : decode prog_42_method_27_code 20 = .ok (.ireturn, 1) := by decide +kernel
theorem d_pcX_0 : decode prog_43_method_11_code 0 = .ok (.iload_n 0, 1) := by decide +kernel
theorem d_pcX_1 : decode prog_43_method_11_code 1 = .ok (.ifCond .lt 8, 3) := by decide +kernel
theorem d_pcX_4 : decode prog_43_method_11_code 4 = .ok (.iload_n 0, 1) := by decide +kernel
theorem d_pcX_5 : decode prog_43_method_11_code 5 = .ok (.iload_n 1, 1) := by decide +kernel
theorem d_pcX_6 : decode prog_43_method_11_code 6 = .ok (.if_icmp .lt 10, 3) := by decide +kernel
theorem d_pcX_16 : decode prog_43_method_11_code 16 = .ok (.iload_n 0, 1) := by decide +kernel
theorem d_pcX_17 : decode prog_43_method_11_code 17 = .ok (.ireturn, 1) := by decide +kernel
theorem d_lwT_0 : decode method_41_code 0 = .ok (.ldc 161, 2) := by decide +kernel
theorem d_lwT_2 : decode method_41_code 2 = .ok (.aload_n 0, 1) := by decide +kernel
theorem d_lwT_3 : decode method_41_code 3 = .ok (.iconst 1, 1) := by decide +kernel
theorem d_lwT_4 : decode method_41_code 4 = .ok (.iaload, 1) := by decide +kernel
theorem d_lwT_5 : decode method_41_code 5 = .ok (.invokevirtual 163, 3) := by decide +kernel
theorem d_lwT_8 : decode method_41_code 8 = .ok (.istore_n 1, 1) := by decide +kernel
theorem d_lwT_9 : decode method_41_code 9 = .ok (.ldc 161, 2) := by decide +kernel
theorem d_lwT_11 : decode method_41_code 11 = .ok (.aload_n 0, 1) := by decide +kernel
theorem d_lwT_12 : decode method_41_code 12 = .ok (.iconst 2, 1) := by decide +kernel
theorem d_lwT_13 : decode method_41_code 13 = .ok (.iaload, 1) := by decide +kernel
theorem d_lwT_14 : decode method_41_code 14 = .ok (.invokevirtual 163, 3) := by decide +kernel
theorem d_lwT_17 : decode method_41_code 17 = .ok (.istore_n 2, 1) := by decide +kernel
theorem d_lwT_18 : decode method_41_code 18 = .ok (.aload_n 0, 1) := by decide +kernel
theorem d_lwT_19 : decode method_41_code 19 = .ok (.iconst 0, 1) := by decide +kernel
theorem d_lwT_20 : decode method_41_code 20 = .ok (.iaload, 1) := by decide +kernel
theorem d_lwT_21 : decode method_41_code 21 = .ok (.tableswitch 195 0 5 #[39, 63, 87, 111, 140, 160], 39) := by decide +kernel
theorem d_lwT_60 : decode method_41_code 60 = .ok (.new 169, 3) := by decide +kernel
theorem d_lwT_63 : decode method_41_code 63 = .ok (.dup, 1) := by decide +kernel
theorem d_lwT_64 : decode method_41_code 64 = .ok (.invokespecial 171, 3) := by decide +kernel
theorem d_lwT_67 : decode method_41_code 67 = .ok (.iload_n 1, 1) := by decide +kernel
theorem d_lwT_68 : decode method_41_code 68 = .ok (.invokevirtual 172, 3) := by decide +kernel
theorem d_lwT_71 : decode method_41_code 71 = .ok (.ldc 176, 2) := by decide +kernel
theorem d_lwT_73 : decode method_41_code 73 = .ok (.invokevirtual 178, 3) := by decide +kernel
theorem d_lwT_76 : decode method_41_code 76 = .ok (.iload_n 2, 1) := by decide +kernel
theorem d_lwT_77 : decode method_41_code 77 = .ok (.invokevirtual 172, 3) := by decide +kernel
theorem d_lwT_80 : decode method_41_code 80 = .ok (.invokevirtual 181, 3) := by decide +kernel
theorem d_lwT_83 : decode method_41_code 83 = .ok (.areturn, 1) := by decide +kernel
theorem d_lwT_84 : decode method_41_code 84 = .ok (.new 169, 3) := by decide +kernel
theorem d_lwT_87 : decode method_41_code 87 = .ok (.dup, 1) := by decide +kernel
theorem d_lwT_88 : decode method_41_code 88 = .ok (.invokespecial 171, 3) := by decide +kernel
theorem d_lwT_91 : decode method_41_code 91 = .ok (.iload_n 1, 1) := by decide +kernel
theorem d_lwT_92 : decode method_41_code 92 = .ok (.invokevirtual 172, 3) := by decide +kernel
theorem d_lwT_95 : decode method_41_code 95 = .ok (.ldc 185, 2) := by decide +kernel
theorem d_lwT_97 : decode method_41_code 97 = .ok (.invokevirtual 178, 3) := by decide +kernel
theorem d_lwT_100 : decode method_41_code 100 = .ok (.iload_n 2, 1) := by decide +kernel
theorem d_lwT_101 : decode method_41_code 101 = .ok (.invokevirtual 172, 3) := by decide +kernel
theorem d_lwT_104 : decode method_41_code 104 = .ok (.invokevirtual 181, 3) := by decide +kernel
theorem d_lwT_107 : decode method_41_code 107 = .ok (.areturn, 1) := by decide +kernel
theorem d_lwT_108 : decode method_41_code 108 = .ok (.new 169, 3) := by decide +kernel
theorem d_lwT_111 : decode method_41_code 111 = .ok (.dup, 1) := by decide +kernel
theorem d_lwT_112 : decode method_41_code 112 = .ok (.invokespecial 171, 3) := by decide +kernel
theorem d_lwT_115 : decode method_41_code 115 = .ok (.iload_n 1, 1) := by decide +kernel
theorem d_lwT_116 : decode method_41_code 116 = .ok (.invokevirtual 172, 3) := by decide +kernel
theorem d_lwT_119 : decode method_41_code 119 = .ok (.ldc 187, 2) := by decide +kernel
theorem d_lwT_121 : decode method_41_code 121 = .ok (.invokevirtual 178, 3) := by decide +kernel
theorem d_lwT_124 : decode method_41_code 124 = .ok (.iload_n 2, 1) := by decide +kernel
theorem d_lwT_125 : decode method_41_code 125 = .ok (.invokevirtual 172, 3) := by decide +kernel
theorem d_lwT_128 : decode method_41_code 128 = .ok (.invokevirtual 181, 3) := by decide +kernel
theorem d_lwT_131 : decode method_41_code 131 = .ok (.areturn, 1) := by decide +kernel
theorem d_lwT_132 : decode method_41_code 132 = .ok (.new 169, 3) := by decide +kernel
theorem d_lwT_135 : decode method_41_code 135 = .ok (.dup, 1) := by decide +kernel
theorem d_lwT_136 : decode method_41_code 136 = .ok (.invokespecial 171, 3) := by decide +kernel
theorem d_lwT_139 : decode method_41_code 139 = .ok (.ldc 189, 2) := by decide +kernel
theorem d_lwT_141 : decode method_41_code 141 = .ok (.invokevirtual 178, 3) := by decide +kernel
theorem d_lwT_144 : decode method_41_code 144 = .ok (.iload_n 1, 1) := by decide +kernel
theorem d_lwT_145 : decode method_41_code 145 = .ok (.invokevirtual 172, 3) := by decide +kernel
theorem d_lwT_148 : decode method_41_code 148 = .ok (.ldc 185, 2) := by decide +kernel
theorem d_lwT_150 : decode method_41_code 150 = .ok (.invokevirtual 178, 3) := by decide +kernel
theorem d_lwT_153 : decode method_41_code 153 = .ok (.iload_n 2, 1) := by decide +kernel
theorem d_lwT_154 : decode method_41_code 154 = .ok (.invokevirtual 172, 3) := by decide +kernel
theorem d_lwT_157 : decode method_41_code 157 = .ok (.invokevirtual 181, 3) := by decide +kernel
theorem d_lwT_160 : decode method_41_code 160 = .ok (.areturn, 1) := by decide +kernel
theorem d_lwT_161 : decode method_41_code 161 = .ok (.new 169, 3) := by decide +kernel
theorem d_lwT_164 : decode method_41_code 164 = .ok (.dup, 1) := by decide +kernel
theorem d_lwT_165 : decode method_41_code 165 = .ok (.invokespecial 171, 3) := by decide +kernel
theorem d_lwT_168 : decode method_41_code 168 = .ok (.iload_n 1, 1) := by decide +kernel
theorem d_lwT_169 : decode method_41_code 169 = .ok (.invokevirtual 172, 3) := by decide +kernel
theorem d_lwT_172 : decode method_41_code 172 = .ok (.ldc 191, 2) := by decide +kernel
theorem d_lwT_174 : decode method_41_code 174 = .ok (.invokevirtual 178, 3) := by decide +kernel
theorem d_lwT_177 : decode method_41_code 177 = .ok (.invokevirtual 181, 3) := by decide +kernel
theorem d_lwT_180 : decode method_41_code 180 = .ok (.areturn, 1) := by decide +kernel
theorem d_lwT_181 : decode method_41_code 181 = .ok (.new 169, 3) := by decide +kernel
theorem d_lwT_184 : decode method_41_code 184 = .ok (.dup, 1) := by decide +kernel
theorem d_lwT_185 : decode method_41_code 185 = .ok (.invokespecial 171, 3) := by decide +kernel
theorem d_lwT_188 : decode method_41_code 188 = .ok (.iload_n 1, 1) := by decide +kernel
theorem d_lwT_189 : decode method_41_code 189 = .ok (.invokevirtual 172, 3) := by decide +kernel
theorem d_lwT_192 : decode method_41_code 192 = .ok (.ldc 185, 2) := by decide +kernel
theorem d_lwT_194 : decode method_41_code 194 = .ok (.invokevirtual 178, 3) := by decide +kernel
theorem d_lwT_197 : decode method_41_code 197 = .ok (.iload_n 2, 1) := by decide +kernel
theorem d_lwT_198 : decode method_41_code 198 = .ok (.invokevirtual 172, 3) := by decide +kernel
theorem d_lwT_201 : decode method_41_code 201 = .ok (.ldc 193, 2) := by decide +kernel
theorem d_lwT_203 : decode method_41_code 203 = .ok (.invokevirtual 178, 3) := by decide +kernel
theorem d_lwT_206 : decode method_41_code 206 = .ok (.aload_n 0, 1) := by decide +kernel
theorem d_lwT_207 : decode method_41_code 207 = .ok (.iconst 3, 1) := by decide +kernel
theorem d_lwT_208 : decode method_41_code 208 = .ok (.iaload, 1) := by decide +kernel
theorem d_lwT_209 : decode method_41_code 209 = .ok (.invokevirtual 195, 3) := by decide +kernel
theorem d_lwT_212 : decode method_41_code 212 = .ok (.invokevirtual 181, 3) := by decide +kernel
theorem d_lwT_215 : decode method_41_code 215 = .ok (.areturn, 1) := by decide +kernel
theorem d_lwT_216 : decode method_41_code 216 = .ok (.new 169, 3) := by decide +kernel
theorem d_lwT_219 : decode method_41_code 219 = .ok (.dup, 1) := by decide +kernel
theorem d_lwT_220 : decode method_41_code 220 = .ok (.invokespecial 171, 3) := by decide +kernel
theorem d_lwT_223 : decode method_41_code 223 = .ok (.iload_n 1, 1) := by decide +kernel
theorem d_lwT_224 : decode method_41_code 224 = .ok (.invokevirtual 172, 3) := by decide +kernel
theorem d_lwT_227 : decode method_41_code 227 = .ok (.ldc 198, 2) := by decide +kernel
theorem d_lwT_229 : decode method_41_code 229 = .ok (.invokevirtual 178, 3) := by decide +kernel
theorem d_lwT_232 : decode method_41_code 232 = .ok (.aload_n 0, 1) := by decide +kernel
theorem d_lwT_233 : decode method_41_code 233 = .ok (.iconst 3, 1) := by decide +kernel
theorem d_lwT_234 : decode method_41_code 234 = .ok (.iaload, 1) := by decide +kernel
theorem d_lwT_235 : decode method_41_code 235 = .ok (.invokevirtual 195, 3) := by decide +kernel
theorem d_lwT_238 : decode method_41_code 238 = .ok (.ldc 200, 2) := by decide +kernel
theorem d_lwT_240 : decode method_41_code 240 = .ok (.invokevirtual 178, 3) := by decide +kernel
theorem d_lwT_243 : decode method_41_code 243 = .ok (.iload_n 2, 1) := by decide +kernel
theorem d_lwT_244 : decode method_41_code 244 = .ok (.invokevirtual 172, 3) := by decide +kernel
theorem d_lwT_247 : decode method_41_code 247 = .ok (.ldc 202, 2) := by decide +kernel
theorem d_lwT_249 : decode method_41_code 249 = .ok (.invokevirtual 178, 3) := by decide +kernel
theorem d_lwT_252 : decode method_41_code 252 = .ok (.invokevirtual 181, 3) := by decide +kernel
theorem d_lwT_255 : decode method_41_code 255 = .ok (.areturn, 1) := by decide +kernel
theorem d_lwP_0 : decode method_42_code 0 = .ok (.iconst 0, 1) := by decide +kernel
theorem d_lwP_1 : decode method_42_code 1 = .ok (.istore_n 3, 1) := by decide +kernel
theorem d_lwP_2 : decode method_42_code 2 = .ok (.iload_n 3, 1) := by decide +kernel
theorem d_lwP_3 : decode method_42_code 3 = .ok (.aload_n 2, 1) := by decide +kernel
theorem d_lwP_4 : decode method_42_code 4 = .ok (.invokevirtual 204, 3) := by decide +kernel
theorem d_lwP_7 : decode method_42_code 7 = .ok (.if_icmp .ge 19, 3) := by decide +kernel
theorem d_lwP_10 : decode method_42_code 10 = .ok (.aload_n 0, 1) := by decide +kernel
theorem d_lwP_11 : decode method_42_code 11 = .ok (.aload_n 2, 1) := by decide +kernel
theorem d_lwP_12 : decode method_42_code 12 = .ok (.iload_n 3, 1) := by decide +kernel
theorem d_lwP_13 : decode method_42_code 13 = .ok (.invokevirtual 163, 3) := by decide +kernel
theorem d_lwP_16 : decode method_42_code 16 = .ok (.invokestatic 207, 3) := by decide +kernel
theorem d_lwP_19 : decode method_42_code 19 = .ok (.pop2, 1) := by decide +kernel
theorem d_lwP_20 : decode method_42_code 20 = .ok (.iinc 3 1, 3) := by decide +kernel
theorem d_lwP_23 : decode method_42_code 23 = .ok (.goto (-21), 3) := by decide +kernel
theorem d_lwP_26 : decode method_42_code 26 = .ok (.aload_n 0, 1) := by decide +kernel
theorem d_lwP_27 : decode method_42_code 27 = .ok (.iload_n 1, 1) := by decide +kernel
theorem d_lwP_28 : decode method_42_code 28 = .ok (.invokestatic 210, 3) := by decide +kernel
theorem d_lwP_31 : decode method_42_code 31 = .ok (.lreturn, 1) := by decide +kernel
theorem d_lwG_0 : decode method_43_code 0 = .ok (.iconst 4, 1) := by decide +kernel
theorem d_lwG_1 : decode method_43_code 1 = .ok (.anewarray 212, 3) := by decide +kernel
theorem d_lwG_4 : decode method_43_code 4 = .ok (.astore_n 2, 1) := by decide +kernel
theorem d_lwG_5 : decode method_43_code 5 = .ok (.iconst 0, 1) := by decide +kernel
theorem d_lwG_6 : decode method_43_code 6 = .ok (.istore_n 3, 1) := by decide +kernel
theorem d_lwG_7 : decode method_43_code 7 = .ok (.iload_n 3, 1) := by decide +kernel
theorem d_lwG_8 : decode method_43_code 8 = .ok (.iconst 4, 1) := by decide +kernel
theorem d_lwG_9 : decode method_43_code 9 = .ok (.if_icmp .ge 17, 3) := by decide +kernel
theorem d_lwG_12 : decode method_43_code 12 = .ok (.aload_n 0, 1) := by decide +kernel
theorem d_lwG_13 : decode method_43_code 13 = .ok (.iload_n 3, 1) := by decide +kernel
theorem d_lwG_14 : decode method_43_code 14 = .ok (.ldc 214, 2) := by decide +kernel
theorem d_lwG_16 : decode method_43_code 16 = .ok (.invokestatic 216, 3) := by decide +kernel
theorem d_lwG_19 : decode method_43_code 19 = .ok (.pop2, 1) := by decide +kernel
theorem d_lwG_20 : decode method_43_code 20 = .ok (.iinc 3 1, 3) := by decide +kernel
theorem d_lwG_23 : decode method_43_code 23 = .ok (.goto (-16), 3) := by decide +kernel
theorem d_lwG_26 : decode method_43_code 26 = .ok (.iload_n 1, 1) := by decide +kernel
theorem d_lwG_27 : decode method_43_code 27 = .ok (.istore_n 3, 1) := by decide +kernel
theorem d_lwG_28 : decode method_43_code 28 = .ok (.iconst 0, 1) := by decide +kernel
theorem d_lwG_29 : decode method_43_code 29 = .ok (.istore 4, 2) := by decide +kernel
theorem d_lwG_31 : decode method_43_code 31 = .ok (.iconst 0, 1) := by decide +kernel
theorem d_lwG_32 : decode method_43_code 32 = .ok (.istore 5, 2) := by decide +kernel
theorem d_lwG_34 : decode method_43_code 34 = .ok (.iconst 0, 1) := by decide +kernel
theorem d_lwG_35 : decode method_43_code 35 = .ok (.istore 6, 2) := by decide +kernel
theorem d_lwG_37 : decode method_43_code 37 = .ok (.iload 6, 2) := by decide +kernel
theorem d_lwG_39 : decode method_43_code 39 = .ok (.iconst 4, 1) := by decide +kernel
theorem d_lwG_40 : decode method_43_code 40 = .ok (.if_icmp .ge 312, 3) := by decide +kernel
theorem d_lwG_43 : decode method_43_code 43 = .ok (.iload_n 3, 1) := by decide +kernel
theorem d_lwG_44 : decode method_43_code 44 = .ok (.ldc 220, 2) := by decide +kernel
theorem d_lwG_46 : decode method_43_code 46 = .ok (.imul, 1) := by decide +kernel
theorem d_lwG_47 : decode method_43_code 47 = .ok (.sipush 12345, 3) := by decide +kernel
theorem d_lwG_50 : decode method_43_code 50 = .ok (.iadd, 1) := by decide +kernel
theorem d_lwG_51 : decode method_43_code 51 = .ok (.istore_n 3, 1) := by decide +kernel
theorem d_lwG_52 : decode method_43_code 52 = .ok (.aload_n 2, 1) := by decide +kernel
theorem d_lwG_53 : decode method_43_code 53 = .ok (.iload 6, 2) := by decide +kernel
theorem d_lwG_55 : decode method_43_code 55 = .ok (.iload_n 3, 1) := by decide +kernel
theorem d_lwG_56 : decode method_43_code 56 = .ok (.bipush 9, 2) := by decide +kernel
theorem d_lwG_58 : decode method_43_code 58 = .ok (.ishr, 1) := by decide +kernel
theorem d_lwG_59 : decode method_43_code 59 = .ok (.iload 6, 2) := by decide +kernel
theorem d_lwG_61 : decode method_43_code 61 = .ok (.ifCond .ne 8, 3) := by decide +kernel
theorem d_lwG_64 : decode method_43_code 64 = .ok (.bipush 9, 2) := by decide +kernel
theorem d_lwG_66 : decode method_43_code 66 = .ok (.goto 5, 3) := by decide +kernel
theorem d_lwG_69 : decode method_43_code 69 = .ok (.bipush 6, 2) := by decide +kernel
theorem d_lwG_71 : decode method_43_code 71 = .ok (.invokestatic 221, 3) := by decide +kernel
theorem d_lwG_74 : decode method_43_code 74 = .ok (.iload 6, 2) := by decide +kernel
theorem d_lwG_76 : decode method_43_code 76 = .ok (.ifCond .ne 7, 3) := by decide +kernel
theorem d_lwG_79 : decode method_43_code 79 = .ok (.iconst 1, 1) := by decide +kernel
theorem d_lwG_80 : decode method_43_code 80 = .ok (.goto 4, 3) := by decide +kernel
theorem d_lwG_83 : decode method_43_code 83 = .ok (.iconst 0, 1) := by decide +kernel
theorem d_lwG_84 : decode method_43_code 84 = .ok (.iadd, 1) := by decide +kernel
theorem d_lwG_85 : decode method_43_code 85 = .ok (.anewarray 224, 3) := by decide +kernel
theorem d_lwG_88 : decode method_43_code 88 = .ok (.aastore, 1) := by decide +kernel
theorem d_lwG_89 : decode method_43_code 89 = .ok (.ldc 214, 2) := by decide +kernel
theorem d_lwG_91 : decode method_43_code 91 = .ok (.astore 7, 2) := by decide +kernel
theorem d_lwG_93 : decode method_43_code 93 = .ok (.iconst 0, 1) := by decide +kernel
theorem d_lwG_94 : decode method_43_code 94 = .ok (.istore 8, 2) := by decide +kernel
theorem d_lwG_96 : decode method_43_code 96 = .ok (.iload 8, 2) := by decide +kernel
theorem d_lwG_98 : decode method_43_code 98 = .ok (.aload_n 2, 1) := by decide +kernel
theorem d_lwG_99 : decode method_43_code 99 = .ok (.iload 6, 2) := by decide +kernel
theorem d_lwG_101 : decode method_43_code 101 = .ok (.aaload, 1) := by decide +kernel
theorem d_lwG_102 : decode method_43_code 102 = .ok (.arraylength, 1) := by decide +kernel
theorem d_lwG_103 : decode method_43_code 103 = .ok (.if_icmp .ge 223, 3) := by decide +kernel
theorem d_lwG_106 : decode method_43_code 106 = .ok (.iload_n 3, 1) := by decide +kernel
theorem d_lwG_107 : decode method_43_code 107 = .ok (.ldc 220, 2) := by decide +kernel
theorem d_lwG_109 : decode method_43_code 109 = .ok (.imul, 1) := by decide +kernel
theorem d_lwG_110 : decode method_43_code 110 = .ok (.sipush 12345, 3) := by decide +kernel
theorem d_lwG_113 : decode method_43_code 113 = .ok (.iadd, 1) := by decide +kernel
theorem d_lwG_114 : decode method_43_code 114 = .ok (.istore_n 3, 1) := by decide +kernel
theorem d_lwG_115 : decode method_43_code 115 = .ok (.iload_n 3, 1) := by decide +kernel
theorem d_lwG_116 : decode method_43_code 116 = .ok (.bipush 9, 2) := by decide +kernel
theorem d_lwG_118 : decode method_43_code 118 = .ok (.ishr, 1) := by decide +kernel
theorem d_lwG_119 : decode method_43_code 119 = .ok (.bipush 7, 2) := by decide +kernel
theorem d_lwG_121 : decode method_43_code 121 = .ok (.invokestatic 221, 3) := by decide +kernel
theorem d_lwG_124 : decode method_43_code 124 = .ok (.istore 9, 2) := by decide +kernel
theorem d_lwG_126 : decode method_43_code 126 = .ok (.iload 9, 2) := by decide +kernel
theorem d_lwG_128 : decode method_43_code 128 = .ok (.iconst 4, 1) := by decide +kernel
theorem d_lwG_129 : decode method_43_code 129 = .ok (.if_icmp .ne 10, 3) := by decide +kernel
theorem d_lwG_132 : decode method_43_code 132 = .ok (.iload 4, 2) := by decide +kernel
theorem d_lwG_134 : decode method_43_code 134 = .ok (.bipush 8, 2) := by decide +kernel
theorem d_lwG_136 : decode method_43_code 136 = .ok (.if_icmp .eq 16, 3) := by decide +kernel
theorem d_lwG_139 : decode method_43_code 139 = .ok (.iload 9, 2) := by decide +kernel
theorem d_lwG_141 : decode method_43_code 141 = .ok (.bipush 6, 2) := by decide +kernel
theorem d_lwG_143 : decode method_43_code 143 = .ok (.if_icmp .ne 12, 3) := by decide +kernel
theorem d_lwG_146 : decode method_43_code 146 = .ok (.iload 5, 2) := by decide +kernel
theorem d_lwG_148 : decode method_43_code 148 = .ok (.iconst 5, 1) := by decide +kernel
theorem d_lwG_149 : decode method_43_code 149 = .ok (.if_icmp .ne 6, 3) := by decide +kernel
theorem d_lwG_152 : decode method_43_code 152 = .ok (.iconst 1, 1) := by decide +kernel
theorem d_lwG_153 : decode method_43_code 153 = .ok (.istore 9, 2) := by decide +kernel
theorem d_lwG_155 : decode method_43_code 155 = .ok (.iload 4, 2) := by decide +kernel
theorem d_lwG_157 : decode method_43_code 157 = .ok (.iload 9, 2) := by decide +kernel
theorem d_lwG_159 : decode method_43_code 159 = .ok (.iconst 4, 1) := by decide +kernel
theorem d_lwG_160 : decode method_43_code 160 = .ok (.if_icmp .ne 7, 3) := by decide +kernel
theorem d_lwG_163 : decode method_43_code 163 = .ok (.iconst 1, 1) := by decide +kernel
theorem d_lwG_164 : decode method_43_code 164 = .ok (.goto 4, 3) := by decide +kernel
theorem d_lwG_167 : decode method_43_code 167 = .ok (.iconst 0, 1) := by decide +kernel
theorem d_lwG_168 : decode method_43_code 168 = .ok (.iadd, 1) := by decide +kernel
theorem d_lwG_169 : decode method_43_code 169 = .ok (.istore 4, 2) := by decide +kernel
theorem d_lwG_171 : decode method_43_code 171 = .ok (.iload 5, 2) := by decide +kernel
theorem d_lwG_173 : decode method_43_code 173 = .ok (.iload 9, 2) := by decide +kernel
theorem d_lwG_175 : decode method_43_code 175 = .ok (.bipush 6, 2) := by decide +kernel
theorem d_lwG_177 : decode method_43_code 177 = .ok (.if_icmp .ne 7, 3) := by decide +kernel
theorem d_lwG_180 : decode method_43_code 180 = .ok (.iconst 1, 1) := by decide +kernel
theorem d_lwG_181 : decode method_43_code 181 = .ok (.goto 4, 3) := by decide +kernel
theorem d_lwG_184 : decode method_43_code 184 = .ok (.iconst 0, 1) := by decide +kernel
theorem d_lwG_185 : decode method_43_code 185 = .ok (.iadd, 1) := by decide +kernel
theorem d_lwG_186 : decode method_43_code 186 = .ok (.istore 5, 2) := by decide +kernel
theorem d_lwG_188 : decode method_43_code 188 = .ok (.iload_n 3, 1) := by decide +kernel
theorem d_lwG_189 : decode method_43_code 189 = .ok (.ldc 220, 2) := by decide +kernel
theorem d_lwG_191 : decode method_43_code 191 = .ok (.imul, 1) := by decide +kernel
theorem d_lwG_192 : decode method_43_code 192 = .ok (.sipush 12345, 3) := by decide +kernel
theorem d_lwG_195 : decode method_43_code 195 = .ok (.iadd, 1) := by decide +kernel
theorem d_lwG_196 : decode method_43_code 196 = .ok (.istore_n 3, 1) := by decide +kernel
theorem d_lwG_197 : decode method_43_code 197 = .ok (.aload_n 2, 1) := by decide +kernel
theorem d_lwG_198 : decode method_43_code 198 = .ok (.iload 6, 2) := by decide +kernel
theorem d_lwG_200 : decode method_43_code 200 = .ok (.aaload, 1) := by decide +kernel
theorem d_lwG_201 : decode method_43_code 201 = .ok (.iload 8, 2) := by decide +kernel
theorem d_lwG_203 : decode method_43_code 203 = .ok (.iconst 4, 1) := by decide +kernel
theorem d_lwG_204 : decode method_43_code 204 = .ok (.newarray .int, 2) := by decide +kernel
theorem d_lwG_206 : decode method_43_code 206 = .ok (.dup, 1) := by decide +kernel
theorem d_lwG_207 : decode method_43_code 207 = .ok (.iconst 0, 1) := by decide +kernel
theorem d_lwG_208 : decode method_43_code 208 = .ok (.iload 9, 2) := by decide +kernel
theorem d_lwG_210 : decode method_43_code 210 = .ok (.iastore, 1) := by decide +kernel
theorem d_lwG_211 : decode method_43_code 211 = .ok (.dup, 1) := by decide +kernel
theorem d_lwG_212 : decode method_43_code 212 = .ok (.iconst 1, 1) := by decide +kernel
theorem d_lwG_213 : decode method_43_code 213 = .ok (.iload_n 3, 1) := by decide +kernel
theorem d_lwG_214 : decode method_43_code 214 = .ok (.bipush 8, 2) := by decide +kernel
theorem d_lwG_216 : decode method_43_code 216 = .ok (.ishr, 1) := by decide +kernel
theorem d_lwG_217 : decode method_43_code 217 = .ok (.bipush 8, 2) := by decide +kernel
theorem d_lwG_219 : decode method_43_code 219 = .ok (.invokestatic 221, 3) := by decide +kernel
theorem d_lwG_222 : decode method_43_code 222 = .ok (.iastore, 1) := by decide +kernel
theorem d_lwG_223 : decode method_43_code 223 = .ok (.dup, 1) := by decide +kernel
theorem d_lwG_224 : decode method_43_code 224 = .ok (.iconst 2, 1) := by decide +kernel
theorem d_lwG_225 : decode method_43_code 225 = .ok (.iload_n 3, 1) := by decide +kernel
theorem d_lwG_226 : decode method_43_code 226 = .ok (.bipush 12, 2) := by decide +kernel
theorem d_lwG_228 : decode method_43_code 228 = .ok (.ishr, 1) := by decide +kernel
theorem d_lwG_229 : decode method_43_code 229 = .ok (.bipush 8, 2) := by decide +kernel
theorem d_lwG_231 : decode method_43_code 231 = .ok (.invokestatic 221, 3) := by decide +kernel
theorem d_lwG_234 : decode method_43_code 234 = .ok (.iastore, 1) := by decide +kernel
theorem d_lwG_235 : decode method_43_code 235 = .ok (.dup, 1) := by decide +kernel
theorem d_lwG_236 : decode method_43_code 236 = .ok (.iconst 3, 1) := by decide +kernel
theorem d_lwG_237 : decode method_43_code 237 = .ok (.iload 9, 2) := by decide +kernel
theorem d_lwG_239 : decode method_43_code 239 = .ok (.iconst 5, 1) := by decide +kernel
theorem d_lwG_240 : decode method_43_code 240 = .ok (.if_icmp .ne 14, 3) := by decide +kernel
theorem d_lwG_243 : decode method_43_code 243 = .ok (.iload_n 3, 1) := by decide +kernel
theorem d_lwG_244 : decode method_43_code 244 = .ok (.bipush 16, 2) := by decide +kernel
theorem d_lwG_246 : decode method_43_code 246 = .ok (.ishr, 1) := by decide +kernel
theorem d_lwG_247 : decode method_43_code 247 = .ok (.iconst 3, 1) := by decide +kernel
theorem d_lwG_248 : decode method_43_code 248 = .ok (.invokestatic 221, 3) := by decide +kernel
theorem d_lwG_251 : decode method_43_code 251 = .ok (.goto 22, 3) := by decide +kernel
theorem d_lwG_254 : decode method_43_code 254 = .ok (.iload 9, 2) := by decide +kernel
theorem d_lwG_256 : decode method_43_code 256 = .ok (.bipush 6, 2) := by decide +kernel
theorem d_lwG_258 : decode method_43_code 258 = .ok (.if_icmp .ne 14, 3) := by decide +kernel
theorem d_lwG_261 : decode method_43_code 261 = .ok (.iload_n 3, 1) := by decide +kernel
theorem d_lwG_262 : decode method_43_code 262 = .ok (.bipush 16, 2) := by decide +kernel
theorem d_lwG_264 : decode method_43_code 264 = .ok (.ishr, 1) := by decide +kernel
theorem d_lwG_265 : decode method_43_code 265 = .ok (.iconst 4, 1) := by decide +kernel
theorem d_lwG_266 : decode method_43_code 266 = .ok (.invokestatic 221, 3) := by decide +kernel
theorem d_lwG_269 : decode method_43_code 269 = .ok (.goto 4, 3) := by decide +kernel
theorem d_lwG_272 : decode method_43_code 272 = .ok (.iconst 0, 1) := by decide +kernel
theorem d_lwG_273 : decode method_43_code 273 = .ok (.iastore, 1) := by decide +kernel
theorem d_lwG_274 : decode method_43_code 274 = .ok (.aastore, 1) := by decide +kernel
theorem d_lwG_275 : decode method_43_code 275 = .ok (.new 169, 3) := by decide +kernel
theorem d_lwG_278 : decode method_43_code 278 = .ok (.dup, 1) := by decide +kernel
theorem d_lwG_279 : decode method_43_code 279 = .ok (.invokespecial 171, 3) := by decide +kernel
theorem d_lwG_282 : decode method_43_code 282 = .ok (.aload 7, 2) := by decide +kernel
theorem d_lwG_284 : decode method_43_code 284 = .ok (.invokevirtual 178, 3) := by decide +kernel
theorem d_lwG_287 : decode method_43_code 287 = .ok (.iload 8, 2) := by decide +kernel
theorem d_lwG_289 : decode method_43_code 289 = .ok (.ifCond .ne 8, 3) := by decide +kernel
theorem d_lwG_292 : decode method_43_code 292 = .ok (.ldc 214, 2) := by decide +kernel
theorem d_lwG_294 : decode method_43_code 294 = .ok (.goto 5, 3) := by decide +kernel
theorem d_lwG_297 : decode method_43_code 297 = .ok (.ldc 226, 2) := by decide +kernel
theorem d_lwG_299 : decode method_43_code 299 = .ok (.invokevirtual 178, 3) := by decide +kernel
theorem d_lwG_302 : decode method_43_code 302 = .ok (.aload_n 2, 1) := by decide +kernel
theorem d_lwG_303 : decode method_43_code 303 = .ok (.iload 6, 2) := by decide +kernel
theorem d_lwG_305 : decode method_43_code 305 = .ok (.aaload, 1) := by decide +kernel
theorem d_lwG_306 : decode method_43_code 306 = .ok (.iload 8, 2) := by decide +kernel
theorem d_lwG_308 : decode method_43_code 308 = .ok (.aaload, 1) := by decide +kernel
theorem d_lwG_309 : decode method_43_code 309 = .ok (.invokestatic 228, 3) := by decide +kernel
theorem d_lwG_312 : decode method_43_code 312 = .ok (.invokevirtual 178, 3) := by decide +kernel
theorem d_lwG_315 : decode method_43_code 315 = .ok (.invokevirtual 181, 3) := by decide +kernel
theorem d_lwG_318 : decode method_43_code 318 = .ok (.astore 7, 2) := by decide +kernel
theorem d_lwG_320 : decode method_43_code 320 = .ok (.iinc 8 1, 3) := by decide +kernel
theorem d_lwG_323 : decode method_43_code 323 = .ok (.goto (-227), 3) := by decide +kernel
theorem d_lwG_326 : decode method_43_code 326 = .ok (.aload_n 0, 1) := by decide +kernel
theorem d_lwG_327 : decode method_43_code 327 = .ok (.iload 6, 2) := by decide +kernel
theorem d_lwG_329 : decode method_43_code 329 = .ok (.aload 7, 2) := by decide +kernel
theorem d_lwG_331 : decode method_43_code 331 = .ok (.invokestatic 216, 3) := by decide +kernel
theorem d_lwG_334 : decode method_43_code 334 = .ok (.aload_n 2, 1) := by decide +kernel
theorem d_lwG_335 : decode method_43_code 335 = .ok (.iload 6, 2) := by decide +kernel
theorem d_lwG_337 : decode method_43_code 337 = .ok (.aaload, 1) := by decide +kernel
theorem d_lwG_338 : decode method_43_code 338 = .ok (.arraylength, 1) := by decide +kernel
theorem d_lwG_339 : decode method_43_code 339 = .ok (.i2l, 1) := by decide +kernel
theorem d_lwG_340 : decode method_43_code 340 = .ok (.lcmp, 1) := by decide +kernel
theorem d_lwG_341 : decode method_43_code 341 = .ok (.ifCond .eq 5, 3) := by decide +kernel
theorem d_lwG_344 : decode method_43_code 344 = .ok (.aconst_null, 1) := by decide +kernel
theorem d_lwG_345 : decode method_43_code 345 = .ok (.areturn, 1) := by decide +kernel
theorem d_lwG_346 : decode method_43_code 346 = .ok (.iinc 6 1, 3) := by decide +kernel
theorem d_lwG_349 : decode method_43_code 349 = .ok (.goto (-312), 3) := by decide +kernel
theorem d_lwG_352 : decode method_43_code 352 = .ok (.aload_n 2, 1) := by decide +kernel
theorem d_lwG_353 : decode method_43_code 353 = .ok (.areturn, 1) := by decide +kernel
theorem d_lwC_0 : decode method_40_code 0 = .ok (.iload_n 1, 1) := by decide +kernel
theorem d_lwC_1 : decode method_40_code 1 = .ok (.aload_n 0, 1) := by decide +kernel
theorem d_lwC_2 : decode method_40_code 2 = .ok (.arraylength, 1) := by decide +kernel
theorem d_lwC_3 : decode method_40_code 3 = .ok (.if_icmp .ge 9, 3) := by decide +kernel
theorem d_lwC_6 : decode method_40_code 6 = .ok (.aload_n 0, 1) := by decide +kernel
theorem d_lwC_7 : decode method_40_code 7 = .ok (.iload_n 1, 1) := by decide +kernel
theorem d_lwC_8 : decode method_40_code 8 = .ok (.iaload, 1) := by decide +kernel
theorem d_lwC_9 : decode method_40_code 9 = .ok (.goto 10, 3) := by decide +kernel
theorem d_lwC_12 : decode method_40_code 12 = .ok (.sipush 7919, 3) := by decide +kernel
theorem d_lwC_15 : decode method_40_code 15 = .ok (.iload_n 1, 1) := by decide +kernel
theorem d_lwC_16 : decode method_40_code 16 = .ok (.imul, 1) := by decide +kernel
theorem d_lwC_17 : decode method_40_code 17 = .ok (.iconst 3, 1) := by decide +kernel
theorem d_lwC_18 : decode method_40_code 18 = .ok (.iadd, 1) := by decide +kernel
theorem d_lwC_19 : decode method_40_code 19 = .ok (.ireturn, 1) := by decide +kernel
theorem d_lwS_0 : decode method_49_code 0 = .ok (.aload_n 0, 1) := by decide +kernel
theorem d_lwS_1 : decode method_49_code 1 = .ok (.iload_n 1, 1) := by decide +kernel
theorem d_lwS_2 : decode method_49_code 2 = .ok (.iconst 3, 1) := by decide +kernel
theorem d_lwS_3 : decode method_49_code 3 = .ok (.invokestatic 221, 3) := by decide +kernel
theorem d_lwS_6 : decode method_49_code 6 = .ok (.invokestatic 237, 3) := by decide +kernel
theorem d_lwS_9 : decode method_49_code 9 = .ok (.pop2, 1) := by decide +kernel
theorem d_lwS_10 : decode method_49_code 10 = .ok (.aload_n 0, 1) := by decide +kernel
theorem d_lwS_11 : decode method_49_code 11 = .ok (.invokestatic 266, 3) := by decide +kernel
theorem d_lwS_14 : decode method_49_code 14 = .ok (.lstore_n 2, 1) := by decide +kernel
theorem d_lwS_15 : decode method_49_code 15 = .ok (.aload_n 0, 1) := by decide +kernel
theorem d_lwS_16 : decode method_49_code 16 = .ok (.invokestatic 290, 3) := by decide +kernel
theorem d_lwS_19 : decode method_49_code 19 = .ok (.lstore 4, 2) := by decide +kernel
theorem d_lwS_21 : decode method_49_code 21 = .ok (.aload_n 0, 1) := by decide +kernel
theorem d_lwS_22 : decode method_49_code 22 = .ok (.invokestatic 274, 3) := by decide +kernel
theorem d_lwS_25 : decode method_49_code 25 = .ok (.lstore 6, 2) := by decide +kernel
theorem d_lwS_27 : decode method_49_code 27 = .ok (.aload_n 0, 1) := by decide +kernel
theorem d_lwS_28 : decode method_49_code 28 = .ok (.invokestatic 314, 3) := by decide +kernel
theorem d_lwS_31 : decode method_49_code 31 = .ok (.lstore 8, 2) := by decide +kernel
theorem d_lwS_33 : decode method_49_code 33 = .ok (.aload_n 0, 1) := by decide +kernel
theorem d_lwS_34 : decode method_49_code 34 = .ok (.invokestatic 234, 3) := by decide +kernel
theorem d_lwS_37 : decode method_49_code 37 = .ok (.pop2, 1) := by decide +kernel
theorem d_lwS_38 : decode method_49_code 38 = .ok (.aload_n 0, 1) := by decide +kernel
theorem d_lwS_39 : decode method_49_code 39 = .ok (.invokestatic 316, 3) := by decide +kernel
theorem d_lwS_42 : decode method_49_code 42 = .ok (.pop2, 1) := by decide +kernel
theorem d_lwS_43 : decode method_49_code 43 = .ok (.aload_n 0, 1) := by decide +kernel
theorem d_lwS_44 : decode method_49_code 44 = .ok (.invokestatic 234, 3) := by decide +kernel
theorem d_lwS_47 : decode method_49_code 47 = .ok (.lconst 0, 1) := by decide +kernel
theorem d_lwS_48 : decode method_49_code 48 = .ok (.lcmp, 1) := by decide +kernel
theorem d_lwS_49 : decode method_49_code 49 = .ok (.ifCond .ge 5, 3) := by decide +kernel
theorem d_lwS_52 : decode method_49_code 52 = .ok (.iconst 0, 1) := by decide +kernel
theorem d_lwS_53 : decode method_49_code 53 = .ok (.ireturn, 1) := by decide +kernel
theorem d_lwS_54 : decode method_49_code 54 = .ok (.iconst 0, 1) := by decide +kernel
theorem d_lwS_55 : decode method_49_code 55 = .ok (.istore 10, 2) := by decide +kernel
theorem d_lwS_57 : decode method_49_code 57 = .ok (.iload 10, 2) := by decide +kernel
theorem d_lwS_59 : decode method_49_code 59 = .ok (.iconst 4, 1) := by decide +kernel
theorem d_lwS_60 : decode method_49_code 60 = .ok (.if_icmp .ge 24, 3) := by decide +kernel
theorem d_lwS_63 : decode method_49_code 63 = .ok (.aload_n 0, 1) := by decide +kernel
theorem d_lwS_64 : decode method_49_code 64 = .ok (.iload 10, 2) := by decide +kernel
theorem d_lwS_66 : decode method_49_code 66 = .ok (.ldc 214, 2) := by decide +kernel
theorem d_lwS_68 : decode method_49_code 68 = .ok (.invokestatic 216, 3) := by decide +kernel
theorem d_lwS_71 : decode method_49_code 71 = .ok (.lconst 0, 1) := by decide +kernel
theorem d_lwS_72 : decode method_49_code 72 = .ok (.lcmp, 1) := by decide +kernel
theorem d_lwS_73 : decode method_49_code 73 = .ok (.ifCond .eq 5, 3) := by decide +kernel
theorem d_lwS_76 : decode method_49_code 76 = .ok (.iconst 0, 1) := by decide +kernel
theorem d_lwS_77 : decode method_49_code 77 = .ok (.ireturn, 1) := by decide +kernel
theorem d_lwS_78 : decode method_49_code 78 = .ok (.iinc 10 1, 3) := by decide +kernel
theorem d_lwS_81 : decode method_49_code 81 = .ok (.goto (-24), 3) := by decide +kernel
theorem d_lwB_0 : decode method_45_code 0 = .ok (.bipush 20, 2) := by decide +kernel
theorem d_lwB_2 : decode method_45_code 2 = .ok (.newarray .long, 2) := by decide +kernel
theorem d_lwB_4 : decode method_45_code 4 = .ok (.astore_n 1, 1) := by decide +kernel
theorem d_lwR_0 : decode method_46_code 0 = .ok (.aload_n 0, 1) := by decide +kernel
theorem d_lwR_1 : decode method_46_code 1 = .ok (.invokestatic 274, 3) := by decide +kernel
theorem d_lwR_4 : decode method_46_code 4 = .ok (.lstore_n 1, 1) := by decide +kernel
theorem d_lwR_5 : decode method_46_code 5 = .ok (.aload_n 0, 1) := by decide +kernel
theorem d_lwR_6 : decode method_46_code 6 = .ok (.iconst 0, 1) := by decide +kernel
theorem d_lwR_7 : decode method_46_code 7 = .ok (.invokestatic 237, 3) := by decide +kernel
theorem d_lwR_10 : decode method_46_code 10 = .ok (.pop2, 1) := by decide +kernel
theorem d_lwR_11 : decode method_46_code 11 = .ok (.bipush 60, 2) := by decide +kernel
theorem d_lwR_13 : decode method_46_code 13 = .ok (.newarray .long, 2) := by decide +kernel
theorem d_lwR_15 : decode method_46_code 15 = .ok (.astore_n 3, 1) := by decide +kernel
theorem jw_56 : (Jvm.Cond.initialized "PointerAnalyzerLaw") ∈ TS := ts_mem (i := 56) (by decide +kernel) rfl
theorem jw_66 : (Jvm.Cond.initialized "java/lang/String") ∈ TS := ts_mem (i := 66) (by decide +kernel) rfl
theorem jw_67 : (Jvm.Cond.initialized "java/lang/StringLatin1") ∈ TS := ts_mem (i := 67) (by decide +kernel) rfl
theorem jw_68 : (Jvm.Cond.initialized "jdk/internal/util/Preconditions") ∈ TS := ts_mem (i := 68) (by decide +kernel) rfl
theorem jw_79 : (Jvm.Cond.initialized "java/lang/AbstractStringBuilder") ∈ TS := ts_mem (i := 79) (by decide +kernel) rfl
theorem jw_80 : (Jvm.Cond.initialized "java/lang/StringBuilder") ∈ TS := ts_mem (i := 80) (by decide +kernel) rfl
theorem jw_81 : (Jvm.Cond.initialized "jdk/internal/util/ArraysSupport") ∈ TS := ts_mem (i := 81) (by decide +kernel) rfl
theorem jw_82 : (Jvm.Cond.initialized "java/lang/Math") ∈ TS := ts_mem (i := 82) (by decide +kernel) rfl
theorem jw_83 : (Jvm.Cond.initialized "java/util/Arrays") ∈ TS := ts_mem (i := 83) (by decide +kernel) rfl
theorem jw_84 : (Jvm.Cond.initialized "java/lang/System") ∈ TS := ts_mem (i := 84) (by decide +kernel) rfl
theorem jw_86 : (Jvm.Cond.initialized "java/lang/Integer") ∈ TS := ts_mem (i := 86) (by decide +kernel) rfl
theorem jw_344 : (Jvm.Cond.methodLink "PointerAnalyzerLaw" (216 : Nat) ({ cls := "PointerAnalyzerLaw", name := "put", desc := "(LPointerAnalyzer;ILjava/lang/String;)J" } : Jvm.MethodName)) ∈ TS := ts_mem (i := 344) (by decide +kernel) rfl
theorem jw_345 : (Jvm.Cond.static ({ cls := "PointerAnalyzerLaw", name := "put", desc := "(LPointerAnalyzer;ILjava/lang/String;)J" } : Jvm.MethodName)) ∈ TS := ts_mem (i := 345) (by decide +kernel) rfl
theorem jw_346 : (Jvm.Cond.code ({ cls := "PointerAnalyzerLaw", name := "put", desc := "(LPointerAnalyzer;ILjava/lang/String;)J" } : Jvm.MethodName) method_42_code (4 : Nat) (Option.some Jvm.ClassFile.FieldType.long)) ∈ TS := ts_mem (i := 346) (by decide +kernel) rfl
theorem jw_347 : (Jvm.Cond.methodLink "PointerAnalyzerLaw" (204 : Nat) ({ cls := "java/lang/String", name := "length", desc := "()I" } : Jvm.MethodName)) ∈ TS := ts_mem (i := 347) (by decide +kernel) rfl
theorem jw_348 : (Jvm.Cond.instanceMethod ({ cls := "java/lang/String", name := "length", desc := "()I" } : Jvm.MethodName)) ∈ TS := ts_mem (i := 348) (by decide +kernel) rfl
theorem jw_349 : (Jvm.Cond.selects "java/lang/String" ({ cls := "java/lang/String", name := "length", desc := "()I" } : Jvm.MethodName) ({ cls := "java/lang/String", name := "length", desc := "()I" } : Jvm.MethodName)) ∈ TS := ts_mem (i := 349) (by decide +kernel) rfl
theorem jw_350 : (Jvm.Cond.code ({ cls := "java/lang/String", name := "length", desc := "()I" } : Jvm.MethodName) prog_32_method_54_code (1 : Nat) (Option.some Jvm.ClassFile.FieldType.int)) ∈ TS := ts_mem (i := 350) (by decide +kernel) rfl
theorem jw_351 : (Jvm.Cond.methodLink "java/lang/String" (335 : Nat) ({ cls := "java/lang/String", name := "coder", desc := "()B" } : Jvm.MethodName)) ∈ TS := ts_mem (i := 351) (by decide +kernel) rfl
theorem jw_352 : (Jvm.Cond.instanceMethod ({ cls := "java/lang/String", name := "coder", desc := "()B" } : Jvm.MethodName)) ∈ TS := ts_mem (i := 352) (by decide +kernel) rfl
theorem jw_353 : (Jvm.Cond.selects "java/lang/String" ({ cls := "java/lang/String", name := "coder", desc := "()B" } : Jvm.MethodName) ({ cls := "java/lang/String", name := "coder", desc := "()B" } : Jvm.MethodName)) ∈ TS := ts_mem (i := 353) (by decide +kernel) rfl
theorem jw_354 : (Jvm.Cond.code ({ cls := "java/lang/String", name := "coder", desc := "()B" } : Jvm.MethodName) prog_32_method_152_code (1 : Nat) (Option.some Jvm.ClassFile.FieldType.byte)) ∈ TS := ts_mem (i := 354) (by decide +kernel) rfl
theorem jw_355 : (Jvm.Cond.fieldLink "java/lang/String" (38 : Nat) "java/lang/String" "COMPACT_STRINGS" "Z") ∈ TS := ts_mem (i := 355) (by decide +kernel) rfl
theorem jw_357 : (Jvm.Cond.methodLink "PointerAnalyzerLaw" (163 : Nat) ({ cls := "java/lang/String", name := "charAt", desc := "(I)C" } : Jvm.MethodName)) ∈ TS := ts_mem (i := 357) (by decide +kernel) rfl
theorem jw_358 : (Jvm.Cond.instanceMethod ({ cls := "java/lang/String", name := "charAt", desc := "(I)C" } : Jvm.MethodName)) ∈ TS := ts_mem (i := 358) (by decide +kernel) rfl
theorem jw_359 : (Jvm.Cond.selects "java/lang/String" ({ cls := "java/lang/String", name := "charAt", desc := "(I)C" } : Jvm.MethodName) ({ cls := "java/lang/String", name := "charAt", desc := "(I)C" } : Jvm.MethodName)) ∈ TS := ts_mem (i := 359) (by decide +kernel) rfl
theorem jw_360 : (Jvm.Cond.code ({ cls := "java/lang/String", name := "charAt", desc := "(I)C" } : Jvm.MethodName) prog_32_method_56_code (2 : Nat) (Option.some Jvm.ClassFile.FieldType.char)) ∈ TS := ts_mem (i := 360) (by decide +kernel) rfl
theorem jw_361 : (Jvm.Cond.methodLink "java/lang/String" (492 : Nat) ({ cls := "java/lang/String", name := "isLatin1", desc := "()Z" } : Jvm.MethodName)) ∈ TS := ts_mem (i := 361) (by decide +kernel) rfl
theorem jw_362 : (Jvm.Cond.instanceMethod ({ cls := "java/lang/String", name := "isLatin1", desc := "()Z" } : Jvm.MethodName)) ∈ TS := ts_mem (i := 362) (by decide +kernel) rfl
theorem jw_363 : (Jvm.Cond.selects "java/lang/String" ({ cls := "java/lang/String", name := "isLatin1", desc := "()Z" } : Jvm.MethodName) ({ cls := "java/lang/String", name := "isLatin1", desc := "()Z" } : Jvm.MethodName)) ∈ TS := ts_mem (i := 363) (by decide +kernel) rfl
theorem jw_364 : (Jvm.Cond.code ({ cls := "java/lang/String", name := "isLatin1", desc := "()Z" } : Jvm.MethodName) prog_32_method_154_code (1 : Nat) (Option.some Jvm.ClassFile.FieldType.boolean)) ∈ TS := ts_mem (i := 364) (by decide +kernel) rfl
theorem jw_365 : (Jvm.Cond.methodLink "java/lang/String" (495 : Nat) ({ cls := "java/lang/StringLatin1", name := "charAt", desc := "([BI)C" } : Jvm.MethodName)) ∈ TS := ts_mem (i := 365) (by decide +kernel) rfl
theorem jw_366 : (Jvm.Cond.static ({ cls := "java/lang/StringLatin1", name := "charAt", desc := "([BI)C" } : Jvm.MethodName)) ∈ TS := ts_mem (i := 366) (by decide +kernel) rfl
theorem jw_367 : (Jvm.Cond.code ({ cls := "java/lang/StringLatin1", name := "charAt", desc := "([BI)C" } : Jvm.MethodName) prog_34_method_2_code (2 : Nat) (Option.some Jvm.ClassFile.FieldType.char)) ∈ TS := ts_mem (i := 367) (by decide +kernel) rfl
theorem jw_368 : (Jvm.Cond.methodLink "java/lang/StringLatin1" (9 : Nat) ({ cls := "java/lang/String", name := "checkIndex", desc := "(II)V" } : Jvm.MethodName)) ∈ TS := ts_mem (i := 368) (by decide +kernel) rfl
theorem jw_369 : (Jvm.Cond.static ({ cls := "java/lang/String", name := "checkIndex", desc := "(II)V" } : Jvm.MethodName)) ∈ TS := ts_mem (i := 369) (by decide +kernel) rfl
theorem jw_370 : (Jvm.Cond.code ({ cls := "java/lang/String", name := "checkIndex", desc := "(II)V" } : Jvm.MethodName) prog_32_method_155_code (2 : Nat) (Option.none : Option Jvm.ClassFile.FieldType)) ∈ TS := ts_mem (i := 370) (by decide +kernel) rfl
theorem jw_371 : (Jvm.Cond.fieldLink "java/lang/String" (1053 : Nat) "jdk/internal/util/Preconditions" "SIOOBE_FORMATTER" "Ljava/util/function/BiFunction;") ∈ TS := ts_mem (i := 371) (by decide +kernel) rfl
theorem jw_373 : (Jvm.Cond.methodLink "java/lang/String" (1059 : Nat) ({ cls := "jdk/internal/util/Preconditions", name := "checkIndex", desc := "(IILjava/util/function/BiFunction;)I" } : Jvm.MethodName)) ∈ TS := ts_mem (i := 373) (by decide +kernel) rfl
theorem jw_374 : (Jvm.Cond.static ({ cls := "jdk/internal/util/Preconditions", name := "checkIndex", desc := "(IILjava/util/function/BiFunction;)I" } : Jvm.MethodName)) ∈ TS := ts_mem (i := 374) (by decide +kernel) rfl
theorem jw_375 : (Jvm.Cond.code ({ cls := "jdk/internal/util/Preconditions", name := "checkIndex", desc := "(IILjava/util/function/BiFunction;)I" } : Jvm.MethodName) prog_43_method_11_code (3 : Nat) (Option.some Jvm.ClassFile.FieldType.int)) ∈ TS := ts_mem (i := 375) (by decide +kernel) rfl
theorem jw_526 : (Jvm.Cond.instantiable "java/lang/String" (4 : Nat)) ∈ TS := ts_mem (i := 526) (by decide +kernel) rfl
theorem jw_694 : (Jvm.Cond.constant "PointerAnalyzerLaw" (220 : Nat) (1103515245 : Int32)) ∈ TS := ts_mem (i := 694) (by decide +kernel) rfl
theorem jw_701 : (Jvm.Cond.classLink "PointerAnalyzerLaw" (169 : Nat) "java/lang/StringBuilder") ∈ TS := ts_mem (i := 701) (by decide +kernel) rfl
theorem jw_702 : (Jvm.Cond.instantiable "java/lang/StringBuilder" (4 : Nat)) ∈ TS := ts_mem (i := 702) (by decide +kernel) rfl
theorem jw_703 : (Jvm.Cond.methodLink "PointerAnalyzerLaw" (171 : Nat) ({ cls := "java/lang/StringBuilder", name := "<init>", desc := "()V" } : Jvm.MethodName)) ∈ TS := ts_mem (i := 703) (by decide +kernel) rfl
theorem jw_704 : (Jvm.Cond.instanceMethod ({ cls := "java/lang/StringBuilder", name := "<init>", desc := "()V" } : Jvm.MethodName)) ∈ TS := ts_mem (i := 704) (by decide +kernel) rfl
theorem jw_705 : (Jvm.Cond.code ({ cls := "java/lang/StringBuilder", name := "<init>", desc := "()V" } : Jvm.MethodName) prog_33_method_1_code (1 : Nat) (Option.none : Option Jvm.ClassFile.FieldType)) ∈ TS := ts_mem (i := 705) (by decide +kernel) rfl
theorem jw_706 : (Jvm.Cond.methodLink "java/lang/StringBuilder" (1 : Nat) ({ cls := "java/lang/AbstractStringBuilder", name := "<init>", desc := "(I)V" } : Jvm.MethodName)) ∈ TS := ts_mem (i := 706) (by decide +kernel) rfl
theorem jw_707 : (Jvm.Cond.instanceMethod ({ cls := "java/lang/AbstractStringBuilder", name := "<init>", desc := "(I)V" } : Jvm.MethodName)) ∈ TS := ts_mem (i := 707) (by decide +kernel) rfl
theorem jw_708 : (Jvm.Cond.code ({ cls := "java/lang/AbstractStringBuilder", name := "<init>", desc := "(I)V" } : Jvm.MethodName) prog_15_method_2_code (2 : Nat) (Option.none : Option Jvm.ClassFile.FieldType)) ∈ TS := ts_mem (i := 708) (by decide +kernel) rfl
theorem jw_709 : (Jvm.Cond.methodLink "java/lang/AbstractStringBuilder" (3 : Nat) ({ cls := "java/lang/Object", name := "<init>", desc := "()V" } : Jvm.MethodName)) ∈ TS := ts_mem (i := 709) (by decide +kernel) rfl
theorem jw_710 : (Jvm.Cond.fieldLink "java/lang/AbstractStringBuilder" (18 : Nat) "java/lang/String" "COMPACT_STRINGS" "Z") ∈ TS := ts_mem (i := 710) (by decide +kernel) rfl
theorem jw_718 : (Jvm.Cond.fieldLink "java/lang/AbstractStringBuilder" (15 : Nat) "java/lang/AbstractStringBuilder" "value" "[B") ∈ TS := ts_mem (i := 718) (by decide +kernel) rfl
theorem jw_719 : (Jvm.Cond.fieldLink "java/lang/AbstractStringBuilder" (22 : Nat) "java/lang/AbstractStringBuilder" "coder" "B") ∈ TS := ts_mem (i := 719) (by decide +kernel) rfl
theorem jw_721 : (Jvm.Cond.fieldLink "java/lang/AbstractStringBuilder" (79 : Nat) "java/lang/AbstractStringBuilder" "count" "I") ∈ TS := ts_mem (i := 721) (by decide +kernel) rfl
theorem jw_730 : (Jvm.Cond.superclass "java/lang/StringBuilder" "java/lang/AbstractStringBuilder") ∈ TS := ts_mem (i := 730) (by decide +kernel) rfl
theorem jw_731 : (Jvm.Cond.methodLink "PointerAnalyzerLaw" (178 : Nat) ({ cls := "java/lang/StringBuilder", name := "append", desc := "(Ljava/lang/String;)Ljava/lang/StringBuilder;" } : Jvm.MethodName)) ∈ TS := ts_mem (i := 731) (by decide +kernel) rfl
theorem jw_732 : (Jvm.Cond.instanceMethod ({ cls := "java/lang/StringBuilder", name := "append", desc := "(Ljava/lang/String;)Ljava/lang/StringBuilder;" } : Jvm.MethodName)) ∈ TS := ts_mem (i := 732) (by decide +kernel) rfl
theorem jw_733 : (Jvm.Cond.selects "java/lang/StringBuilder" ({ cls := "java/lang/StringBuilder", name := "append", desc := "(Ljava/lang/String;)Ljava/lang/StringBuilder;" } : Jvm.MethodName) ({ cls := "java/lang/StringBuilder", name := "append", desc := "(Ljava/lang/String;)Ljava/lang/StringBuilder;" } : Jvm.MethodName)) ∈ TS := ts_mem (i := 733) (by decide +kernel) rfl
theorem jw_734 : (Jvm.Cond.code ({ cls := "java/lang/StringBuilder", name := "append", desc := "(Ljava/lang/String;)Ljava/lang/StringBuilder;" } : Jvm.MethodName) prog_33_method_7_code (2 : Nat) (Option.some (Jvm.ClassFile.FieldType.object "java/lang/StringBuilder"))) ∈ TS := ts_mem (i := 734) (by decide +kernel) rfl
theorem jw_735 : (Jvm.Cond.methodLink "java/lang/StringBuilder" (29 : Nat) ({ cls := "java/lang/AbstractStringBuilder", name := "append", desc := "(Ljava/lang/String;)Ljava/lang/AbstractStringBuilder;" } : Jvm.MethodName)) ∈ TS := ts_mem (i := 735) (by decide +kernel) rfl
theorem jw_736 : (Jvm.Cond.instanceMethod ({ cls := "java/lang/AbstractStringBuilder", name := "append", desc := "(Ljava/lang/String;)Ljava/lang/AbstractStringBuilder;" } : Jvm.MethodName)) ∈ TS := ts_mem (i := 736) (by decide +kernel) rfl
theorem jw_737 : (Jvm.Cond.code ({ cls := "java/lang/AbstractStringBuilder", name := "append", desc := "(Ljava/lang/String;)Ljava/lang/AbstractStringBuilder;" } : Jvm.MethodName) prog_15_method_22_code (3 : Nat) (Option.some (Jvm.ClassFile.FieldType.object "java/lang/AbstractStringBuilder"))) ∈ TS := ts_mem (i := 737) (by decide +kernel) rfl
theorem jw_742 : (Jvm.Cond.methodLink "java/lang/AbstractStringBuilder" (100 : Nat) ({ cls := "java/lang/AbstractStringBuilder", name := "ensureCapacityInternal", desc := "(I)V" } : Jvm.MethodName)) ∈ TS := ts_mem (i := 742) (by decide +kernel) rfl
theorem jw_744 : (Jvm.Cond.instanceMethod ({ cls := "java/lang/AbstractStringBuilder", name := "ensureCapacityInternal", desc := "(I)V" } : Jvm.MethodName)) ∈ TS := ts_mem (i := 744) (by decide +kernel) rfl
theorem jw_745 : (Jvm.Cond.code ({ cls := "java/lang/AbstractStringBuilder", name := "ensureCapacityInternal", desc := "(I)V" } : Jvm.MethodName) prog_15_method_9_code (3 : Nat) (Option.none : Option Jvm.ClassFile.FieldType)) ∈ TS := ts_mem (i := 745) (by decide +kernel) rfl
theorem jw_746 : (Jvm.Cond.methodLink "java/lang/AbstractStringBuilder" (104 : Nat) ({ cls := "java/lang/AbstractStringBuilder", name := "newCapacity", desc := "(I)I" } : Jvm.MethodName)) ∈ TS := ts_mem (i := 746) (by decide +kernel) rfl
theorem jw_748 : (Jvm.Cond.instanceMethod ({ cls := "java/lang/AbstractStringBuilder", name := "newCapacity", desc := "(I)I" } : Jvm.MethodName)) ∈ TS := ts_mem (i := 748) (by decide +kernel) rfl
theorem jw_749 : (Jvm.Cond.code ({ cls := "java/lang/AbstractStringBuilder", name := "newCapacity", desc := "(I)I" } : Jvm.MethodName) prog_15_method_10_code (6 : Nat) (Option.some Jvm.ClassFile.FieldType.int)) ∈ TS := ts_mem (i := 749) (by decide +kernel) rfl
theorem jw_750 : (Jvm.Cond.methodLink "java/lang/AbstractStringBuilder" (114 : Nat) ({ cls := "jdk/internal/util/ArraysSupport", name := "newLength", desc := "(III)I" } : Jvm.MethodName)) ∈ TS := ts_mem (i := 750) (by decide +kernel) rfl
theorem jw_751 : (Jvm.Cond.static ({ cls := "jdk/internal/util/ArraysSupport", name := "newLength", desc := "(III)I" } : Jvm.MethodName)) ∈ TS := ts_mem (i := 751) (by decide +kernel) rfl
theorem jw_752 : (Jvm.Cond.code ({ cls := "jdk/internal/util/ArraysSupport", name := "newLength", desc := "(III)I" } : Jvm.MethodName) prog_42_method_27_code (4 : Nat) (Option.some Jvm.ClassFile.FieldType.int)) ∈ TS := ts_mem (i := 752) (by decide +kernel) rfl
theorem jw_753 : (Jvm.Cond.methodLink "jdk/internal/util/ArraysSupport" (194 : Nat) ({ cls := "java/lang/Math", name := "max", desc := "(II)I" } : Jvm.MethodName)) ∈ TS := ts_mem (i := 753) (by decide +kernel) rfl
theorem jw_754 : (Jvm.Cond.static ({ cls := "java/lang/Math", name := "max", desc := "(II)I" } : Jvm.MethodName)) ∈ TS := ts_mem (i := 754) (by decide +kernel) rfl
theorem jw_755 : (Jvm.Cond.code ({ cls := "java/lang/Math", name := "max", desc := "(II)I" } : Jvm.MethodName) prog_29_method_65_code (2 : Nat) (Option.some Jvm.ClassFile.FieldType.int)) ∈ TS := ts_mem (i := 755) (by decide +kernel) rfl
theorem jw_756 : (Jvm.Cond.constant "jdk/internal/util/ArraysSupport" (200 : Nat) (2147483639 : Int32)) ∈ TS := ts_mem (i := 756) (by decide +kernel) rfl
theorem jw_760 : (Jvm.Cond.constant "java/lang/AbstractStringBuilder" (39 : Nat) (2147483647 : Int32)) ∈ TS := ts_mem (i := 760) (by decide +kernel) rfl
theorem jw_761 : (Jvm.Cond.methodLink "java/lang/AbstractStringBuilder" (108 : Nat) ({ cls := "java/util/Arrays", name := "copyOf", desc := "([BI)[B" } : Jvm.MethodName)) ∈ TS := ts_mem (i := 761) (by decide +kernel) rfl
theorem jw_762 : (Jvm.Cond.static ({ cls := "java/util/Arrays", name := "copyOf", desc := "([BI)[B" } : Jvm.MethodName)) ∈ TS := ts_mem (i := 762) (by decide +kernel) rfl
theorem jw_763 : (Jvm.Cond.code ({ cls := "java/util/Arrays", name := "copyOf", desc := "([BI)[B" } : Jvm.MethodName) prog_40_method_121_code (3 : Nat) (Option.some (Jvm.ClassFile.FieldType.array Jvm.ClassFile.FieldType.byte))) ∈ TS := ts_mem (i := 763) (by decide +kernel) rfl
theorem jw_771 : (Jvm.Cond.methodLink "java/util/Arrays" (304 : Nat) ({ cls := "java/lang/Math", name := "min", desc := "(II)I" } : Jvm.MethodName)) ∈ TS := ts_mem (i := 771) (by decide +kernel) rfl
theorem jw_772 : (Jvm.Cond.static ({ cls := "java/lang/Math", name := "min", desc := "(II)I" } : Jvm.MethodName)) ∈ TS := ts_mem (i := 772) (by decide +kernel) rfl
theorem jw_773 : (Jvm.Cond.code ({ cls := "java/lang/Math", name := "min", desc := "(II)I" } : Jvm.MethodName) prog_29_method_69_code (2 : Nat) (Option.some Jvm.ClassFile.FieldType.int)) ∈ TS := ts_mem (i := 773) (by decide +kernel) rfl
theorem jw_774 : (Jvm.Cond.methodLink "java/util/Arrays" (150 : Nat) ({ cls := "java/lang/System", name := "arraycopy", desc := "(Ljava/lang/Object;ILjava/lang/Object;II)V" } : Jvm.MethodName)) ∈ TS := ts_mem (i := 774) (by decide +kernel) rfl
theorem jw_775 : (Jvm.Cond.static ({ cls := "java/lang/System", name := "arraycopy", desc := "(Ljava/lang/Object;ILjava/lang/Object;II)V" } : Jvm.MethodName)) ∈ TS := ts_mem (i := 775) (by decide +kernel) rfl
theorem jw_776 : (Jvm.Cond.native ({ cls := "java/lang/System", name := "arraycopy", desc := "(Ljava/lang/Object;ILjava/lang/Object;II)V" } : Jvm.MethodName)) ∈ TS := ts_mem (i := 776) (by decide +kernel) rfl
theorem jw_777 : (Jvm.Cond.methodLink "java/lang/AbstractStringBuilder" (83 : Nat) ({ cls := "java/lang/AbstractStringBuilder", name := "isLatin1", desc := "()Z" } : Jvm.MethodName)) ∈ TS := ts_mem (i := 777) (by decide +kernel) rfl
theorem jw_778 : (Jvm.Cond.instanceMethod ({ cls := "java/lang/AbstractStringBuilder", name := "isLatin1", desc := "()Z" } : Jvm.MethodName)) ∈ TS := ts_mem (i := 778) (by decide +kernel) rfl
theorem jw_779 : (Jvm.Cond.sameMethod "java/lang/AbstractStringBuilder" "java/lang/AbstractStringBuilder" "isLatin1" "()Z") ∈ TS := ts_mem (i := 779) (by decide +kernel) rfl
theorem jw_780 : (Jvm.Cond.selects "java/lang/StringBuilder" ({ cls := "java/lang/AbstractStringBuilder", name := "isLatin1", desc := "()Z" } : Jvm.MethodName) ({ cls := "java/lang/AbstractStringBuilder", name := "isLatin1", desc := "()Z" } : Jvm.MethodName)) ∈ TS := ts_mem (i := 780) (by decide +kernel) rfl
theorem jw_781 : (Jvm.Cond.code ({ cls := "java/lang/AbstractStringBuilder", name := "isLatin1", desc := "()Z" } : Jvm.MethodName) prog_15_method_68_code (1 : Nat) (Option.some Jvm.ClassFile.FieldType.boolean)) ∈ TS := ts_mem (i := 781) (by decide +kernel) rfl
theorem jw_797 : (Jvm.Cond.methodLink "java/lang/AbstractStringBuilder" (32 : Nat) ({ cls := "java/lang/String", name := "length", desc := "()I" } : Jvm.MethodName)) ∈ TS := ts_mem (i := 797) (by decide +kernel) rfl
theorem jw_798 : (Jvm.Cond.methodLink "java/lang/AbstractStringBuilder" (208 : Nat) ({ cls := "java/lang/AbstractStringBuilder", name := "putStringAt", desc := "(ILjava/lang/String;)V" } : Jvm.MethodName)) ∈ TS := ts_mem (i := 798) (by decide +kernel) rfl
theorem jw_800 : (Jvm.Cond.instanceMethod ({ cls := "java/lang/AbstractStringBuilder", name := "putStringAt", desc := "(ILjava/lang/String;)V" } : Jvm.MethodName)) ∈ TS := ts_mem (i := 800) (by decide +kernel) rfl
theorem jw_801 : (Jvm.Cond.code ({ cls := "java/lang/AbstractStringBuilder", name := "putStringAt", desc := "(ILjava/lang/String;)V" } : Jvm.MethodName) prog_15_method_73_code (3 : Nat) (Option.none : Option Jvm.ClassFile.FieldType)) ∈ TS := ts_mem (i := 801) (by decide +kernel) rfl
theorem jw_802 : (Jvm.Cond.methodLink "java/lang/AbstractStringBuilder" (397 : Nat) ({ cls := "java/lang/AbstractStringBuilder", name := "inflateIfNeededFor", desc := "(Ljava/lang/String;)V" } : Jvm.MethodName)) ∈ TS := ts_mem (i := 802) (by decide +kernel) rfl
theorem jw_804 : (Jvm.Cond.instanceMethod ({ cls := "java/lang/AbstractStringBuilder", name := "inflateIfNeededFor", desc := "(Ljava/lang/String;)V" } : Jvm.MethodName)) ∈ TS := ts_mem (i := 804) (by decide +kernel) rfl
theorem jw_805 : (Jvm.Cond.code ({ cls := "java/lang/AbstractStringBuilder", name := "inflateIfNeededFor", desc := "(Ljava/lang/String;)V" } : Jvm.MethodName) prog_15_method_71_code (2 : Nat) (Option.none : Option Jvm.ClassFile.FieldType)) ∈ TS := ts_mem (i := 805) (by decide +kernel) rfl
theorem jw_806 : (Jvm.Cond.methodLink "java/lang/AbstractStringBuilder" (40 : Nat) ({ cls := "java/lang/String", name := "coder", desc := "()B" } : Jvm.MethodName)) ∈ TS := ts_mem (i := 806) (by decide +kernel) rfl
theorem jw_826 : (Jvm.Cond.methodLink "java/lang/AbstractStringBuilder" (399 : Nat) ({ cls := "java/lang/String", name := "getBytes", desc := "([BIB)V" } : Jvm.MethodName)) ∈ TS := ts_mem (i := 826) (by decide +kernel) rfl
theorem jw_827 : (Jvm.Cond.instanceMethod ({ cls := "java/lang/String", name := "getBytes", desc := "([BIB)V" } : Jvm.MethodName)) ∈ TS := ts_mem (i := 827) (by decide +kernel) rfl
theorem jw_828 : (Jvm.Cond.selects "java/lang/String" ({ cls := "java/lang/String", name := "getBytes", desc := "([BIB)V" } : Jvm.MethodName) ({ cls := "java/lang/String", name := "getBytes", desc := "([BIB)V" } : Jvm.MethodName)) ∈ TS := ts_mem (i := 828) (by decide +kernel) rfl
theorem jw_829 : (Jvm.Cond.code ({ cls := "java/lang/String", name := "getBytes", desc := "([BIB)V" } : Jvm.MethodName) prog_32_method_147_code (4 : Nat) (Option.none : Option Jvm.ClassFile.FieldType)) ∈ TS := ts_mem (i := 829) (by decide +kernel) rfl
theorem jw_830 : (Jvm.Cond.methodLink "java/lang/String" (212 : Nat) ({ cls := "java/lang/System", name := "arraycopy", desc := "(Ljava/lang/Object;ILjava/lang/Object;II)V" } : Jvm.MethodName)) ∈ TS := ts_mem (i := 830) (by decide +kernel) rfl
theorem jw_833 : (Jvm.Cond.methodLink "PointerAnalyzerLaw" (228 : Nat) ({ cls := "PointerAnalyzerLaw", name := "text", desc := "([I)Ljava/lang/String;" } : Jvm.MethodName)) ∈ TS := ts_mem (i := 833) (by decide +kernel) rfl
theorem jw_834 : (Jvm.Cond.static ({ cls := "PointerAnalyzerLaw", name := "text", desc := "([I)Ljava/lang/String;" } : Jvm.MethodName)) ∈ TS := ts_mem (i := 834) (by decide +kernel) rfl
theorem jw_835 : (Jvm.Cond.code ({ cls := "PointerAnalyzerLaw", name := "text", desc := "([I)Ljava/lang/String;" } : Jvm.MethodName) method_41_code (3 : Nat) (Option.some (Jvm.ClassFile.FieldType.object "java/lang/String"))) ∈ TS := ts_mem (i := 835) (by decide +kernel) rfl
theorem jw_837 : (Jvm.Cond.methodLink "PointerAnalyzerLaw" (172 : Nat) ({ cls := "java/lang/StringBuilder", name := "append", desc := "(C)Ljava/lang/StringBuilder;" } : Jvm.MethodName)) ∈ TS := ts_mem (i := 837) (by decide +kernel) rfl
theorem jw_838 : (Jvm.Cond.instanceMethod ({ cls := "java/lang/StringBuilder", name := "append", desc := "(C)Ljava/lang/StringBuilder;" } : Jvm.MethodName)) ∈ TS := ts_mem (i := 838) (by decide +kernel) rfl
theorem jw_839 : (Jvm.Cond.selects "java/lang/StringBuilder" ({ cls := "java/lang/StringBuilder", name := "append", desc := "(C)Ljava/lang/StringBuilder;" } : Jvm.MethodName) ({ cls := "java/lang/StringBuilder", name := "append", desc := "(C)Ljava/lang/StringBuilder;" } : Jvm.MethodName)) ∈ TS := ts_mem (i := 839) (by decide +kernel) rfl
theorem jw_840 : (Jvm.Cond.code ({ cls := "java/lang/StringBuilder", name := "append", desc := "(C)Ljava/lang/StringBuilder;" } : Jvm.MethodName) prog_33_method_14_code (2 : Nat) (Option.some (Jvm.ClassFile.FieldType.object "java/lang/StringBuilder"))) ∈ TS := ts_mem (i := 840) (by decide +kernel) rfl
theorem jw_841 : (Jvm.Cond.methodLink "java/lang/StringBuilder" (50 : Nat) ({ cls := "java/lang/AbstractStringBuilder", name := "append", desc := "(C)Ljava/lang/AbstractStringBuilder;" } : Jvm.MethodName)) ∈ TS := ts_mem (i := 841) (by decide +kernel) rfl
theorem jw_842 : (Jvm.Cond.instanceMethod ({ cls := "java/lang/AbstractStringBuilder", name := "append", desc := "(C)Ljava/lang/AbstractStringBuilder;" } : Jvm.MethodName)) ∈ TS := ts_mem (i := 842) (by decide +kernel) rfl
theorem jw_843 : (Jvm.Cond.code ({ cls := "java/lang/AbstractStringBuilder", name := "append", desc := "(C)Ljava/lang/AbstractStringBuilder;" } : Jvm.MethodName) prog_15_method_31_code (2 : Nat) (Option.some (Jvm.ClassFile.FieldType.object "java/lang/AbstractStringBuilder"))) ∈ TS := ts_mem (i := 843) (by decide +kernel) rfl
theorem jw_844 : (Jvm.Cond.methodLink "java/lang/AbstractStringBuilder" (191 : Nat) ({ cls := "java/lang/StringLatin1", name := "canEncode", desc := "(C)Z" } : Jvm.MethodName)) ∈ TS := ts_mem (i := 844) (by decide +kernel) rfl
theorem jw_845 : (Jvm.Cond.static ({ cls := "java/lang/StringLatin1", name := "canEncode", desc := "(C)Z" } : Jvm.MethodName)) ∈ TS := ts_mem (i := 845) (by decide +kernel) rfl
theorem jw_846 : (Jvm.Cond.code ({ cls := "java/lang/StringLatin1", name := "canEncode", desc := "(C)Z" } : Jvm.MethodName) prog_34_method_3_code (1 : Nat) (Option.some Jvm.ClassFile.FieldType.boolean)) ∈ TS := ts_mem (i := 846) (by decide +kernel) rfl
theorem jw_851 : (Jvm.Cond.methodLink "PointerAnalyzerLaw" (181 : Nat) ({ cls := "java/lang/StringBuilder", name := "toString", desc := "()Ljava/lang/String;" } : Jvm.MethodName)) ∈ TS := ts_mem (i := 851) (by decide +kernel) rfl
theorem jw_852 : (Jvm.Cond.instanceMethod ({ cls := "java/lang/StringBuilder", name := "toString", desc := "()Ljava/lang/String;" } : Jvm.MethodName)) ∈ TS := ts_mem (i := 852) (by decide +kernel) rfl
theorem jw_853 : (Jvm.Cond.selects "java/lang/StringBuilder" ({ cls := "java/lang/StringBuilder", name := "toString", desc := "()Ljava/lang/String;" } : Jvm.MethodName) ({ cls := "java/lang/StringBuilder", name := "toString", desc := "()Ljava/lang/String;" } : Jvm.MethodName)) ∈ TS := ts_mem (i := 853) (by decide +kernel) rfl
theorem jw_854 : (Jvm.Cond.code ({ cls := "java/lang/StringBuilder", name := "toString", desc := "()Ljava/lang/String;" } : Jvm.MethodName) prog_33_method_42_code (1 : Nat) (Option.some (Jvm.ClassFile.FieldType.object "java/lang/String"))) ∈ TS := ts_mem (i := 854) (by decide +kernel) rfl
theorem jw_855 : (Jvm.Cond.classLink "java/lang/StringBuilder" (18 : Nat) "java/lang/String") ∈ TS := ts_mem (i := 855) (by decide +kernel) rfl
theorem jw_856 : (Jvm.Cond.methodLink "java/lang/StringBuilder" (137 : Nat) ({ cls := "java/lang/String", name := "<init>", desc := "(Ljava/lang/StringBuilder;)V" } : Jvm.MethodName)) ∈ TS := ts_mem (i := 856) (by decide +kernel) rfl
theorem jw_857 : (Jvm.Cond.instanceMethod ({ cls := "java/lang/String", name := "<init>", desc := "(Ljava/lang/StringBuilder;)V" } : Jvm.MethodName)) ∈ TS := ts_mem (i := 857) (by decide +kernel) rfl
theorem jw_858 : (Jvm.Cond.code ({ cls := "java/lang/String", name := "<init>", desc := "(Ljava/lang/StringBuilder;)V" } : Jvm.MethodName) prog_32_method_53_code (2 : Nat) (Option.none : Option Jvm.ClassFile.FieldType)) ∈ TS := ts_mem (i := 858) (by decide +kernel) rfl
theorem jw_859 : (Jvm.Cond.methodLink "java/lang/String" (489 : Nat) ({ cls := "java/lang/String", name := "<init>", desc := "(Ljava/lang/AbstractStringBuilder;Ljava/lang/Void;)V" } : Jvm.MethodName)) ∈ TS := ts_mem (i := 859) (by decide +kernel) rfl
theorem jw_860 : (Jvm.Cond.instanceMethod ({ cls := "java/lang/String", name := "<init>", desc := "(Ljava/lang/AbstractStringBuilder;Ljava/lang/Void;)V" } : Jvm.MethodName)) ∈ TS := ts_mem (i := 860) (by decide +kernel) rfl
theorem jw_861 : (Jvm.Cond.code ({ cls := "java/lang/String", name := "<init>", desc := "(Ljava/lang/AbstractStringBuilder;Ljava/lang/Void;)V" } : Jvm.MethodName) prog_32_method_150_code (5 : Nat) (Option.none : Option Jvm.ClassFile.FieldType)) ∈ TS := ts_mem (i := 861) (by decide +kernel) rfl
theorem jw_862 : (Jvm.Cond.methodLink "java/lang/String" (1 : Nat) ({ cls := "java/lang/Object", name := "<init>", desc := "()V" } : Jvm.MethodName)) ∈ TS := ts_mem (i := 862) (by decide +kernel) rfl
theorem jw_863 : (Jvm.Cond.methodLink "java/lang/String" (552 : Nat) ({ cls := "java/lang/AbstractStringBuilder", name := "getValue", desc := "()[B" } : Jvm.MethodName)) ∈ TS := ts_mem (i := 863) (by decide +kernel) rfl
theorem jw_864 : (Jvm.Cond.instanceMethod ({ cls := "java/lang/AbstractStringBuilder", name := "getValue", desc := "()[B" } : Jvm.MethodName)) ∈ TS := ts_mem (i := 864) (by decide +kernel) rfl
theorem jw_865 : (Jvm.Cond.sameMethod "java/lang/AbstractStringBuilder" "java/lang/AbstractStringBuilder" "getValue" "()[B") ∈ TS := ts_mem (i := 865) (by decide +kernel) rfl
theorem jw_866 : (Jvm.Cond.selects "java/lang/StringBuilder" ({ cls := "java/lang/AbstractStringBuilder", name := "getValue", desc := "()[B" } : Jvm.MethodName) ({ cls := "java/lang/AbstractStringBuilder", name := "getValue", desc := "()[B" } : Jvm.MethodName)) ∈ TS := ts_mem (i := 866) (by decide +kernel) rfl
theorem jw_867 : (Jvm.Cond.code ({ cls := "java/lang/AbstractStringBuilder", name := "getValue", desc := "()[B" } : Jvm.MethodName) prog_15_method_64_code (1 : Nat) (Option.some (Jvm.ClassFile.FieldType.array Jvm.ClassFile.FieldType.byte))) ∈ TS := ts_mem (i := 867) (by decide +kernel) rfl
theorem jw_868 : (Jvm.Cond.methodLink "java/lang/String" (549 : Nat) ({ cls := "java/lang/AbstractStringBuilder", name := "length", desc := "()I" } : Jvm.MethodName)) ∈ TS := ts_mem (i := 868) (by decide +kernel) rfl
theorem jw_869 : (Jvm.Cond.instanceMethod ({ cls := "java/lang/AbstractStringBuilder", name := "length", desc := "()I" } : Jvm.MethodName)) ∈ TS := ts_mem (i := 869) (by decide +kernel) rfl
theorem jw_870 : (Jvm.Cond.sameMethod "java/lang/AbstractStringBuilder" "java/lang/AbstractStringBuilder" "length" "()I") ∈ TS := ts_mem (i := 870) (by decide +kernel) rfl
theorem jw_871 : (Jvm.Cond.selects "java/lang/StringBuilder" ({ cls := "java/lang/AbstractStringBuilder", name := "length", desc := "()I" } : Jvm.MethodName) ({ cls := "java/lang/StringBuilder", name := "length", desc := "()I" } : Jvm.MethodName)) ∈ TS := ts_mem (i := 871) (by decide +kernel) rfl
theorem jw_872 : (Jvm.Cond.instanceMethod ({ cls := "java/lang/StringBuilder", name := "length", desc := "()I" } : Jvm.MethodName)) ∈ TS := ts_mem (i := 872) (by decide +kernel) rfl
theorem jw_873 : (Jvm.Cond.code ({ cls := "java/lang/StringBuilder", name := "length", desc := "()I" } : Jvm.MethodName) prog_33_method_93_code (1 : Nat) (Option.some Jvm.ClassFile.FieldType.int)) ∈ TS := ts_mem (i := 873) (by decide +kernel) rfl
theorem jw_874 : (Jvm.Cond.methodLink "java/lang/StringBuilder" (343 : Nat) ({ cls := "java/lang/AbstractStringBuilder", name := "length", desc := "()I" } : Jvm.MethodName)) ∈ TS := ts_mem (i := 874) (by decide +kernel) rfl
theorem jw_875 : (Jvm.Cond.code ({ cls := "java/lang/AbstractStringBuilder", name := "length", desc := "()I" } : Jvm.MethodName) prog_15_method_6_code (1 : Nat) (Option.some Jvm.ClassFile.FieldType.int)) ∈ TS := ts_mem (i := 875) (by decide +kernel) rfl
theorem jw_876 : (Jvm.Cond.methodLink "java/lang/String" (1047 : Nat) ({ cls := "java/lang/AbstractStringBuilder", name := "isLatin1", desc := "()Z" } : Jvm.MethodName)) ∈ TS := ts_mem (i := 876) (by decide +kernel) rfl
theorem jw_877 : (Jvm.Cond.methodLink "java/lang/String" (54 : Nat) ({ cls := "java/util/Arrays", name := "copyOfRange", desc := "([BII)[B" } : Jvm.MethodName)) ∈ TS := ts_mem (i := 877) (by decide +kernel) rfl
theorem jw_878 : (Jvm.Cond.static ({ cls := "java/util/Arrays", name := "copyOfRange", desc := "([BII)[B" } : Jvm.MethodName)) ∈ TS := ts_mem (i := 878) (by decide +kernel) rfl
theorem jw_879 : (Jvm.Cond.code ({ cls := "java/util/Arrays", name := "copyOfRange", desc := "([BII)[B" } : Jvm.MethodName) prog_40_method_132_code (3 : Nat) (Option.some (Jvm.ClassFile.FieldType.array Jvm.ClassFile.FieldType.byte))) ∈ TS := ts_mem (i := 879) (by decide +kernel) rfl
theorem jw_880 : (Jvm.Cond.methodLink "java/util/Arrays" (339 : Nat) ({ cls := "java/util/Arrays", name := "copyOfRangeByte", desc := "([BII)[B" } : Jvm.MethodName)) ∈ TS := ts_mem (i := 880) (by decide +kernel) rfl
theorem jw_881 : (Jvm.Cond.static ({ cls := "java/util/Arrays", name := "copyOfRangeByte", desc := "([BII)[B" } : Jvm.MethodName)) ∈ TS := ts_mem (i := 881) (by decide +kernel) rfl
theorem jw_882 : (Jvm.Cond.code ({ cls := "java/util/Arrays", name := "copyOfRangeByte", desc := "([BII)[B" } : Jvm.MethodName) prog_40_method_133_code (5 : Nat) (Option.some (Jvm.ClassFile.FieldType.array Jvm.ClassFile.FieldType.byte))) ∈ TS := ts_mem (i := 882) (by decide +kernel) rfl
theorem jw_883 : (Jvm.Cond.methodLink "java/util/Arrays" (343 : Nat) ({ cls := "java/util/Arrays", name := "checkLength", desc := "(II)V" } : Jvm.MethodName)) ∈ TS := ts_mem (i := 883) (by decide +kernel) rfl
theorem jw_884 : (Jvm.Cond.static ({ cls := "java/util/Arrays", name := "checkLength", desc := "(II)V" } : Jvm.MethodName)) ∈ TS := ts_mem (i := 884) (by decide +kernel) rfl
theorem jw_885 : (Jvm.Cond.code ({ cls := "java/util/Arrays", name := "checkLength", desc := "(II)V" } : Jvm.MethodName) prog_40_method_131_code (2 : Nat) (Option.none : Option Jvm.ClassFile.FieldType)) ∈ TS := ts_mem (i := 885) (by decide +kernel) rfl
theorem jw_890 : (Jvm.Cond.instanceMethod ({ cls := "java/lang/StringBuilder", name := "append", desc := "(I)Ljava/lang/StringBuilder;" } : Jvm.MethodName)) ∈ TS := ts_mem (i := 890) (by decide +kernel) rfl
theorem jw_891 : (Jvm.Cond.selects "java/lang/StringBuilder" ({ cls := "java/lang/StringBuilder", name := "append", desc := "(I)Ljava/lang/StringBuilder;" } : Jvm.MethodName) ({ cls := "java/lang/StringBuilder", name := "append", desc := "(I)Ljava/lang/StringBuilder;" } : Jvm.MethodName)) ∈ TS := ts_mem (i := 891) (by decide +kernel) rfl
theorem jw_892 : (Jvm.Cond.code ({ cls := "java/lang/StringBuilder", name := "append", desc := "(I)Ljava/lang/StringBuilder;" } : Jvm.MethodName) prog_33_method_15_code (2 : Nat) (Option.some (Jvm.ClassFile.FieldType.object "java/lang/StringBuilder"))) ∈ TS := ts_mem (i := 892) (by decide +kernel) rfl
theorem jw_893 : (Jvm.Cond.methodLink "java/lang/StringBuilder" (53 : Nat) ({ cls := "java/lang/AbstractStringBuilder", name := "append", desc := "(I)Ljava/lang/AbstractStringBuilder;" } : Jvm.MethodName)) ∈ TS := ts_mem (i := 893) (by decide +kernel) rfl
theorem jw_894 : (Jvm.Cond.instanceMethod ({ cls := "java/lang/AbstractStringBuilder", name := "append", desc := "(I)Ljava/lang/AbstractStringBuilder;" } : Jvm.MethodName)) ∈ TS := ts_mem (i := 894) (by decide +kernel) rfl
theorem jw_895 : (Jvm.Cond.code ({ cls := "java/lang/AbstractStringBuilder", name := "append", desc := "(I)Ljava/lang/AbstractStringBuilder;" } : Jvm.MethodName) prog_15_method_32_code (4 : Nat) (Option.some (Jvm.ClassFile.FieldType.object "java/lang/AbstractStringBuilder"))) ∈ TS := ts_mem (i := 895) (by decide +kernel) rfl
theorem jw_896 : (Jvm.Cond.methodLink "java/lang/AbstractStringBuilder" (245 : Nat) ({ cls := "java/lang/Integer", name := "stringSize", desc := "(I)I" } : Jvm.MethodName)) ∈ TS := ts_mem (i := 896) (by decide +kernel) rfl
theorem jw_897 : (Jvm.Cond.static ({ cls := "java/lang/Integer", name := "stringSize", desc := "(I)I" } : Jvm.MethodName)) ∈ TS := ts_mem (i := 897) (by decide +kernel) rfl
theorem jw_898 : (Jvm.Cond.code ({ cls := "java/lang/Integer", name := "stringSize", desc := "(I)I" } : Jvm.MethodName) prog_27_method_13_code (4 : Nat) (Option.some Jvm.ClassFile.FieldType.int)) ∈ TS := ts_mem (i := 898) (by decide +kernel) rfl
theorem jw_899 : (Jvm.Cond.methodLink "java/lang/AbstractStringBuilder" (248 : Nat) ({ cls := "java/lang/Integer", name := "getChars", desc := "(II[B)I" } : Jvm.MethodName)) ∈ TS := ts_mem (i := 899) (by decide +kernel) rfl
theorem jw_900 : (Jvm.Cond.static ({ cls := "java/lang/Integer", name := "getChars", desc := "(II[B)I" } : Jvm.MethodName)) ∈ TS := ts_mem (i := 900) (by decide +kernel) rfl
theorem jw_901 : (Jvm.Cond.code ({ cls := "java/lang/Integer", name := "getChars", desc := "(II[B)I" } : Jvm.MethodName) prog_27_method_12_code (7 : Nat) (Option.some Jvm.ClassFile.FieldType.int)) ∈ TS := ts_mem (i := 901) (by decide +kernel) rfl
theorem jw_902 : (Jvm.Cond.fieldLink "java/lang/Integer" (83 : Nat) "java/lang/Integer" "DigitOnes" "[B") ∈ TS := ts_mem (i := 902) (by decide +kernel) rfl
theorem jw_904 : (Jvm.Cond.fieldLink "java/lang/Integer" (87 : Nat) "java/lang/Integer" "DigitTens" "[B") ∈ TS := ts_mem (i := 904) (by decide +kernel) rfl
theorem jw_928 : (Jvm.Cond.fieldLink "java/lang/String" (9 : Nat) "java/lang/String" "value" "[B") ∈ TS := ts_mem (i := 928) (by decide +kernel) rfl
theorem jw_929 : (Jvm.Cond.fieldLink "java/lang/String" (15 : Nat) "java/lang/String" "coder" "B") ∈ TS := ts_mem (i := 929) (by decide +kernel) rfl
theorem jw_940 : (Jvm.Cond.methodLink "PointerAnalyzerLaw" (195 : Nat) ({ cls := "java/lang/StringBuilder", name := "append", desc := "(I)Ljava/lang/StringBuilder;" } : Jvm.MethodName)) ∈ TS := ts_mem (i := 940) (by decide +kernel) rfl
theorem jw_1642 : (Jvm.Cond.sameMethod "java/lang/AbstractStringBuilder" "java/lang/AbstractStringBuilder" "append" "(Ljava/lang/String;)Ljava/lang/AbstractStringBuilder;") ∈ TS := ts_mem (i := 1642) (by decide +kernel) rfl
theorem jw_1644 : (Jvm.Cond.sameMethod "java/lang/AbstractStringBuilder" "java/lang/AbstractStringBuilder" "ensureCapacityInternal" "(I)V") ∈ TS := ts_mem (i := 1644) (by decide +kernel) rfl
theorem jw_1645 : (Jvm.Cond.sameMethod "java/lang/AbstractStringBuilder" "java/lang/AbstractStringBuilder" "newCapacity" "(I)I") ∈ TS := ts_mem (i := 1645) (by decide +kernel) rfl
theorem jw_1646 : (Jvm.Cond.sameMethod "java/lang/AbstractStringBuilder" "java/lang/AbstractStringBuilder" "putStringAt" "(ILjava/lang/String;)V") ∈ TS := ts_mem (i := 1646) (by decide +kernel) rfl
theorem jw_1647 : (Jvm.Cond.sameMethod "java/lang/AbstractStringBuilder" "java/lang/AbstractStringBuilder" "inflateIfNeededFor" "(Ljava/lang/String;)V") ∈ TS := ts_mem (i := 1647) (by decide +kernel) rfl
theorem jw_1649 : (Jvm.Cond.sameMethod "java/lang/AbstractStringBuilder" "java/lang/AbstractStringBuilder" "append" "(C)Ljava/lang/AbstractStringBuilder;") ∈ TS := ts_mem (i := 1649) (by decide +kernel) rfl
theorem jw_1650 : (Jvm.Cond.sameMethod "java/lang/AbstractStringBuilder" "java/lang/AbstractStringBuilder" "append" "(I)Ljava/lang/AbstractStringBuilder;") ∈ TS := ts_mem (i := 1650) (by decide +kernel) rfl
theorem cw_arB_arK : CWJ m_arB m_arK 2 := ⟨jw_885, jw_83, by decide, by decide +kernel, by decide +kernel, by decide, by decide⟩
theorem cw_arR_arB : CWJ m_arR m_arB 3 := ⟨jw_882, jw_83, by decide, by decide +kernel, by decide +kernel, by decide, by decide⟩
theorem cw_asC_as1 : CWJ m_asC m_as1 0 := ⟨jw_781, jw_79, by decide, by decide +kernel, by decide +kernel, by decide, by decide⟩
theorem cw_asC_asE : CWJ m_asC m_asE 1 := ⟨jw_745, jw_79, by decide, by decide +kernel, by decide +kernel, by decide, by decide⟩
theorem cw_asC_l1E : CWJ m_asC m_l1E 1 := ⟨jw_846, jw_67, by decide, by decide +kernel, by decide +kernel, by decide, by decide⟩
theorem cw_asE_arO : CWJ m_asE m_arO 2 := ⟨jw_763, jw_83, by decide, by decide +kernel, by decide +kernel, by decide, by decide⟩
theorem cw_asE_asW : CWJ m_asE m_asW 1 := ⟨jw_749, jw_79, by decide, by decide +kernel, by decide +kernel, by decide, by decide⟩
theorem cw_asF_stD : CWJ m_asF m_stD 0 := ⟨jw_354, jw_66, by decide, by decide +kernel, by decide +kernel, by decide, by decide⟩
theorem cw_asN_as1 : CWJ m_asN m_as1 0 := ⟨jw_781, jw_79, by decide, by decide +kernel, by decide +kernel, by decide, by decide⟩
theorem cw_asN_asE : CWJ m_asN m_asE 1 := ⟨jw_745, jw_79, by decide, by decide +kernel, by decide +kernel, by decide, by decide⟩
theorem cw_asN_inG : CWJ m_asN m_inG 3 := ⟨jw_901, jw_86, by decide, by decide +kernel, by decide +kernel, by decide, by decide⟩
theorem cw_asN_inS : CWJ m_asN m_inS 1 := ⟨jw_898, jw_86, by decide, by decide +kernel, by decide +kernel, by decide, by decide⟩
theorem cw_asP_asF : CWJ m_asP m_asF 1 := ⟨jw_805, jw_79, by decide, by decide +kernel, by decide +kernel, by decide, by decide⟩
theorem cw_asP_stG : CWJ m_asP m_stG 3 := ⟨jw_829, jw_66, by decide, by decide +kernel, by decide +kernel, by decide, by decide⟩
theorem cw_asS_asE : CWJ m_asS m_asE 1 := ⟨jw_745, jw_79, by decide, by decide +kernel, by decide +kernel, by decide, by decide⟩
theorem cw_asS_asP : CWJ m_asS m_asP 2 := ⟨jw_801, jw_79, by decide, by decide +kernel, by decide +kernel, by decide, by decide⟩
theorem cw_asS_stL : CWJ m_asS m_stL 0 := ⟨jw_350, jw_66, by decide, by decide +kernel, by decide +kernel, by decide, by decide⟩
theorem cw_asW_nlN : CWJ m_asW m_nlN 3 := ⟨jw_752, jw_81, by decide, by decide +kernel, by decide +kernel, by decide, by decide⟩
theorem cw_l1A_stX : CWJ m_l1A m_stX 2 := ⟨jw_370, jw_66, by decide, by decide +kernel, by decide +kernel, by decide, by decide⟩
theorem cw_lwG_lwP : CWJ m_lwG m_lwP 3 := ⟨jw_346, jw_56, by decide, by decide +kernel, by decide +kernel, by decide, by decide⟩
theorem cw_lwG_lwT : CWJ m_lwG m_lwT 1 := ⟨jw_835, jw_56, by decide, by decide +kernel, by decide +kernel, by decide, by decide⟩
theorem cw_lwG_sbI : CWJ m_lwG m_sbI 0 := ⟨jw_705, jw_80, by decide, by decide +kernel, by decide +kernel, by decide, by decide⟩
theorem cw_lwG_sbS : CWJ m_lwG m_sbS 1 := ⟨jw_734, jw_80, by decide, by decide +kernel, by decide +kernel, by decide, by decide⟩
theorem cw_lwG_sbT : CWJ m_lwG m_sbT 0 := ⟨jw_854, jw_80, by decide, by decide +kernel, by decide +kernel, by decide, by decide⟩
theorem cw_lwP_stA : CWJ m_lwP m_stA 1 := ⟨jw_360, jw_66, by decide, by decide +kernel, by decide +kernel, by decide, by decide⟩
theorem cw_lwP_stL : CWJ m_lwP m_stL 0 := ⟨jw_350, jw_66, by decide, by decide +kernel, by decide +kernel, by decide, by decide⟩
theorem cw_lwS_lwP : CWJ m_lwS m_lwP 3 := ⟨jw_346, jw_56, by decide, by decide +kernel, by decide +kernel, by decide, by decide⟩
theorem cw_lwT_sbC : CWJ m_lwT m_sbC 1 := ⟨jw_840, jw_80, by decide, by decide +kernel, by decide +kernel, by decide, by decide⟩
theorem cw_lwT_sbI : CWJ m_lwT m_sbI 0 := ⟨jw_705, jw_80, by decide, by decide +kernel, by decide +kernel, by decide, by decide⟩
theorem cw_lwT_sbN : CWJ m_lwT m_sbN 1 := ⟨jw_892, jw_80, by decide, by decide +kernel, by decide +kernel, by decide, by decide⟩
theorem cw_lwT_sbS : CWJ m_lwT m_sbS 1 := ⟨jw_734, jw_80, by decide, by decide +kernel, by decide +kernel, by decide, by decide⟩
theorem cw_lwT_sbT : CWJ m_lwT m_sbT 0 := ⟨jw_854, jw_80, by decide, by decide +kernel, by decide +kernel, by decide, by decide⟩
theorem cw_lwT_stA : CWJ m_lwT m_stA 1 := ⟨jw_360, jw_66, by decide, by decide +kernel, by decide +kernel, by decide, by decide⟩
theorem cw_sbC_asC : CWJ m_sbC m_asC 1 := ⟨jw_843, jw_79, by decide, by decide +kernel, by decide +kernel, by decide, by decide⟩
theorem cw_sbI_asI : CWJ m_sbI m_asI 1 := ⟨jw_708, jw_79, by decide, by decide +kernel, by decide +kernel, by decide, by decide⟩
theorem cw_sbL_asL : CWJ m_sbL m_asL 0 := ⟨jw_875, jw_79, by decide, by decide +kernel, by decide +kernel, by decide, by decide⟩
theorem cw_sbN_asN : CWJ m_sbN m_asN 1 := ⟨jw_895, jw_79, by decide, by decide +kernel, by decide +kernel, by decide, by decide⟩
theorem cw_sbS_asS : CWJ m_sbS m_asS 1 := ⟨jw_737, jw_79, by decide, by decide +kernel, by decide +kernel, by decide, by decide⟩
theorem cw_sbT_stI : CWJ m_sbT m_stI 1 := ⟨jw_858, jw_66, by decide, by decide +kernel, by decide +kernel, by decide, by decide⟩
theorem cw_stA_l1A : CWJ m_stA m_l1A 2 := ⟨jw_367, jw_67, by decide, by decide +kernel, by decide +kernel, by decide, by decide⟩
theorem cw_stA_st1 : CWJ m_stA m_st1 0 := ⟨jw_364, jw_66, by decide, by decide +kernel, by decide +kernel, by decide, by decide⟩
theorem cw_stB_arR : CWJ m_stB m_arR 3 := ⟨jw_879, jw_83, by decide, by decide +kernel, by decide +kernel, by decide, by decide⟩
theorem cw_stB_as1 : CWJ m_stB m_as1 0 := ⟨jw_781, jw_79, by decide, by decide +kernel, by decide +kernel, by decide, by decide⟩
theorem cw_stB_asV : CWJ m_stB m_asV 0 := ⟨jw_867, jw_79, by decide, by decide +kernel, by decide +kernel, by decide, by decide⟩
theorem cw_stB_sbL : CWJ m_stB m_sbL 0 := ⟨jw_873, jw_80, by decide, by decide +kernel, by decide +kernel, by decide, by decide⟩
theorem cw_stG_stD : CWJ m_stG m_stD 0 := ⟨jw_354, jw_66, by decide, by decide +kernel, by decide +kernel, by decide, by decide⟩
theorem cw_stI_stB : CWJ m_stI m_stB 2 := ⟨jw_861, jw_66, by decide, by decide +kernel, by decide +kernel, by decide, by decide⟩
theorem cw_stL_stD : CWJ m_stL m_stD 0 := ⟨jw_354, jw_66, by decide, by decide +kernel, by decide +kernel, by decide, by decide⟩
theorem cw_stX_pcX : CWJ m_stX m_pcX 3 := ⟨jw_375, jw_68, by decide, by decide +kernel, by decide +kernel, by decide, by decide⟩
