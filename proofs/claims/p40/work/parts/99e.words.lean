/-! the start: what the tables say at the law's entry: printed by gen_start.py -/
theorem aw_0 : Cond.arrayClass .int ∈ lw_tbl := List.mem_of_getElem? (i := 118) (by decide +kernel)
theorem aw_1 : Cond.arrayClass .long ∈ lw_tbl := List.mem_of_getElem? (i := 234) (by decide +kernel)
theorem aw_2 : Cond.arrayClass .byte ∈ lw_tbl := List.mem_of_getElem? (i := 474) (by decide +kernel)
theorem aw_3 : Cond.arrayOver (.array .int) ∈ lw_tbl := List.mem_of_getElem? (i := 700) (by decide +kernel)
theorem aw_4 : Cond.arrayOver (.array (.array .int)) ∈ lw_tbl := List.mem_of_getElem? (i := 342) (by decide +kernel)
theorem th_0 : Cond.stringRef (cN 8) 74 "the character is not from 33 to 126" ∈ lw_tbl := List.mem_of_getElem? (i := 448) (by decide +kernel)
theorem th_1 : Cond.stringRef (cN 8) 85 "the text has 80 characters" ∈ lw_tbl := List.mem_of_getElem? (i := 488) (by decide +kernel)
theorem th_2 : Cond.stringRef (cN 8) 103 "the text is not a body text" ∈ lw_tbl := List.mem_of_getElem? (i := 615) (by decide +kernel)
theorem th_3 : Cond.stringRef (cN 8) 109 "too many statements, allocations or calls" ∈ lw_tbl := List.mem_of_getElem? (i := 658) (by decide +kernel)
theorem th_4 : Cond.stringRef (cN 8) 135 "the limit is not from 0 to 2" ∈ lw_tbl := List.mem_of_getElem? (i := 1059) (by decide +kernel)
theorem th_5 : Cond.stringRef (cN 8) 270 "no variable has a target by the unification analysis" ∈ lw_tbl := List.mem_of_getElem? (i := 1402) (by decide +kernel)
theorem th_6 : Cond.stringRef (cN 8) 278 "nothing was saved" ∈ lw_tbl := List.mem_of_getElem? (i := 1640) (by decide +kernel)
theorem th_7 : Cond.stringRef (cN 8) 307 "no such function" ∈ lw_tbl := List.mem_of_getElem? (i := 548) (by decide +kernel)
theorem th_8 : Cond.stringRef (cN 8) 309 "no such statement" ∈ lw_tbl := List.mem_of_getElem? (i := 1500) (by decide +kernel)
theorem th_9 : Cond.stringRef (cN 8) 311 "no such variable" ∈ lw_tbl := List.mem_of_getElem? (i := 1079) (by decide +kernel)
theorem th_10 : Cond.stringRef (cN 8) 313 "no such site or field" ∈ lw_tbl := List.mem_of_getElem? (i := 1360) (by decide +kernel)
theorem th_11 : Cond.stringRef (cN 8) 315 "no such target" ∈ lw_tbl := List.mem_of_getElem? (i := 1444) (by decide +kernel)
theorem th_12 : Cond.stringRef (cN 8) 319 "no such fact with the limit 0" ∈ lw_tbl := List.mem_of_getElem? (i := 1455) (by decide +kernel)
theorem ths_in : ∀ e ∈ THS, Cond.stringRef (cN 8) e.2.2.2.2.1 e.2.2.2.2.2.2.2.2 ∈ lw_tbl := by
  unfold THS
  exact List.forall_mem_cons.mpr ⟨th_0, List.forall_mem_cons.mpr ⟨th_1, List.forall_mem_cons.mpr ⟨th_2, List.forall_mem_cons.mpr ⟨th_3, List.forall_mem_cons.mpr ⟨th_4, List.forall_mem_cons.mpr ⟨th_5, List.forall_mem_cons.mpr ⟨th_6, List.forall_mem_cons.mpr ⟨th_7, List.forall_mem_cons.mpr ⟨th_8, List.forall_mem_cons.mpr ⟨th_9, List.forall_mem_cons.mpr ⟨th_10, List.forall_mem_cons.mpr ⟨th_11, List.forall_mem_cons.mpr ⟨th_12, fun _ h => absurd h List.not_mem_nil⟩⟩⟩⟩⟩⟩⟩⟩⟩⟩⟩⟩⟩
theorem nc_1_2 : Cond.not (.castable (xN 1) (xN 2)) ∈ flatC (Jvm.Cond.and given_1 narrow_1) := List.mem_of_getElem? (i := 242) (by decide +kernel)
theorem nc_1_3 : Cond.not (.castable (xN 1) (xN 3)) ∈ flatC (Jvm.Cond.and given_1 narrow_1) := List.mem_of_getElem? (i := 258) (by decide +kernel)
theorem nc_1_4 : Cond.not (.castable (xN 1) (xN 4)) ∈ flatC (Jvm.Cond.and given_1 narrow_1) := List.mem_of_getElem? (i := 289) (by decide +kernel)
theorem nc_1_5 : Cond.not (.castable (xN 1) (xN 5)) ∈ flatC (Jvm.Cond.and given_1 narrow_1) := List.mem_of_getElem? (i := 273) (by decide +kernel)
theorem nc_2_1 : Cond.not (.castable (xN 2) (xN 1)) ∈ flatC (Jvm.Cond.and given_1 narrow_1) := List.mem_of_getElem? (i := 226) (by decide +kernel)
theorem nc_2_3 : Cond.not (.castable (xN 2) (xN 3)) ∈ flatC (Jvm.Cond.and given_1 narrow_1) := List.mem_of_getElem? (i := 259) (by decide +kernel)
theorem nc_2_4 : Cond.not (.castable (xN 2) (xN 4)) ∈ flatC (Jvm.Cond.and given_1 narrow_1) := List.mem_of_getElem? (i := 290) (by decide +kernel)
theorem nc_2_5 : Cond.not (.castable (xN 2) (xN 5)) ∈ flatC (Jvm.Cond.and given_1 narrow_1) := List.mem_of_getElem? (i := 274) (by decide +kernel)
theorem nc_3_1 : Cond.not (.castable (xN 3) (xN 1)) ∈ flatC (Jvm.Cond.and given_1 narrow_1) := List.mem_of_getElem? (i := 228) (by decide +kernel)
theorem nc_3_2 : Cond.not (.castable (xN 3) (xN 2)) ∈ flatC (Jvm.Cond.and given_1 narrow_1) := List.mem_of_getElem? (i := 244) (by decide +kernel)
theorem nc_3_4 : Cond.not (.castable (xN 3) (xN 4)) ∈ flatC (Jvm.Cond.and given_1 narrow_1) := List.mem_of_getElem? (i := 292) (by decide +kernel)
theorem nc_3_5 : Cond.not (.castable (xN 3) (xN 5)) ∈ flatC (Jvm.Cond.and given_1 narrow_1) := List.mem_of_getElem? (i := 276) (by decide +kernel)
theorem nc_4_1 : Cond.not (.castable (xN 4) (xN 1)) ∈ flatC (Jvm.Cond.and given_1 narrow_1) := List.mem_of_getElem? (i := 232) (by decide +kernel)
theorem nc_4_2 : Cond.not (.castable (xN 4) (xN 2)) ∈ flatC (Jvm.Cond.and given_1 narrow_1) := List.mem_of_getElem? (i := 248) (by decide +kernel)
theorem nc_4_3 : Cond.not (.castable (xN 4) (xN 3)) ∈ flatC (Jvm.Cond.and given_1 narrow_1) := List.mem_of_getElem? (i := 263) (by decide +kernel)
theorem nc_4_5 : Cond.not (.castable (xN 4) (xN 5)) ∈ flatC (Jvm.Cond.and given_1 narrow_1) := List.mem_of_getElem? (i := 279) (by decide +kernel)
theorem nc_5_1 : Cond.not (.castable (xN 5) (xN 1)) ∈ flatC (Jvm.Cond.and given_1 narrow_1) := List.mem_of_getElem? (i := 231) (by decide +kernel)
theorem nc_5_2 : Cond.not (.castable (xN 5) (xN 2)) ∈ flatC (Jvm.Cond.and given_1 narrow_1) := List.mem_of_getElem? (i := 247) (by decide +kernel)
theorem nc_5_3 : Cond.not (.castable (xN 5) (xN 3)) ∈ flatC (Jvm.Cond.and given_1 narrow_1) := List.mem_of_getElem? (i := 262) (by decide +kernel)
theorem nc_5_4 : Cond.not (.castable (xN 5) (xN 4)) ∈ flatC (Jvm.Cond.and given_1 narrow_1) := List.mem_of_getElem? (i := 295) (by decide +kernel)
theorem gs_1 : Cond.isRef (.static Bundle.tN "UNASSIGNED_STACK" Bundle.steD) ∈ flatC (Jvm.Cond.and given_1 narrow_1) := List.mem_of_getElem? (i := 9) (by decide +kernel)
theorem gs_2 : Cond.isRef (.static Bundle.tN "SUPPRESSED_SENTINEL" Bundle.listD) ∈ flatC (Jvm.Cond.and given_1 narrow_1) := List.mem_of_getElem? (i := 10) (by decide +kernel)
theorem gs_3 : Cond.isRef (.static "jdk/internal/util/Preconditions" "SIOOBE_FORMATTER" "Ljava/util/function/BiFunction;") ∈ flatC (Jvm.Cond.and given_1 narrow_1) := List.mem_of_getElem? (i := 5) (by decide +kernel)
theorem gs_4 : Cond.eq (.static "java/lang/String" "COMPACT_STRINGS" "Z") (.int 1) ∈ flatC (Jvm.Cond.and given_1 narrow_1) := List.mem_of_getElem? (i := 4) (by decide +kernel)
theorem gs_5 : Cond.arrayOf (.static "java/lang/Integer" "DigitOnes" "[B") .byte ∈ flatC (Jvm.Cond.and given_1 narrow_1) := List.mem_of_getElem? (i := 12) (by decide +kernel)
theorem gs_6 : Cond.eq (.length (.static "java/lang/Integer" "DigitOnes" "[B")) (.int 100) ∈ flatC (Jvm.Cond.and given_1 narrow_1) := List.mem_of_getElem? (i := 13) (by decide +kernel)
theorem fl_dig : ((flatC (Jvm.Cond.and given_1 narrow_1)).drop 14).take 100 = (List.range 100).map (fun j => Cond.eq (.elem (.static "java/lang/Integer" "DigitOnes" "[B") (.int (Int32.ofNat j))) (.int (dOne j))) := by decide +kernel
def tmS (i : Nat) : Term := .string (cN 12) (kx.getD i 0)
def tmV (i : Nat) : Term := .field (tmS i) "java/lang/String" "value" "[B"
def lsS (i : Nat) : List Cond := Cond.exactly (tmS i) "java/lang/String" :: Cond.eq (.field (tmS i) "java/lang/String" "coder" "B") (.int 0) :: Cond.arrayOf (tmV i) .byte :: Cond.eq (.length (tmV i)) (.int (Int32.ofNat (kl.getD i 0))) :: (List.range (kl.getD i 0)).map (fun j => Cond.eq (.elem (tmV i) (.int (Int32.ofNat j))) (.int ((kb.getD i []).getD j 0)))
theorem fl_s0 : ((flatC (Jvm.Cond.and given_1 narrow_1)).drop 470).take 12 = lsS 0 := by decide +kernel
theorem fl_s1 : ((flatC (Jvm.Cond.and given_1 narrow_1)).drop 482).take 6 = lsS 1 := by decide +kernel
theorem fl_s2 : ((flatC (Jvm.Cond.and given_1 narrow_1)).drop 495).take 5 = lsS 2 := by decide +kernel
theorem fl_s3 : ((flatC (Jvm.Cond.and given_1 narrow_1)).drop 500).take 6 = lsS 3 := by decide +kernel
theorem fl_s4 : ((flatC (Jvm.Cond.and given_1 narrow_1)).drop 506).take 5 = lsS 4 := by decide +kernel
theorem fl_s5 : ((flatC (Jvm.Cond.and given_1 narrow_1)).drop 511).take 8 = lsS 5 := by decide +kernel
theorem fl_s6 : ((flatC (Jvm.Cond.and given_1 narrow_1)).drop 519).take 5 = lsS 6 := by decide +kernel
theorem fl_s7 : ((flatC (Jvm.Cond.and given_1 narrow_1)).drop 524).take 6 = lsS 7 := by decide +kernel
theorem fl_s8 : ((flatC (Jvm.Cond.and given_1 narrow_1)).drop 530).take 5 = lsS 8 := by decide +kernel
theorem fl_s9 : ((flatC (Jvm.Cond.and given_1 narrow_1)).drop 535).take 5 = lsS 9 := by decide +kernel
theorem fl_s10 : ((flatC (Jvm.Cond.and given_1 narrow_1)).drop 296).take 4 = lsS 10 := by decide +kernel
theorem fl_s11 : ((flatC (Jvm.Cond.and given_1 narrow_1)).drop 465).take 5 = lsS 11 := by decide +kernel
theorem sr_0 : Cond.stringRef (cN 12) (kx.getD 0 0) (kt.getD 0 "") ∈ lw_tbl := List.mem_of_getElem? (i := 836) (by decide +kernel)
theorem sr_1 : Cond.stringRef (cN 12) (kx.getD 1 0) (kt.getD 1 "") ∈ lw_tbl := List.mem_of_getElem? (i := 850) (by decide +kernel)
theorem sr_2 : Cond.stringRef (cN 12) (kx.getD 2 0) (kt.getD 2 "") ∈ lw_tbl := List.mem_of_getElem? (i := 935) (by decide +kernel)
theorem sr_3 : Cond.stringRef (cN 12) (kx.getD 3 0) (kt.getD 3 "") ∈ lw_tbl := List.mem_of_getElem? (i := 936) (by decide +kernel)
theorem sr_4 : Cond.stringRef (cN 12) (kx.getD 4 0) (kt.getD 4 "") ∈ lw_tbl := List.mem_of_getElem? (i := 937) (by decide +kernel)
theorem sr_5 : Cond.stringRef (cN 12) (kx.getD 5 0) (kt.getD 5 "") ∈ lw_tbl := List.mem_of_getElem? (i := 938) (by decide +kernel)
theorem sr_6 : Cond.stringRef (cN 12) (kx.getD 6 0) (kt.getD 6 "") ∈ lw_tbl := List.mem_of_getElem? (i := 939) (by decide +kernel)
theorem sr_7 : Cond.stringRef (cN 12) (kx.getD 7 0) (kt.getD 7 "") ∈ lw_tbl := List.mem_of_getElem? (i := 941) (by decide +kernel)
theorem sr_8 : Cond.stringRef (cN 12) (kx.getD 8 0) (kt.getD 8 "") ∈ lw_tbl := List.mem_of_getElem? (i := 942) (by decide +kernel)
theorem sr_9 : Cond.stringRef (cN 12) (kx.getD 9 0) (kt.getD 9 "") ∈ lw_tbl := List.mem_of_getElem? (i := 943) (by decide +kernel)
theorem sr_10 : Cond.stringRef (cN 12) (kx.getD 10 0) (kt.getD 10 "") ∈ lw_tbl := List.mem_of_getElem? (i := 343) (by decide +kernel)
theorem sr_11 : Cond.stringRef (cN 12) (kx.getD 11 0) (kt.getD 11 "") ∈ lw_tbl := List.mem_of_getElem? (i := 832) (by decide +kernel)
theorem ls_1 : Cond.laysStatic Bundle.tN "UNASSIGNED_STACK" Bundle.steD ∈ lw_tbl := List.mem_of_getElem? (i := 431) (by decide +kernel)
theorem ls_2 : Cond.laysStatic Bundle.tN "SUPPRESSED_SENTINEL" Bundle.listD ∈ lw_tbl := List.mem_of_getElem? (i := 433) (by decide +kernel)
theorem ls_3 : Cond.initialized Bundle.tN ∈ lw_tbl := List.mem_of_getElem? (i := 70) (by decide +kernel)
theorem lz_0 : Cond.laysStatic "jdk/internal/util/Preconditions" "SIOOBE_FORMATTER" "Ljava/util/function/BiFunction;" ∈ lw_tbl := List.mem_of_getElem? (i := 372) (by decide +kernel)
theorem li_0 : Cond.initialized "jdk/internal/util/Preconditions" ∈ lw_tbl := List.mem_of_getElem? (i := 68) (by decide +kernel)
theorem lz_1 : Cond.laysStatic "java/lang/String" "COMPACT_STRINGS" "Z" ∈ lw_tbl := List.mem_of_getElem? (i := 356) (by decide +kernel)
theorem li_1 : Cond.initialized "java/lang/String" ∈ lw_tbl := List.mem_of_getElem? (i := 66) (by decide +kernel)
theorem lz_2 : Cond.laysStatic "java/lang/Integer" "DigitOnes" "[B" ∈ lw_tbl := List.mem_of_getElem? (i := 903) (by decide +kernel)
theorem li_2 : Cond.initialized "java/lang/Integer" ∈ lw_tbl := List.mem_of_getElem? (i := 86) (by decide +kernel)
theorem jp_s : Cond.selects nSB jIL jIL ∈ lw_tbl := List.mem_of_getElem? (i := 780) (by decide +kernel)
theorem jp_p0 : Cond.privateMethod (⟨"java/lang/AbstractStringBuilder", "ensureCapacityInternal", "(I)V"⟩ : MethodName) ∈ lw_tbl := List.mem_of_getElem? (i := 743) (by decide +kernel)
theorem jp_i0 : Cond.instanceMethod (⟨"java/lang/AbstractStringBuilder", "ensureCapacityInternal", "(I)V"⟩ : MethodName) ∈ lw_tbl := List.mem_of_getElem? (i := 744) (by decide +kernel)
theorem jp_p1 : Cond.privateMethod (⟨"java/lang/AbstractStringBuilder", "newCapacity", "(I)I"⟩ : MethodName) ∈ lw_tbl := List.mem_of_getElem? (i := 747) (by decide +kernel)
theorem jp_i1 : Cond.instanceMethod (⟨"java/lang/AbstractStringBuilder", "newCapacity", "(I)I"⟩ : MethodName) ∈ lw_tbl := List.mem_of_getElem? (i := 748) (by decide +kernel)
theorem jp_p2 : Cond.privateMethod (⟨"java/lang/AbstractStringBuilder", "putStringAt", "(ILjava/lang/String;)V"⟩ : MethodName) ∈ lw_tbl := List.mem_of_getElem? (i := 799) (by decide +kernel)
theorem jp_i2 : Cond.instanceMethod (⟨"java/lang/AbstractStringBuilder", "putStringAt", "(ILjava/lang/String;)V"⟩ : MethodName) ∈ lw_tbl := List.mem_of_getElem? (i := 800) (by decide +kernel)
theorem jp_p3 : Cond.privateMethod (⟨"java/lang/AbstractStringBuilder", "inflateIfNeededFor", "(Ljava/lang/String;)V"⟩ : MethodName) ∈ lw_tbl := List.mem_of_getElem? (i := 803) (by decide +kernel)
theorem jp_i3 : Cond.instanceMethod (⟨"java/lang/AbstractStringBuilder", "inflateIfNeededFor", "(Ljava/lang/String;)V"⟩ : MethodName) ∈ lw_tbl := List.mem_of_getElem? (i := 804) (by decide +kernel)
theorem ji_9 : Cond.instantiable "java/lang/StringBuilder" 4 ∈ TS := ts_mem (i := 702) (by decide +kernel) rfl
theorem ji_10 : Cond.instantiable "java/lang/String" 4 ∈ TS := ts_mem (i := 526) (by decide +kernel) rfl
theorem inst_in {ci : Nat} (h : ci < 9) : Cond.instantiable (cN ci) (nf ci) ∈ TS := by
  rcases (show ci = 0 ∨ ci = 1 ∨ ci = 2 ∨ ci = 3 ∨ ci = 4 ∨ ci = 5 ∨ ci = 6 ∨ ci = 7 ∨ ci = 8 by omega) with rfl | rfl | rfl | rfl | rfl | rfl | rfl | rfl | rfl
  · exact iw_100
  · exact iw_176
  · exact iw_120
  · exact iw_252
  · exact iw_170
  · exact iw_262
  · exact iw_139
  · exact iw_236
  · exact iw_92
