/-! the constructors: printed by gen_init.py -/
theorem id_MO_0 : decode prog_13_method_1_code 0 = .ok (.aload_n 0, 1) := by decide +kernel
theorem id_MO_1 : decode prog_13_method_1_code 1 = .ok (.invokespecial 1, 3) := by decide +kernel
theorem id_MO_4 : decode prog_13_method_1_code 4 = .ok (.aload_n 0, 1) := by decide +kernel
theorem id_MO_5 : decode prog_13_method_1_code 5 = .ok (.bipush 60, 2) := by decide +kernel
theorem id_MO_7 : decode prog_13_method_1_code 7 = .ok (.newarray .int, 2) := by decide +kernel
theorem id_MO_9 : decode prog_13_method_1_code 9 = .ok (.putfield 7, 3) := by decide +kernel
theorem id_MO_12 : decode prog_13_method_1_code 12 = .ok (.aload_n 0, 1) := by decide +kernel
theorem id_MO_13 : decode prog_13_method_1_code 13 = .ok (.bipush 60, 2) := by decide +kernel
theorem id_MO_15 : decode prog_13_method_1_code 15 = .ok (.newarray .int, 2) := by decide +kernel
theorem id_MO_17 : decode prog_13_method_1_code 17 = .ok (.putfield 13, 3) := by decide +kernel
theorem id_MO_20 : decode prog_13_method_1_code 20 = .ok (.aload_n 0, 1) := by decide +kernel
theorem id_MO_21 : decode prog_13_method_1_code 21 = .ok (.bipush 60, 2) := by decide +kernel
theorem id_MO_23 : decode prog_13_method_1_code 23 = .ok (.newarray .int, 2) := by decide +kernel
theorem id_MO_25 : decode prog_13_method_1_code 25 = .ok (.putfield 16, 3) := by decide +kernel
theorem id_MO_28 : decode prog_13_method_1_code 28 = .ok (.aload_n 0, 1) := by decide +kernel
theorem id_MO_29 : decode prog_13_method_1_code 29 = .ok (.bipush 60, 2) := by decide +kernel
theorem id_MO_31 : decode prog_13_method_1_code 31 = .ok (.newarray .int, 2) := by decide +kernel
theorem id_MO_33 : decode prog_13_method_1_code 33 = .ok (.putfield 19, 3) := by decide +kernel
theorem id_MO_36 : decode prog_13_method_1_code 36 = .ok (.aload_n 0, 1) := by decide +kernel
theorem id_MO_37 : decode prog_13_method_1_code 37 = .ok (.iconst 5, 1) := by decide +kernel
theorem id_MO_38 : decode prog_13_method_1_code 38 = .ok (.newarray .int, 2) := by decide +kernel
theorem id_MO_40 : decode prog_13_method_1_code 40 = .ok (.putfield 22, 3) := by decide +kernel
theorem id_MO_43 : decode prog_13_method_1_code 43 = .ok (.aload_n 0, 1) := by decide +kernel
theorem id_MO_44 : decode prog_13_method_1_code 44 = .ok (.bipush 80, 2) := by decide +kernel
theorem id_MO_46 : decode prog_13_method_1_code 46 = .ok (.newarray .int, 2) := by decide +kernel
theorem id_MO_48 : decode prog_13_method_1_code 48 = .ok (.putfield 25, 3) := by decide +kernel
theorem id_MO_51 : decode prog_13_method_1_code 51 = .ok (.aload_n 0, 1) := by decide +kernel
theorem id_MO_52 : decode prog_13_method_1_code 52 = .ok (.iconst (-1), 1) := by decide +kernel
theorem id_MO_53 : decode prog_13_method_1_code 53 = .ok (.putfield 28, 3) := by decide +kernel
theorem id_MO_56 : decode prog_13_method_1_code 56 = .ok (.aload_n 0, 1) := by decide +kernel
theorem id_MO_57 : decode prog_13_method_1_code 57 = .ok (.bipush 32, 2) := by decide +kernel
theorem id_MO_59 : decode prog_13_method_1_code 59 = .ok (.newarray .int, 2) := by decide +kernel
theorem id_MO_61 : decode prog_13_method_1_code 61 = .ok (.putfield 32, 3) := by decide +kernel
theorem id_MO_64 : decode prog_13_method_1_code 64 = .ok (.aload_n 0, 1) := by decide +kernel
theorem id_MO_65 : decode prog_13_method_1_code 65 = .ok (.bipush 32, 2) := by decide +kernel
theorem id_MO_67 : decode prog_13_method_1_code 67 = .ok (.newarray .int, 2) := by decide +kernel
theorem id_MO_69 : decode prog_13_method_1_code 69 = .ok (.putfield 35, 3) := by decide +kernel
theorem id_MO_72 : decode prog_13_method_1_code 72 = .ok (.aload_n 0, 1) := by decide +kernel
theorem id_MO_73 : decode prog_13_method_1_code 73 = .ok (.sipush 456, 3) := by decide +kernel
theorem id_MO_76 : decode prog_13_method_1_code 76 = .ok (.newarray .long, 2) := by decide +kernel
theorem id_MO_78 : decode prog_13_method_1_code 78 = .ok (.putfield 38, 3) := by decide +kernel
theorem id_MO_81 : decode prog_13_method_1_code 81 = .ok (.aload_n 0, 1) := by decide +kernel
theorem id_MO_82 : decode prog_13_method_1_code 82 = .ok (.sipush 456, 3) := by decide +kernel
theorem id_MO_85 : decode prog_13_method_1_code 85 = .ok (.newarray .long, 2) := by decide +kernel
theorem id_MO_87 : decode prog_13_method_1_code 87 = .ok (.putfield 42, 3) := by decide +kernel
theorem id_MO_90 : decode prog_13_method_1_code 90 = .ok (.aload_n 0, 1) := by decide +kernel
theorem id_MO_91 : decode prog_13_method_1_code 91 = .ok (.sipush 1936, 3) := by decide +kernel
theorem id_MO_94 : decode prog_13_method_1_code 94 = .ok (.newarray .int, 2) := by decide +kernel
theorem id_MO_96 : decode prog_13_method_1_code 96 = .ok (.putfield 45, 3) := by decide +kernel
theorem id_MO_99 : decode prog_13_method_1_code 99 = .ok (.aload_n 0, 1) := by decide +kernel
theorem id_MO_100 : decode prog_13_method_1_code 100 = .ok (.sipush 1936, 3) := by decide +kernel
theorem id_MO_103 : decode prog_13_method_1_code 103 = .ok (.newarray .int, 2) := by decide +kernel
theorem id_MO_105 : decode prog_13_method_1_code 105 = .ok (.putfield 48, 3) := by decide +kernel
theorem id_MO_108 : decode prog_13_method_1_code 108 = .ok (.aload_n 0, 1) := by decide +kernel
theorem id_MO_109 : decode prog_13_method_1_code 109 = .ok (.bipush 120, 2) := by decide +kernel
theorem id_MO_111 : decode prog_13_method_1_code 111 = .ok (.newarray .int, 2) := by decide +kernel
theorem id_MO_113 : decode prog_13_method_1_code 113 = .ok (.putfield 51, 3) := by decide +kernel
theorem id_MO_116 : decode prog_13_method_1_code 116 = .ok (.aload_n 0, 1) := by decide +kernel
theorem id_MO_117 : decode prog_13_method_1_code 117 = .ok (.bipush 120, 2) := by decide +kernel
theorem id_MO_119 : decode prog_13_method_1_code 119 = .ok (.newarray .int, 2) := by decide +kernel
theorem id_MO_121 : decode prog_13_method_1_code 121 = .ok (.putfield 54, 3) := by decide +kernel
theorem id_MO_124 : decode prog_13_method_1_code 124 = .ok (.aload_n 0, 1) := by decide +kernel
theorem id_MO_125 : decode prog_13_method_1_code 125 = .ok (.sipush 200, 3) := by decide +kernel
theorem id_MO_128 : decode prog_13_method_1_code 128 = .ok (.newarray .int, 2) := by decide +kernel
theorem id_MO_130 : decode prog_13_method_1_code 130 = .ok (.putfield 57, 3) := by decide +kernel
theorem id_MO_133 : decode prog_13_method_1_code 133 = .ok (.aload_n 0, 1) := by decide +kernel
theorem id_MO_134 : decode prog_13_method_1_code 134 = .ok (.sipush 200, 3) := by decide +kernel
theorem id_MO_137 : decode prog_13_method_1_code 137 = .ok (.newarray .int, 2) := by decide +kernel
theorem id_MO_139 : decode prog_13_method_1_code 139 = .ok (.putfield 60, 3) := by decide +kernel
theorem id_MO_142 : decode prog_13_method_1_code 142 = .ok (.aload_n 0, 1) := by decide +kernel
theorem id_MO_143 : decode prog_13_method_1_code 143 = .ok (.sipush 1412, 3) := by decide +kernel
theorem id_MO_146 : decode prog_13_method_1_code 146 = .ok (.newarray .int, 2) := by decide +kernel
theorem id_MO_148 : decode prog_13_method_1_code 148 = .ok (.putfield 63, 3) := by decide +kernel
theorem id_MO_151 : decode prog_13_method_1_code 151 = .ok (.aload_n 0, 1) := by decide +kernel
theorem id_MO_152 : decode prog_13_method_1_code 152 = .ok (.sipush 1412, 3) := by decide +kernel
theorem id_MO_155 : decode prog_13_method_1_code 155 = .ok (.newarray .int, 2) := by decide +kernel
theorem id_MO_157 : decode prog_13_method_1_code 157 = .ok (.putfield 66, 3) := by decide +kernel
theorem id_MO_160 : decode prog_13_method_1_code 160 = .ok (.aload_n 0, 1) := by decide +kernel
theorem id_MO_161 : decode prog_13_method_1_code 161 = .ok (.bipush 6, 2) := by decide +kernel
theorem id_MO_163 : decode prog_13_method_1_code 163 = .ok (.newarray .int, 2) := by decide +kernel
theorem id_MO_165 : decode prog_13_method_1_code 165 = .ok (.putfield 69, 3) := by decide +kernel
theorem id_MO_168 : decode prog_13_method_1_code 168 = .ok (.aload_n 0, 1) := by decide +kernel
theorem id_MO_169 : decode prog_13_method_1_code 169 = .ok (.bipush 6, 2) := by decide +kernel
theorem id_MO_171 : decode prog_13_method_1_code 171 = .ok (.newarray .int, 2) := by decide +kernel
theorem id_MO_173 : decode prog_13_method_1_code 173 = .ok (.putfield 72, 3) := by decide +kernel
theorem id_MO_176 : decode prog_13_method_1_code 176 = .ok (.aload_n 0, 1) := by decide +kernel
theorem id_MO_177 : decode prog_13_method_1_code 177 = .ok (.bipush 6, 2) := by decide +kernel
theorem id_MO_179 : decode prog_13_method_1_code 179 = .ok (.newarray .int, 2) := by decide +kernel
theorem id_MO_181 : decode prog_13_method_1_code 181 = .ok (.putfield 75, 3) := by decide +kernel
theorem id_MO_184 : decode prog_13_method_1_code 184 = .ok (.aload_n 0, 1) := by decide +kernel
theorem id_MO_185 : decode prog_13_method_1_code 185 = .ok (.bipush 44, 2) := by decide +kernel
theorem id_MO_187 : decode prog_13_method_1_code 187 = .ok (.newarray .long, 2) := by decide +kernel
theorem id_MO_189 : decode prog_13_method_1_code 189 = .ok (.putfield 78, 3) := by decide +kernel
theorem id_MO_192 : decode prog_13_method_1_code 192 = .ok (.aload_n 0, 1) := by decide +kernel
theorem id_MO_193 : decode prog_13_method_1_code 193 = .ok (.sipush 200, 3) := by decide +kernel
theorem id_MO_196 : decode prog_13_method_1_code 196 = .ok (.newarray .int, 2) := by decide +kernel
theorem id_MO_198 : decode prog_13_method_1_code 198 = .ok (.putfield 81, 3) := by decide +kernel
theorem id_MO_201 : decode prog_13_method_1_code 201 = .ok (.return_, 1) := by decide +kernel
def wf_MO (κ : Nat → ClassId) (h0 : Nat) (a : Nat → Nat) : va_W := (h0, .inr (9, ((((((((((((((((((((((((dfl 9).set 1 (.ref (a 1))).set 2 (.ref (a 2))).set 3 (.ref (a 3))).set 4 (.ref (a 4))).set 5 (.ref (a 5))).set 7 (.ref (a 6))).set 10 (.int (-1))).set 14 (.ref (a 7))).set 15 (.ref (a 8))).set 17 (.ref (a 9))).set 18 (.ref (a 10))).set 21 (.ref (a 11))).set 22 (.ref (a 12))).set 24 (.ref (a 13))).set 25 (.ref (a 14))).set 26 (.ref (a 15))).set 27 (.ref (a 16))).set 30 (.ref (a 17))).set 31 (.ref (a 18))).set 32 (.ref (a 19))).set 33 (.ref (a 20))).set 34 (.ref (a 21))).set 35 (.ref (a 22))).set 41 (.ref (a 23)))) :: ((((((((((((((((((((((([] ++ [(a 1, .inl (κ 0, zA 0 60))]) ++ [(a 2, .inl (κ 0, zA 0 60))]) ++ [(a 3, .inl (κ 0, zA 0 60))]) ++ [(a 4, .inl (κ 0, zA 0 60))]) ++ [(a 5, .inl (κ 0, zA 0 5))]) ++ [(a 6, .inl (κ 0, zA 0 80))]) ++ [(a 7, .inl (κ 0, zA 0 32))]) ++ [(a 8, .inl (κ 0, zA 0 32))]) ++ [(a 9, .inl (κ 1, zA 1 456))]) ++ [(a 10, .inl (κ 1, zA 1 456))]) ++ [(a 11, .inl (κ 0, zA 0 1936))]) ++ [(a 12, .inl (κ 0, zA 0 1936))]) ++ [(a 13, .inl (κ 0, zA 0 120))]) ++ [(a 14, .inl (κ 0, zA 0 120))]) ++ [(a 15, .inl (κ 0, zA 0 200))]) ++ [(a 16, .inl (κ 0, zA 0 200))]) ++ [(a 17, .inl (κ 0, zA 0 1412))]) ++ [(a 18, .inl (κ 0, zA 0 1412))]) ++ [(a 19, .inl (κ 0, zA 0 6))]) ++ [(a 20, .inl (κ 0, zA 0 6))]) ++ [(a 21, .inl (κ 0, zA 0 6))]) ++ [(a 22, .inl (κ 1, zA 1 44))]) ++ [(a 23, .inl (κ 0, zA 0 200))])
set_option maxHeartbeats 4000000 in
set_option maxRecDepth 100000 in
theorem im_MO (l : Launch) (κ : Nat → ClassId) (D : va_G) : IMet l κ D (⟨"PointerAnalyzerModel", "<init>", "()V"⟩ : MethodName) prog_13_method_1_code 9 1 12 23 8899 (wf_MO κ) := by
  refine IMet_of (by decide +kernel) rfl rfl id_MO_0 id_MO_1 iw_1380 (by decide) (by decide) (fun p e s m args below meth c h0 A ls hx hb hml hr hown hlocks hin hC hl hP hD hA hS => ?_)
  have hP : va_P D clA ((h0, .inr (9, dfl 9)) :: []) s.heap := hP
  have hD : va_D A ((h0, .inr (9, dfl 9)) :: []) := hD
  have hL := dfl_len 9
  refine st_af (k := 1) (t := 0) (N := 60) (c1 := 1) (n1 := 60) hx hb hown hin hC hl hP hD hS hA hL (by decide) (by decide) (by decide) (by decide) (by decide) (Nat.le_of_ble_eq_true rfl) (Nat.le_of_ble_eq_true rfl) (Nat.le_of_ble_eq_true rfl) (Nat.le_of_ble_eq_true rfl) (Nat.le_of_ble_eq_true rfl) iw_1382 ff_9_1 id_MO_4 (fun K => lv_bipush (v := 60) hx hb id_MO_5 (by decide) K) id_MO_7 id_MO_9 (fun q5 H locs hP hD hS hL => ?_)
  refine st_af (k := 2) (t := 0) (N := 60) (c1 := 2) (n1 := 120) hx hb hown hin hC hl hP hD hS hA hL (by decide) (by decide) (by decide) (by decide) (by decide) (Nat.le_of_ble_eq_true rfl) (Nat.le_of_ble_eq_true rfl) (Nat.le_of_ble_eq_true rfl) (Nat.le_of_ble_eq_true rfl) (Nat.le_of_ble_eq_true rfl) iw_1383 ff_9_2 id_MO_12 (fun K => lv_bipush (v := 60) hx hb id_MO_13 (by decide) K) id_MO_15 id_MO_17 (fun q13 H locs hP hD hS hL => ?_)
  refine st_af (k := 3) (t := 0) (N := 60) (c1 := 3) (n1 := 180) hx hb hown hin hC hl hP hD hS hA hL (by decide) (by decide) (by decide) (by decide) (by decide) (Nat.le_of_ble_eq_true rfl) (Nat.le_of_ble_eq_true rfl) (Nat.le_of_ble_eq_true rfl) (Nat.le_of_ble_eq_true rfl) (Nat.le_of_ble_eq_true rfl) iw_1384 ff_9_3 id_MO_20 (fun K => lv_bipush (v := 60) hx hb id_MO_21 (by decide) K) id_MO_23 id_MO_25 (fun q21 H locs hP hD hS hL => ?_)
  refine st_af (k := 4) (t := 0) (N := 60) (c1 := 4) (n1 := 240) hx hb hown hin hC hl hP hD hS hA hL (by decide) (by decide) (by decide) (by decide) (by decide) (Nat.le_of_ble_eq_true rfl) (Nat.le_of_ble_eq_true rfl) (Nat.le_of_ble_eq_true rfl) (Nat.le_of_ble_eq_true rfl) (Nat.le_of_ble_eq_true rfl) iw_1385 ff_9_4 id_MO_28 (fun K => lv_bipush (v := 60) hx hb id_MO_29 (by decide) K) id_MO_31 id_MO_33 (fun q29 H locs hP hD hS hL => ?_)
  refine st_af (k := 5) (t := 0) (N := 5) (c1 := 5) (n1 := 245) hx hb hown hin hC hl hP hD hS hA hL (by decide) (by decide) (by decide) (by decide) (by decide) (Nat.le_of_ble_eq_true rfl) (Nat.le_of_ble_eq_true rfl) (Nat.le_of_ble_eq_true rfl) (Nat.le_of_ble_eq_true rfl) (Nat.le_of_ble_eq_true rfl) iw_1386 ff_9_5 id_MO_36 (fun K => lv_iconst (v := 5) hx hb id_MO_37 (by decide) K) id_MO_38 id_MO_40 (fun q37 H locs hP hD hS hL => ?_)
  refine st_af (k := 7) (t := 0) (N := 80) (c1 := 6) (n1 := 325) hx hb hown hin hC hl hP hD hS hA hL (by decide) (by decide) (by decide) (by decide) (by decide) (Nat.le_of_ble_eq_true rfl) (Nat.le_of_ble_eq_true rfl) (Nat.le_of_ble_eq_true rfl) (Nat.le_of_ble_eq_true rfl) (Nat.le_of_ble_eq_true rfl) iw_1388 ff_9_7 id_MO_43 (fun K => lv_bipush (v := 80) hx hb id_MO_44 (by decide) K) id_MO_46 id_MO_48 (fun q44 H locs hP hD hS hL => ?_)
  refine lv_aload_n hx hb id_MO_51 rfl (lv_at hl 0 rfl) ?_
  refine lv_iconst (v := (-1)) hx hb id_MO_52 (by decide) ?_
  refine st_pn (k := 10) (v := .int (-1)) hx hb hown hC hP hD hS (by decide) (by decide) iw_1391 rfl rfl rfl hL id_MO_53 (fun H locs hP hD hS => ?_)
  have hL : (List.set _ 10 (Value.int (-1))).length = nf 9 := (List.length_set ..).trans hL
  refine st_af (k := 14) (t := 0) (N := 32) (c1 := 7) (n1 := 357) hx hb hown hin hC hl hP hD hS hA hL (by decide) (by decide) (by decide) (by decide) (by decide) (Nat.le_of_ble_eq_true rfl) (Nat.le_of_ble_eq_true rfl) (Nat.le_of_ble_eq_true rfl) (Nat.le_of_ble_eq_true rfl) (Nat.le_of_ble_eq_true rfl) iw_1394 ff_9_14 id_MO_56 (fun K => lv_bipush (v := 32) hx hb id_MO_57 (by decide) K) id_MO_59 id_MO_61 (fun q57 H locs hP hD hS hL => ?_)
  refine st_af (k := 15) (t := 0) (N := 32) (c1 := 8) (n1 := 389) hx hb hown hin hC hl hP hD hS hA hL (by decide) (by decide) (by decide) (by decide) (by decide) (Nat.le_of_ble_eq_true rfl) (Nat.le_of_ble_eq_true rfl) (Nat.le_of_ble_eq_true rfl) (Nat.le_of_ble_eq_true rfl) (Nat.le_of_ble_eq_true rfl) iw_1395 ff_9_15 id_MO_64 (fun K => lv_bipush (v := 32) hx hb id_MO_65 (by decide) K) id_MO_67 id_MO_69 (fun q65 H locs hP hD hS hL => ?_)
  refine st_af (k := 17) (t := 1) (N := 456) (c1 := 9) (n1 := 845) hx hb hown hin hC hl hP hD hS hA hL (by decide) (by decide) (by decide) (by decide) (by decide) (Nat.le_of_ble_eq_true rfl) (Nat.le_of_ble_eq_true rfl) (Nat.le_of_ble_eq_true rfl) (Nat.le_of_ble_eq_true rfl) (Nat.le_of_ble_eq_true rfl) iw_1397 ff_9_17 id_MO_72 (fun K => lv_sipush (v := 456) hx hb id_MO_73 (by decide) K) id_MO_76 id_MO_78 (fun q73 H locs hP hD hS hL => ?_)
  refine st_af (k := 18) (t := 1) (N := 456) (c1 := 10) (n1 := 1301) hx hb hown hin hC hl hP hD hS hA hL (by decide) (by decide) (by decide) (by decide) (by decide) (Nat.le_of_ble_eq_true rfl) (Nat.le_of_ble_eq_true rfl) (Nat.le_of_ble_eq_true rfl) (Nat.le_of_ble_eq_true rfl) (Nat.le_of_ble_eq_true rfl) iw_1398 ff_9_18 id_MO_81 (fun K => lv_sipush (v := 456) hx hb id_MO_82 (by decide) K) id_MO_85 id_MO_87 (fun q82 H locs hP hD hS hL => ?_)
  refine st_af (k := 21) (t := 0) (N := 1936) (c1 := 11) (n1 := 3237) hx hb hown hin hC hl hP hD hS hA hL (by decide) (by decide) (by decide) (by decide) (by decide) (Nat.le_of_ble_eq_true rfl) (Nat.le_of_ble_eq_true rfl) (Nat.le_of_ble_eq_true rfl) (Nat.le_of_ble_eq_true rfl) (Nat.le_of_ble_eq_true rfl) iw_1401 ff_9_21 id_MO_90 (fun K => lv_sipush (v := 1936) hx hb id_MO_91 (by decide) K) id_MO_94 id_MO_96 (fun q91 H locs hP hD hS hL => ?_)
  refine st_af (k := 22) (t := 0) (N := 1936) (c1 := 12) (n1 := 5173) hx hb hown hin hC hl hP hD hS hA hL (by decide) (by decide) (by decide) (by decide) (by decide) (Nat.le_of_ble_eq_true rfl) (Nat.le_of_ble_eq_true rfl) (Nat.le_of_ble_eq_true rfl) (Nat.le_of_ble_eq_true rfl) (Nat.le_of_ble_eq_true rfl) iw_1402 ff_9_22 id_MO_99 (fun K => lv_sipush (v := 1936) hx hb id_MO_100 (by decide) K) id_MO_103 id_MO_105 (fun q100 H locs hP hD hS hL => ?_)
  refine st_af (k := 24) (t := 0) (N := 120) (c1 := 13) (n1 := 5293) hx hb hown hin hC hl hP hD hS hA hL (by decide) (by decide) (by decide) (by decide) (by decide) (Nat.le_of_ble_eq_true rfl) (Nat.le_of_ble_eq_true rfl) (Nat.le_of_ble_eq_true rfl) (Nat.le_of_ble_eq_true rfl) (Nat.le_of_ble_eq_true rfl) iw_1404 ff_9_24 id_MO_108 (fun K => lv_bipush (v := 120) hx hb id_MO_109 (by decide) K) id_MO_111 id_MO_113 (fun q109 H locs hP hD hS hL => ?_)
  refine st_af (k := 25) (t := 0) (N := 120) (c1 := 14) (n1 := 5413) hx hb hown hin hC hl hP hD hS hA hL (by decide) (by decide) (by decide) (by decide) (by decide) (Nat.le_of_ble_eq_true rfl) (Nat.le_of_ble_eq_true rfl) (Nat.le_of_ble_eq_true rfl) (Nat.le_of_ble_eq_true rfl) (Nat.le_of_ble_eq_true rfl) iw_1405 ff_9_25 id_MO_116 (fun K => lv_bipush (v := 120) hx hb id_MO_117 (by decide) K) id_MO_119 id_MO_121 (fun q117 H locs hP hD hS hL => ?_)
  refine st_af (k := 26) (t := 0) (N := 200) (c1 := 15) (n1 := 5613) hx hb hown hin hC hl hP hD hS hA hL (by decide) (by decide) (by decide) (by decide) (by decide) (Nat.le_of_ble_eq_true rfl) (Nat.le_of_ble_eq_true rfl) (Nat.le_of_ble_eq_true rfl) (Nat.le_of_ble_eq_true rfl) (Nat.le_of_ble_eq_true rfl) iw_1406 ff_9_26 id_MO_124 (fun K => lv_sipush (v := 200) hx hb id_MO_125 (by decide) K) id_MO_128 id_MO_130 (fun q125 H locs hP hD hS hL => ?_)
  refine st_af (k := 27) (t := 0) (N := 200) (c1 := 16) (n1 := 5813) hx hb hown hin hC hl hP hD hS hA hL (by decide) (by decide) (by decide) (by decide) (by decide) (Nat.le_of_ble_eq_true rfl) (Nat.le_of_ble_eq_true rfl) (Nat.le_of_ble_eq_true rfl) (Nat.le_of_ble_eq_true rfl) (Nat.le_of_ble_eq_true rfl) iw_1407 ff_9_27 id_MO_133 (fun K => lv_sipush (v := 200) hx hb id_MO_134 (by decide) K) id_MO_137 id_MO_139 (fun q134 H locs hP hD hS hL => ?_)
  refine st_af (k := 30) (t := 0) (N := 1412) (c1 := 17) (n1 := 7225) hx hb hown hin hC hl hP hD hS hA hL (by decide) (by decide) (by decide) (by decide) (by decide) (Nat.le_of_ble_eq_true rfl) (Nat.le_of_ble_eq_true rfl) (Nat.le_of_ble_eq_true rfl) (Nat.le_of_ble_eq_true rfl) (Nat.le_of_ble_eq_true rfl) iw_1410 ff_9_30 id_MO_142 (fun K => lv_sipush (v := 1412) hx hb id_MO_143 (by decide) K) id_MO_146 id_MO_148 (fun q143 H locs hP hD hS hL => ?_)
  refine st_af (k := 31) (t := 0) (N := 1412) (c1 := 18) (n1 := 8637) hx hb hown hin hC hl hP hD hS hA hL (by decide) (by decide) (by decide) (by decide) (by decide) (Nat.le_of_ble_eq_true rfl) (Nat.le_of_ble_eq_true rfl) (Nat.le_of_ble_eq_true rfl) (Nat.le_of_ble_eq_true rfl) (Nat.le_of_ble_eq_true rfl) iw_1411 ff_9_31 id_MO_151 (fun K => lv_sipush (v := 1412) hx hb id_MO_152 (by decide) K) id_MO_155 id_MO_157 (fun q152 H locs hP hD hS hL => ?_)
  refine st_af (k := 32) (t := 0) (N := 6) (c1 := 19) (n1 := 8643) hx hb hown hin hC hl hP hD hS hA hL (by decide) (by decide) (by decide) (by decide) (by decide) (Nat.le_of_ble_eq_true rfl) (Nat.le_of_ble_eq_true rfl) (Nat.le_of_ble_eq_true rfl) (Nat.le_of_ble_eq_true rfl) (Nat.le_of_ble_eq_true rfl) iw_1412 ff_9_32 id_MO_160 (fun K => lv_bipush (v := 6) hx hb id_MO_161 (by decide) K) id_MO_163 id_MO_165 (fun q161 H locs hP hD hS hL => ?_)
  refine st_af (k := 33) (t := 0) (N := 6) (c1 := 20) (n1 := 8649) hx hb hown hin hC hl hP hD hS hA hL (by decide) (by decide) (by decide) (by decide) (by decide) (Nat.le_of_ble_eq_true rfl) (Nat.le_of_ble_eq_true rfl) (Nat.le_of_ble_eq_true rfl) (Nat.le_of_ble_eq_true rfl) (Nat.le_of_ble_eq_true rfl) iw_1413 ff_9_33 id_MO_168 (fun K => lv_bipush (v := 6) hx hb id_MO_169 (by decide) K) id_MO_171 id_MO_173 (fun q169 H locs hP hD hS hL => ?_)
  refine st_af (k := 34) (t := 0) (N := 6) (c1 := 21) (n1 := 8655) hx hb hown hin hC hl hP hD hS hA hL (by decide) (by decide) (by decide) (by decide) (by decide) (Nat.le_of_ble_eq_true rfl) (Nat.le_of_ble_eq_true rfl) (Nat.le_of_ble_eq_true rfl) (Nat.le_of_ble_eq_true rfl) (Nat.le_of_ble_eq_true rfl) iw_1414 ff_9_34 id_MO_176 (fun K => lv_bipush (v := 6) hx hb id_MO_177 (by decide) K) id_MO_179 id_MO_181 (fun q177 H locs hP hD hS hL => ?_)
  refine st_af (k := 35) (t := 1) (N := 44) (c1 := 22) (n1 := 8699) hx hb hown hin hC hl hP hD hS hA hL (by decide) (by decide) (by decide) (by decide) (by decide) (Nat.le_of_ble_eq_true rfl) (Nat.le_of_ble_eq_true rfl) (Nat.le_of_ble_eq_true rfl) (Nat.le_of_ble_eq_true rfl) (Nat.le_of_ble_eq_true rfl) iw_1415 ff_9_35 id_MO_184 (fun K => lv_bipush (v := 44) hx hb id_MO_185 (by decide) K) id_MO_187 id_MO_189 (fun q185 H locs hP hD hS hL => ?_)
  refine st_af (k := 41) (t := 0) (N := 200) (c1 := 23) (n1 := 8899) hx hb hown hin hC hl hP hD hS hA hL (by decide) (by decide) (by decide) (by decide) (by decide) (Nat.le_of_ble_eq_true rfl) (Nat.le_of_ble_eq_true rfl) (Nat.le_of_ble_eq_true rfl) (Nat.le_of_ble_eq_true rfl) (Nat.le_of_ble_eq_true rfl) iw_1421 ff_9_41 id_MO_192 (fun K => lv_sipush (v := 200) hx hb id_MO_193 (by decide) K) id_MO_196 id_MO_198 (fun q193 H locs hP hD hS hL => ?_)
  exact W.vret hx hb hr (fun t ht hW => ⟨⟨(), rfl, trivial, fun c => ([h0, q5, q13, q21, q29, q37, q44, q57, q65, q73, q82, q91, q100, q109, q117, q125, q134, q143, q152, q161, q169, q177, q185, q193] : List Nat).getD c 0, by rw [ht]; exact hP, hD⟩, hS.F ht⟩) hS.2.2 id_MO_201
