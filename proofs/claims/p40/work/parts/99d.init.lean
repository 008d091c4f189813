/-! the constructors: printed by gen_init.py -/
theorem id_PA_0 : decode prog_1_method_1_code 0 = .ok (.aload_n 0, 1) := by decide +kernel
theorem id_PA_1 : decode prog_1_method_1_code 1 = .ok (.invokespecial 3, 3) := by decide +kernel
theorem id_PA_4 : decode prog_1_method_1_code 4 = .ok (.aload_n 0, 1) := by decide +kernel
theorem id_PA_5 : decode prog_1_method_1_code 5 = .ok (.new 9, 3) := by decide +kernel
theorem id_PA_8 : decode prog_1_method_1_code 8 = .ok (.dup, 1) := by decide +kernel
theorem id_PA_9 : decode prog_1_method_1_code 9 = .ok (.invokespecial 11, 3) := by decide +kernel
theorem id_PA_12 : decode prog_1_method_1_code 12 = .ok (.putfield 12, 3) := by decide +kernel
theorem id_PA_15 : decode prog_1_method_1_code 15 = .ok (.aload_n 0, 1) := by decide +kernel
theorem id_PA_16 : decode prog_1_method_1_code 16 = .ok (.new 16, 3) := by decide +kernel
theorem id_PA_19 : decode prog_1_method_1_code 19 = .ok (.dup, 1) := by decide +kernel
theorem id_PA_20 : decode prog_1_method_1_code 20 = .ok (.invokespecial 18, 3) := by decide +kernel
theorem id_PA_23 : decode prog_1_method_1_code 23 = .ok (.putfield 19, 3) := by decide +kernel
theorem id_PA_26 : decode prog_1_method_1_code 26 = .ok (.aload_n 0, 1) := by decide +kernel
theorem id_PA_27 : decode prog_1_method_1_code 27 = .ok (.new 23, 3) := by decide +kernel
theorem id_PA_30 : decode prog_1_method_1_code 30 = .ok (.dup, 1) := by decide +kernel
theorem id_PA_31 : decode prog_1_method_1_code 31 = .ok (.invokespecial 25, 3) := by decide +kernel
theorem id_PA_34 : decode prog_1_method_1_code 34 = .ok (.putfield 26, 3) := by decide +kernel
theorem id_PA_37 : decode prog_1_method_1_code 37 = .ok (.aload_n 0, 1) := by decide +kernel
theorem id_PA_38 : decode prog_1_method_1_code 38 = .ok (.new 23, 3) := by decide +kernel
theorem id_PA_41 : decode prog_1_method_1_code 41 = .ok (.dup, 1) := by decide +kernel
theorem id_PA_42 : decode prog_1_method_1_code 42 = .ok (.invokespecial 25, 3) := by decide +kernel
theorem id_PA_45 : decode prog_1_method_1_code 45 = .ok (.putfield 30, 3) := by decide +kernel
theorem id_PA_48 : decode prog_1_method_1_code 48 = .ok (.aload_n 0, 1) := by decide +kernel
theorem id_PA_49 : decode prog_1_method_1_code 49 = .ok (.new 33, 3) := by decide +kernel
theorem id_PA_52 : decode prog_1_method_1_code 52 = .ok (.dup, 1) := by decide +kernel
theorem id_PA_53 : decode prog_1_method_1_code 53 = .ok (.invokespecial 35, 3) := by decide +kernel
theorem id_PA_56 : decode prog_1_method_1_code 56 = .ok (.putfield 36, 3) := by decide +kernel
theorem id_PA_59 : decode prog_1_method_1_code 59 = .ok (.aload_n 0, 1) := by decide +kernel
theorem id_PA_60 : decode prog_1_method_1_code 60 = .ok (.new 33, 3) := by decide +kernel
theorem id_PA_63 : decode prog_1_method_1_code 63 = .ok (.dup, 1) := by decide +kernel
theorem id_PA_64 : decode prog_1_method_1_code 64 = .ok (.invokespecial 35, 3) := by decide +kernel
theorem id_PA_67 : decode prog_1_method_1_code 67 = .ok (.putfield 40, 3) := by decide +kernel
theorem id_PA_70 : decode prog_1_method_1_code 70 = .ok (.aload_n 0, 1) := by decide +kernel
theorem id_PA_71 : decode prog_1_method_1_code 71 = .ok (.new 43, 3) := by decide +kernel
theorem id_PA_74 : decode prog_1_method_1_code 74 = .ok (.dup, 1) := by decide +kernel
theorem id_PA_75 : decode prog_1_method_1_code 75 = .ok (.invokespecial 45, 3) := by decide +kernel
theorem id_PA_78 : decode prog_1_method_1_code 78 = .ok (.putfield 46, 3) := by decide +kernel
theorem id_PA_81 : decode prog_1_method_1_code 81 = .ok (.aload_n 0, 1) := by decide +kernel
theorem id_PA_82 : decode prog_1_method_1_code 82 = .ok (.new 50, 3) := by decide +kernel
theorem id_PA_85 : decode prog_1_method_1_code 85 = .ok (.dup, 1) := by decide +kernel
theorem id_PA_86 : decode prog_1_method_1_code 86 = .ok (.invokespecial 52, 3) := by decide +kernel
theorem id_PA_89 : decode prog_1_method_1_code 89 = .ok (.putfield 53, 3) := by decide +kernel
theorem id_PA_92 : decode prog_1_method_1_code 92 = .ok (.aload_n 0, 1) := by decide +kernel
theorem id_PA_93 : decode prog_1_method_1_code 93 = .ok (.new 57, 3) := by decide +kernel
theorem id_PA_96 : decode prog_1_method_1_code 96 = .ok (.dup, 1) := by decide +kernel
theorem id_PA_97 : decode prog_1_method_1_code 97 = .ok (.invokespecial 59, 3) := by decide +kernel
theorem id_PA_100 : decode prog_1_method_1_code 100 = .ok (.putfield 60, 3) := by decide +kernel
theorem id_PA_103 : decode prog_1_method_1_code 103 = .ok (.aload_n 0, 1) := by decide +kernel
theorem id_PA_104 : decode prog_1_method_1_code 104 = .ok (.iconst (-1), 1) := by decide +kernel
theorem id_PA_105 : decode prog_1_method_1_code 105 = .ok (.putfield 64, 3) := by decide +kernel
theorem id_PA_108 : decode prog_1_method_1_code 108 = .ok (.aload_n 0, 1) := by decide +kernel
theorem id_PA_109 : decode prog_1_method_1_code 109 = .ok (.iconst 0, 1) := by decide +kernel
theorem id_PA_110 : decode prog_1_method_1_code 110 = .ok (.putfield 68, 3) := by decide +kernel
theorem id_PA_113 : decode prog_1_method_1_code 113 = .ok (.return_, 1) := by decide +kernel
def wf_PA (κ : Nat → ClassId) (h0 : Nat) (a : Nat → Nat) : va_W := (h0, .inr (8, [.ref (a 1), .ref (a 3), .ref (a 5), .ref (a 12), .ref (a 19), .ref (a 30), .ref (a 41), .ref (a 44), .ref (a 46), .int (-1), .int 0])) :: (((((((((wf_BT κ (a 1) (fun i => a (1 + i))) ++ wf_DR κ (a 3) (fun i => a (3 + i))) ++ wf_PR κ (a 5) (fun i => a (5 + i))) ++ wf_PR κ (a 12) (fun i => a (12 + i))) ++ wf_IN κ (a 19) (fun i => a (19 + i))) ++ wf_IN κ (a 30) (fun i => a (30 + i))) ++ wf_UN κ (a 41) (fun i => a (41 + i))) ++ wf_GR κ (a 44) (fun i => a (44 + i))) ++ wf_MA κ (a 46) (fun i => a (46 + i)))
set_option maxHeartbeats 4000000 in
set_option maxRecDepth 100000 in
theorem im_PA (l : Launch) (κ : Nat → ClassId) (D : va_G) : IMet l κ D (⟨"PointerAnalyzer", "<init>", "()V"⟩ : MethodName) prog_1_method_1_code 8 3 52 52 12763 (wf_PA κ) := by
  refine IMet_of (by decide +kernel) rfl rfl id_PA_0 id_PA_1 iw_96 (by decide) (by decide) (fun p e s m args below meth c h0 A ls hx hb hml hr hown hlocks hin hC hl hP hD hA hS => ?_)
  have hP : va_P D clA ((h0, .inr (8, dfl 8)) :: []) s.heap := hP
  have hD : va_D A ((h0, .inr (8, dfl 8)) :: []) := hD
  have hL := dfl_len 8
  refine lv_aload_n hx hb id_PA_4 rfl (lv_at hl 0 rfl) ?_
  refine st_new (cj := 0) hx hb hown hC hP hD hS hA (by decide) iw_99 iw_100 iw_58 (Nat.le_of_ble_eq_true rfl) (Nat.le_of_ble_eq_true rfl) id_PA_5 (fun q5 H hP hD hS => ?_)
  refine W.widen (k := 1) (n := 4) (Nat.le_of_ble_eq_true rfl) (Nat.le_of_ble_eq_true rfl) ?_
  refine lv_dup hx hb id_PA_8 rfl ?_
  refine st_cn (y := (⟨"PointerAnalyzer$BodyText", "<init>", "()V"⟩ : MethodName)) (ci := 0) hx hb hml hown hC hl.1 hP hD hS hA (im_BT l κ D) ⟨Nat.le_of_ble_eq_true rfl, Nat.le_of_ble_eq_true rfl⟩ iw_103 iw_58 ⟨by decide, by decide⟩ (by decide +kernel) iw_101 rfl iw_102 (Nat.le_of_ble_eq_true rfl) ⟨Nat.le_of_ble_eq_true rfl, Nat.le_of_ble_eq_true rfl⟩ id_PA_9 (fun a5 H locs hP hD hS => ?_)
  refine W.widen (k := 2) (n := 84) (Nat.le_of_ble_eq_true rfl) (Nat.le_of_ble_eq_true rfl) ?_
  rw [List.cons_append] at hP hD
  refine st_pr (k := 0) hx hb hown hin hC hP hD hS (by decide) (by decide) iw_301 ff_8_0 hL id_PA_12 (fun H locs hP hD hS hL => ?_)
  refine lv_aload_n hx hb id_PA_15 rfl (lv_at hl 0 rfl) ?_
  refine st_new (cj := 2) hx hb hown hC hP hD hS hA (by decide) iw_119 iw_120 iw_59 (Nat.le_of_ble_eq_true rfl) (Nat.le_of_ble_eq_true rfl) id_PA_16 (fun q16 H hP hD hS => ?_)
  refine W.widen (k := 3) (n := 88) (Nat.le_of_ble_eq_true rfl) (Nat.le_of_ble_eq_true rfl) ?_
  refine lv_dup hx hb id_PA_19 rfl ?_
  refine st_cn (y := (⟨"PointerAnalyzer$Draft", "<init>", "()V"⟩ : MethodName)) (ci := 2) hx hb hml hown hC hl.1 hP hD hS hA (im_DR l κ D) ⟨Nat.le_of_ble_eq_true rfl, Nat.le_of_ble_eq_true rfl⟩ iw_123 iw_59 ⟨by decide, by decide⟩ (by decide +kernel) iw_121 rfl iw_122 (Nat.le_of_ble_eq_true rfl) ⟨Nat.le_of_ble_eq_true rfl, Nat.le_of_ble_eq_true rfl⟩ id_PA_20 (fun a16 H locs hP hD hS => ?_)
  refine W.widen (k := 4) (n := 100) (Nat.le_of_ble_eq_true rfl) (Nat.le_of_ble_eq_true rfl) ?_
  rw [List.cons_append] at hP hD
  refine st_pr (k := 1) hx hb hown hin hC hP hD hS (by decide) (by decide) iw_302 ff_8_1 hL id_PA_23 (fun H locs hP hD hS hL => ?_)
  refine lv_aload_n hx hb id_PA_26 rfl (lv_at hl 0 rfl) ?_
  refine st_new (cj := 6) hx hb hown hC hP hD hS hA (by decide) iw_138 iw_139 iw_60 (Nat.le_of_ble_eq_true rfl) (Nat.le_of_ble_eq_true rfl) id_PA_27 (fun q27 H hP hD hS => ?_)
  refine W.widen (k := 5) (n := 108) (Nat.le_of_ble_eq_true rfl) (Nat.le_of_ble_eq_true rfl) ?_
  refine lv_dup hx hb id_PA_30 rfl ?_
  refine st_cn (y := (⟨"PointerAnalyzer$Program", "<init>", "()V"⟩ : MethodName)) (ci := 6) hx hb hml hown hC hl.1 hP hD hS hA (im_PR l κ D) ⟨Nat.le_of_ble_eq_true rfl, Nat.le_of_ble_eq_true rfl⟩ iw_142 iw_60 ⟨by decide, by decide⟩ (by decide +kernel) iw_140 rfl iw_141 (Nat.le_of_ble_eq_true rfl) ⟨Nat.le_of_ble_eq_true rfl, Nat.le_of_ble_eq_true rfl⟩ id_PA_31 (fun a27 H locs hP hD hS => ?_)
  refine W.widen (k := 11) (n := 309) (Nat.le_of_ble_eq_true rfl) (Nat.le_of_ble_eq_true rfl) ?_
  rw [List.cons_append] at hP hD
  refine st_pr (k := 2) hx hb hown hin hC hP hD hS (by decide) (by decide) iw_303 ff_8_2 hL id_PA_34 (fun H locs hP hD hS hL => ?_)
  refine lv_aload_n hx hb id_PA_37 rfl (lv_at hl 0 rfl) ?_
  refine st_new (cj := 6) hx hb hown hC hP hD hS hA (by decide) iw_138 iw_139 iw_60 (Nat.le_of_ble_eq_true rfl) (Nat.le_of_ble_eq_true rfl) id_PA_38 (fun q38 H hP hD hS => ?_)
  refine W.widen (k := 12) (n := 317) (Nat.le_of_ble_eq_true rfl) (Nat.le_of_ble_eq_true rfl) ?_
  refine lv_dup hx hb id_PA_41 rfl ?_
  refine st_cn (y := (⟨"PointerAnalyzer$Program", "<init>", "()V"⟩ : MethodName)) (ci := 6) hx hb hml hown hC hl.1 hP hD hS hA (im_PR l κ D) ⟨Nat.le_of_ble_eq_true rfl, Nat.le_of_ble_eq_true rfl⟩ iw_142 iw_60 ⟨by decide, by decide⟩ (by decide +kernel) iw_140 rfl iw_141 (Nat.le_of_ble_eq_true rfl) ⟨Nat.le_of_ble_eq_true rfl, Nat.le_of_ble_eq_true rfl⟩ id_PA_42 (fun a38 H locs hP hD hS => ?_)
  refine W.widen (k := 18) (n := 518) (Nat.le_of_ble_eq_true rfl) (Nat.le_of_ble_eq_true rfl) ?_
  rw [List.cons_append] at hP hD
  refine st_pr (k := 3) hx hb hown hin hC hP hD hS (by decide) (by decide) iw_304 ff_8_3 hL id_PA_45 (fun H locs hP hD hS hL => ?_)
  refine lv_aload_n hx hb id_PA_48 rfl (lv_at hl 0 rfl) ?_
  refine st_new (cj := 4) hx hb hown hC hP hD hS hA (by decide) iw_169 iw_170 iw_61 (Nat.le_of_ble_eq_true rfl) (Nat.le_of_ble_eq_true rfl) id_PA_49 (fun q49 H hP hD hS => ?_)
  refine W.widen (k := 19) (n := 531) (Nat.le_of_ble_eq_true rfl) (Nat.le_of_ble_eq_true rfl) ?_
  refine lv_dup hx hb id_PA_52 rfl ?_
  refine st_cn (y := (⟨"PointerAnalyzer$Inclusion", "<init>", "()V"⟩ : MethodName)) (ci := 4) hx hb hml hown hC hl.1 hP hD hS hA (im_IN l κ D) ⟨Nat.le_of_ble_eq_true rfl, Nat.le_of_ble_eq_true rfl⟩ iw_173 iw_61 ⟨by decide, by decide⟩ (by decide +kernel) iw_171 rfl iw_172 (Nat.le_of_ble_eq_true rfl) ⟨Nat.le_of_ble_eq_true rfl, Nat.le_of_ble_eq_true rfl⟩ id_PA_53 (fun a49 H locs hP hD hS => ?_)
  refine W.widen (k := 29) (n := 5703) (Nat.le_of_ble_eq_true rfl) (Nat.le_of_ble_eq_true rfl) ?_
  rw [List.cons_append] at hP hD
  refine st_pr (k := 4) hx hb hown hin hC hP hD hS (by decide) (by decide) iw_305 ff_8_4 hL id_PA_56 (fun H locs hP hD hS hL => ?_)
  refine lv_aload_n hx hb id_PA_59 rfl (lv_at hl 0 rfl) ?_
  refine st_new (cj := 4) hx hb hown hC hP hD hS hA (by decide) iw_169 iw_170 iw_61 (Nat.le_of_ble_eq_true rfl) (Nat.le_of_ble_eq_true rfl) id_PA_60 (fun q60 H hP hD hS => ?_)
  refine W.widen (k := 30) (n := 5716) (Nat.le_of_ble_eq_true rfl) (Nat.le_of_ble_eq_true rfl) ?_
  refine lv_dup hx hb id_PA_63 rfl ?_
  refine st_cn (y := (⟨"PointerAnalyzer$Inclusion", "<init>", "()V"⟩ : MethodName)) (ci := 4) hx hb hml hown hC hl.1 hP hD hS hA (im_IN l κ D) ⟨Nat.le_of_ble_eq_true rfl, Nat.le_of_ble_eq_true rfl⟩ iw_173 iw_61 ⟨by decide, by decide⟩ (by decide +kernel) iw_171 rfl iw_172 (Nat.le_of_ble_eq_true rfl) ⟨Nat.le_of_ble_eq_true rfl, Nat.le_of_ble_eq_true rfl⟩ id_PA_64 (fun a60 H locs hP hD hS => ?_)
  refine W.widen (k := 40) (n := 10888) (Nat.le_of_ble_eq_true rfl) (Nat.le_of_ble_eq_true rfl) ?_
  rw [List.cons_append] at hP hD
  refine st_pr (k := 5) hx hb hown hin hC hP hD hS (by decide) (by decide) iw_306 ff_8_5 hL id_PA_67 (fun H locs hP hD hS hL => ?_)
  refine lv_aload_n hx hb id_PA_70 rfl (lv_at hl 0 rfl) ?_
  refine st_new (cj := 7) hx hb hown hC hP hD hS hA (by decide) iw_235 iw_236 iw_63 (Nat.le_of_ble_eq_true rfl) (Nat.le_of_ble_eq_true rfl) id_PA_71 (fun q71 H hP hD hS => ?_)
  refine W.widen (k := 41) (n := 10891) (Nat.le_of_ble_eq_true rfl) (Nat.le_of_ble_eq_true rfl) ?_
  refine lv_dup hx hb id_PA_74 rfl ?_
  refine st_cn (y := (⟨"PointerAnalyzer$Unification", "<init>", "()V"⟩ : MethodName)) (ci := 7) hx hb hml hown hC hl.1 hP hD hS hA (im_UN l κ D) ⟨Nat.le_of_ble_eq_true rfl, Nat.le_of_ble_eq_true rfl⟩ iw_239 iw_63 ⟨by decide, by decide⟩ (by decide +kernel) iw_237 rfl iw_238 (Nat.le_of_ble_eq_true rfl) ⟨Nat.le_of_ble_eq_true rfl, Nat.le_of_ble_eq_true rfl⟩ id_PA_75 (fun a71 H locs hP hD hS => ?_)
  refine W.widen (k := 43) (n := 11027) (Nat.le_of_ble_eq_true rfl) (Nat.le_of_ble_eq_true rfl) ?_
  rw [List.cons_append] at hP hD
  refine st_pr (k := 6) hx hb hown hin hC hP hD hS (by decide) (by decide) iw_307 ff_8_6 hL id_PA_78 (fun H locs hP hD hS hL => ?_)
  refine lv_aload_n hx hb id_PA_81 rfl (lv_at hl 0 rfl) ?_
  refine st_new (cj := 3) hx hb hown hC hP hD hS hA (by decide) iw_251 iw_252 iw_64 (Nat.le_of_ble_eq_true rfl) (Nat.le_of_ble_eq_true rfl) id_PA_82 (fun q82 H hP hD hS => ?_)
  refine W.widen (k := 44) (n := 11028) (Nat.le_of_ble_eq_true rfl) (Nat.le_of_ble_eq_true rfl) ?_
  refine lv_dup hx hb id_PA_85 rfl ?_
  refine st_cn (y := (⟨"PointerAnalyzer$Graph", "<init>", "()V"⟩ : MethodName)) (ci := 3) hx hb hml hown hC hl.1 hP hD hS hA (im_GR l κ D) ⟨Nat.le_of_ble_eq_true rfl, Nat.le_of_ble_eq_true rfl⟩ iw_255 iw_64 ⟨by decide, by decide⟩ (by decide +kernel) iw_253 rfl iw_254 (Nat.le_of_ble_eq_true rfl) ⟨Nat.le_of_ble_eq_true rfl, Nat.le_of_ble_eq_true rfl⟩ id_PA_86 (fun a82 H locs hP hD hS => ?_)
  refine W.widen (k := 45) (n := 11072) (Nat.le_of_ble_eq_true rfl) (Nat.le_of_ble_eq_true rfl) ?_
  rw [List.cons_append] at hP hD
  refine st_pr (k := 7) hx hb hown hin hC hP hD hS (by decide) (by decide) iw_308 ff_8_7 hL id_PA_89 (fun H locs hP hD hS hL => ?_)
  refine lv_aload_n hx hb id_PA_92 rfl (lv_at hl 0 rfl) ?_
  refine st_new (cj := 5) hx hb hown hC hP hD hS hA (by decide) iw_261 iw_262 iw_65 (Nat.le_of_ble_eq_true rfl) (Nat.le_of_ble_eq_true rfl) id_PA_93 (fun q93 H hP hD hS => ?_)
  refine W.widen (k := 46) (n := 11083) (Nat.le_of_ble_eq_true rfl) (Nat.le_of_ble_eq_true rfl) ?_
  refine lv_dup hx hb id_PA_96 rfl ?_
  refine st_cn (y := (⟨"PointerAnalyzer$Machine", "<init>", "()V"⟩ : MethodName)) (ci := 5) hx hb hml hown hC hl.1 hP hD hS hA (im_MA l κ D) ⟨Nat.le_of_ble_eq_true rfl, Nat.le_of_ble_eq_true rfl⟩ iw_265 iw_65 ⟨by decide, by decide⟩ (by decide +kernel) iw_263 rfl iw_264 (Nat.le_of_ble_eq_true rfl) ⟨Nat.le_of_ble_eq_true rfl, Nat.le_of_ble_eq_true rfl⟩ id_PA_97 (fun a93 H locs hP hD hS => ?_)
  refine W.widen (k := 52) (n := 12763) (Nat.le_of_ble_eq_true rfl) (Nat.le_of_ble_eq_true rfl) ?_
  rw [List.cons_append] at hP hD
  refine st_pr (k := 8) hx hb hown hin hC hP hD hS (by decide) (by decide) iw_309 ff_8_8 hL id_PA_100 (fun H locs hP hD hS hL => ?_)
  refine lv_aload_n hx hb id_PA_103 rfl (lv_at hl 0 rfl) ?_
  refine lv_iconst (v := (-1)) hx hb id_PA_104 (by decide) ?_
  refine st_pn (k := 9) (v := .int (-1)) hx hb hown hC hP hD hS (by decide) (by decide) iw_310 rfl rfl rfl hL id_PA_105 (fun H locs hP hD hS => ?_)
  have hL : (List.set _ 9 (Value.int (-1))).length = nf 8 := (List.length_set ..).trans hL
  refine lv_aload_n hx hb id_PA_108 rfl (lv_at hl 0 rfl) ?_
  refine lv_iconst (v := 0) hx hb id_PA_109 (by decide) ?_
  refine st_pn (k := 10) (v := .int 0) hx hb hown hC hP hD hS (by decide) (by decide) iw_311 rfl rfl rfl hL id_PA_110 (fun H locs hP hD hS => ?_)
  have hL : (List.set _ 10 (Value.int 0)).length = nf 8 := (List.length_set ..).trans hL
  exact W.vret hx hb hr (fun t ht hW => ⟨⟨(), rfl, trivial, fun c => ([h0, q5, a5 1, q16, a16 1, q27, a27 1, a27 2, a27 3, a27 4, a27 5, a27 6, q38, a38 1, a38 2, a38 3, a38 4, a38 5, a38 6, q49, a49 1, a49 2, a49 3, a49 4, a49 5, a49 6, a49 7, a49 8, a49 9, a49 10, q60, a60 1, a60 2, a60 3, a60 4, a60 5, a60 6, a60 7, a60 8, a60 9, a60 10, q71, a71 1, a71 2, q82, a82 1, q93, a93 1, a93 2, a93 3, a93 4, a93 5, a93 6] : List Nat).getD c 0, by rw [ht]; exact hP, hD⟩, hS.F ht⟩) hS.2.2 id_PA_113
