/-! the constructors: printed by gen_init.py -/
theorem id_BT_0 : decode prog_2_method_1_code 0 = .ok (.aload_n 0, 1) := by decide +kernel
theorem id_BT_1 : decode prog_2_method_1_code 1 = .ok (.invokespecial 3, 3) := by decide +kernel
theorem id_BT_4 : decode prog_2_method_1_code 4 = .ok (.aload_n 0, 1) := by decide +kernel
theorem id_BT_5 : decode prog_2_method_1_code 5 = .ok (.bipush 80, 2) := by decide +kernel
theorem id_BT_7 : decode prog_2_method_1_code 7 = .ok (.newarray .int, 2) := by decide +kernel
theorem id_BT_9 : decode prog_2_method_1_code 9 = .ok (.putfield 11, 3) := by decide +kernel
theorem id_BT_12 : decode prog_2_method_1_code 12 = .ok (.return_, 1) := by decide +kernel
def wf_BT (κ : Nat → ClassId) (h0 : Nat) (a : Nat → Nat) : va_W := (h0, .inr (0, [.ref (a 1), .int 0, .int 0, .int 0])) :: ([(a 1, .inl (κ 0, zA 0 80))])
set_option maxHeartbeats 4000000 in
set_option maxRecDepth 100000 in
theorem im_BT (l : Launch) (κ : Nat → ClassId) (D : va_G) : IMet l κ D (⟨"PointerAnalyzer$BodyText", "<init>", "()V"⟩ : MethodName) prog_2_method_1_code 0 1 12 1 80 (wf_BT κ) := by
  refine IMet_of (by decide +kernel) rfl rfl id_BT_0 id_BT_1 iw_104 (by decide) (by decide) (fun p e s m args below meth c h0 A ls hx hb hml hr hown hlocks hin hC hl hP hD hA hS => ?_)
  have hP : va_P D clA ((h0, .inr (0, dfl 0)) :: []) s.heap := hP
  have hD : va_D A ((h0, .inr (0, dfl 0)) :: []) := hD
  have hL := dfl_len 0
  refine st_af (k := 0) (t := 0) (N := 80) (c1 := 1) (n1 := 80) hx hb hown hin hC hl hP hD hS hA hL (by decide) (by decide) (by decide) (by decide) (by decide) (Nat.le_of_ble_eq_true rfl) (Nat.le_of_ble_eq_true rfl) (Nat.le_of_ble_eq_true rfl) (Nat.le_of_ble_eq_true rfl) (Nat.le_of_ble_eq_true rfl) iw_105 ff_0_0 id_BT_4 (fun K => lv_bipush (v := 80) hx hb id_BT_5 (by decide) K) id_BT_7 id_BT_9 (fun q5 H locs hP hD hS hL => ?_)
  exact W.vret hx hb hr (fun t ht hW => ⟨⟨(), rfl, trivial, fun c => ([h0, q5] : List Nat).getD c 0, by rw [ht]; exact hP, hD⟩, hS.F ht⟩) hS.2.2 id_BT_12
theorem id_CT_0 : decode prog_3_method_1_code 0 = .ok (.aload_n 0, 1) := by decide +kernel
theorem id_CT_1 : decode prog_3_method_1_code 1 = .ok (.invokespecial 5, 3) := by decide +kernel
theorem id_CT_4 : decode prog_3_method_1_code 4 = .ok (.aload_n 0, 1) := by decide +kernel
theorem id_CT_5 : decode prog_3_method_1_code 5 = .ok (.bipush 31, 2) := by decide +kernel
theorem id_CT_7 : decode prog_3_method_1_code 7 = .ok (.newarray .int, 2) := by decide +kernel
theorem id_CT_9 : decode prog_3_method_1_code 9 = .ok (.putfield 11, 3) := by decide +kernel
theorem id_CT_12 : decode prog_3_method_1_code 12 = .ok (.aload_n 0, 1) := by decide +kernel
theorem id_CT_13 : decode prog_3_method_1_code 13 = .ok (.iconst 5, 1) := by decide +kernel
theorem id_CT_14 : decode prog_3_method_1_code 14 = .ok (.newarray .int, 2) := by decide +kernel
theorem id_CT_16 : decode prog_3_method_1_code 16 = .ok (.putfield 15, 3) := by decide +kernel
theorem id_CT_19 : decode prog_3_method_1_code 19 = .ok (.return_, 1) := by decide +kernel
def wf_CT (κ : Nat → ClassId) (h0 : Nat) (a : Nat → Nat) : va_W := (h0, .inr (1, [.ref (a 1), .ref (a 2), .int 0, .int 0])) :: (([(a 1, .inl (κ 0, zA 0 31))]) ++ [(a 2, .inl (κ 0, zA 0 5))])
set_option maxHeartbeats 4000000 in
set_option maxRecDepth 100000 in
theorem im_CT (l : Launch) (κ : Nat → ClassId) (D : va_G) : IMet l κ D (⟨"PointerAnalyzer$Contexts", "<init>", "()V"⟩ : MethodName) prog_3_method_1_code 1 1 12 2 36 (wf_CT κ) := by
  refine IMet_of (by decide +kernel) rfl rfl id_CT_0 id_CT_1 iw_180 (by decide) (by decide) (fun p e s m args below meth c h0 A ls hx hb hml hr hown hlocks hin hC hl hP hD hA hS => ?_)
  have hP : va_P D clA ((h0, .inr (1, dfl 1)) :: []) s.heap := hP
  have hD : va_D A ((h0, .inr (1, dfl 1)) :: []) := hD
  have hL := dfl_len 1
  refine st_af (k := 0) (t := 0) (N := 31) (c1 := 1) (n1 := 31) hx hb hown hin hC hl hP hD hS hA hL (by decide) (by decide) (by decide) (by decide) (by decide) (Nat.le_of_ble_eq_true rfl) (Nat.le_of_ble_eq_true rfl) (Nat.le_of_ble_eq_true rfl) (Nat.le_of_ble_eq_true rfl) (Nat.le_of_ble_eq_true rfl) iw_181 ff_1_0 id_CT_4 (fun K => lv_bipush (v := 31) hx hb id_CT_5 (by decide) K) id_CT_7 id_CT_9 (fun q5 H locs hP hD hS hL => ?_)
  refine st_af (k := 1) (t := 0) (N := 5) (c1 := 2) (n1 := 36) hx hb hown hin hC hl hP hD hS hA hL (by decide) (by decide) (by decide) (by decide) (by decide) (Nat.le_of_ble_eq_true rfl) (Nat.le_of_ble_eq_true rfl) (Nat.le_of_ble_eq_true rfl) (Nat.le_of_ble_eq_true rfl) (Nat.le_of_ble_eq_true rfl) iw_182 ff_1_1 id_CT_12 (fun K => lv_iconst (v := 5) hx hb id_CT_13 (by decide) K) id_CT_14 id_CT_16 (fun q13 H locs hP hD hS hL => ?_)
  exact W.vret hx hb hr (fun t ht hW => ⟨⟨(), rfl, trivial, fun c => ([h0, q5, q13] : List Nat).getD c 0, by rw [ht]; exact hP, hD⟩, hS.F ht⟩) hS.2.2 id_CT_19
theorem id_DR_0 : decode prog_4_method_1_code 0 = .ok (.aload_n 0, 1) := by decide +kernel
theorem id_DR_1 : decode prog_4_method_1_code 1 = .ok (.invokespecial 3, 3) := by decide +kernel
theorem id_DR_4 : decode prog_4_method_1_code 4 = .ok (.aload_n 0, 1) := by decide +kernel
theorem id_DR_5 : decode prog_4_method_1_code 5 = .ok (.bipush 12, 2) := by decide +kernel
theorem id_DR_7 : decode prog_4_method_1_code 7 = .ok (.newarray .int, 2) := by decide +kernel
theorem id_DR_9 : decode prog_4_method_1_code 9 = .ok (.putfield 9, 3) := by decide +kernel
theorem id_DR_12 : decode prog_4_method_1_code 12 = .ok (.return_, 1) := by decide +kernel
def wf_DR (κ : Nat → ClassId) (h0 : Nat) (a : Nat → Nat) : va_W := (h0, .inr (2, [.ref (a 1), .int 0, .int 0, .int 0])) :: ([(a 1, .inl (κ 0, zA 0 12))])
set_option maxHeartbeats 4000000 in
set_option maxRecDepth 100000 in
theorem im_DR (l : Launch) (κ : Nat → ClassId) (D : va_G) : IMet l κ D (⟨"PointerAnalyzer$Draft", "<init>", "()V"⟩ : MethodName) prog_4_method_1_code 2 1 12 1 12 (wf_DR κ) := by
  refine IMet_of (by decide +kernel) rfl rfl id_DR_0 id_DR_1 iw_124 (by decide) (by decide) (fun p e s m args below meth c h0 A ls hx hb hml hr hown hlocks hin hC hl hP hD hA hS => ?_)
  have hP : va_P D clA ((h0, .inr (2, dfl 2)) :: []) s.heap := hP
  have hD : va_D A ((h0, .inr (2, dfl 2)) :: []) := hD
  have hL := dfl_len 2
  refine st_af (k := 0) (t := 0) (N := 12) (c1 := 1) (n1 := 12) hx hb hown hin hC hl hP hD hS hA hL (by decide) (by decide) (by decide) (by decide) (by decide) (Nat.le_of_ble_eq_true rfl) (Nat.le_of_ble_eq_true rfl) (Nat.le_of_ble_eq_true rfl) (Nat.le_of_ble_eq_true rfl) (Nat.le_of_ble_eq_true rfl) iw_125 ff_2_0 id_DR_4 (fun K => lv_bipush (v := 12) hx hb id_DR_5 (by decide) K) id_DR_7 id_DR_9 (fun q5 H locs hP hD hS hL => ?_)
  exact W.vret hx hb hr (fun t ht hW => ⟨⟨(), rfl, trivial, fun c => ([h0, q5] : List Nat).getD c 0, by rw [ht]; exact hP, hD⟩, hS.F ht⟩) hS.2.2 id_DR_12
theorem id_GR_0 : decode prog_5_method_1_code 0 = .ok (.aload_n 0, 1) := by decide +kernel
theorem id_GR_1 : decode prog_5_method_1_code 1 = .ok (.invokespecial 3, 3) := by decide +kernel
theorem id_GR_4 : decode prog_5_method_1_code 4 = .ok (.aload_n 0, 1) := by decide +kernel
theorem id_GR_5 : decode prog_5_method_1_code 5 = .ok (.bipush 44, 2) := by decide +kernel
theorem id_GR_7 : decode prog_5_method_1_code 7 = .ok (.newarray .long, 2) := by decide +kernel
theorem id_GR_9 : decode prog_5_method_1_code 9 = .ok (.putfield 9, 3) := by decide +kernel
theorem id_GR_12 : decode prog_5_method_1_code 12 = .ok (.return_, 1) := by decide +kernel
def wf_GR (κ : Nat → ClassId) (h0 : Nat) (a : Nat → Nat) : va_W := (h0, .inr (3, [.ref (a 1)])) :: ([(a 1, .inl (κ 1, zA 1 44))])
set_option maxHeartbeats 4000000 in
set_option maxRecDepth 100000 in
theorem im_GR (l : Launch) (κ : Nat → ClassId) (D : va_G) : IMet l κ D (⟨"PointerAnalyzer$Graph", "<init>", "()V"⟩ : MethodName) prog_5_method_1_code 3 1 12 1 44 (wf_GR κ) := by
  refine IMet_of (by decide +kernel) rfl rfl id_GR_0 id_GR_1 iw_256 (by decide) (by decide) (fun p e s m args below meth c h0 A ls hx hb hml hr hown hlocks hin hC hl hP hD hA hS => ?_)
  have hP : va_P D clA ((h0, .inr (3, dfl 3)) :: []) s.heap := hP
  have hD : va_D A ((h0, .inr (3, dfl 3)) :: []) := hD
  have hL := dfl_len 3
  refine st_af (k := 0) (t := 1) (N := 44) (c1 := 1) (n1 := 44) hx hb hown hin hC hl hP hD hS hA hL (by decide) (by decide) (by decide) (by decide) (by decide) (Nat.le_of_ble_eq_true rfl) (Nat.le_of_ble_eq_true rfl) (Nat.le_of_ble_eq_true rfl) (Nat.le_of_ble_eq_true rfl) (Nat.le_of_ble_eq_true rfl) iw_257 ff_3_0 id_GR_4 (fun K => lv_bipush (v := 44) hx hb id_GR_5 (by decide) K) id_GR_7 id_GR_9 (fun q5 H locs hP hD hS hL => ?_)
  exact W.vret hx hb hr (fun t ht hW => ⟨⟨(), rfl, trivial, fun c => ([h0, q5] : List Nat).getD c 0, by rw [ht]; exact hP, hD⟩, hS.F ht⟩) hS.2.2 id_GR_12
theorem id_MA_0 : decode prog_7_method_1_code 0 = .ok (.aload_n 0, 1) := by decide +kernel
theorem id_MA_1 : decode prog_7_method_1_code 1 = .ok (.invokespecial 5, 3) := by decide +kernel
theorem id_MA_4 : decode prog_7_method_1_code 4 = .ok (.aload_n 0, 1) := by decide +kernel
theorem id_MA_5 : decode prog_7_method_1_code 5 = .ok (.sipush 809, 3) := by decide +kernel
theorem id_MA_8 : decode prog_7_method_1_code 8 = .ok (.newarray .int, 2) := by decide +kernel
theorem id_MA_10 : decode prog_7_method_1_code 10 = .ok (.putfield 11, 3) := by decide +kernel
theorem id_MA_13 : decode prog_7_method_1_code 13 = .ok (.aload_n 0, 1) := by decide +kernel
theorem id_MA_14 : decode prog_7_method_1_code 14 = .ok (.sipush 809, 3) := by decide +kernel
theorem id_MA_17 : decode prog_7_method_1_code 17 = .ok (.newarray .int, 2) := by decide +kernel
theorem id_MA_19 : decode prog_7_method_1_code 19 = .ok (.putfield 15, 3) := by decide +kernel
theorem id_MA_22 : decode prog_7_method_1_code 22 = .ok (.aload_n 0, 1) := by decide +kernel
theorem id_MA_23 : decode prog_7_method_1_code 23 = .ok (.bipush 44, 2) := by decide +kernel
theorem id_MA_25 : decode prog_7_method_1_code 25 = .ok (.newarray .long, 2) := by decide +kernel
theorem id_MA_27 : decode prog_7_method_1_code 27 = .ok (.putfield 18, 3) := by decide +kernel
theorem id_MA_30 : decode prog_7_method_1_code 30 = .ok (.aload_n 0, 1) := by decide +kernel
theorem id_MA_31 : decode prog_7_method_1_code 31 = .ok (.bipush 6, 2) := by decide +kernel
theorem id_MA_33 : decode prog_7_method_1_code 33 = .ok (.newarray .int, 2) := by decide +kernel
theorem id_MA_35 : decode prog_7_method_1_code 35 = .ok (.putfield 22, 3) := by decide +kernel
theorem id_MA_38 : decode prog_7_method_1_code 38 = .ok (.aload_n 0, 1) := by decide +kernel
theorem id_MA_39 : decode prog_7_method_1_code 39 = .ok (.bipush 6, 2) := by decide +kernel
theorem id_MA_41 : decode prog_7_method_1_code 41 = .ok (.newarray .int, 2) := by decide +kernel
theorem id_MA_43 : decode prog_7_method_1_code 43 = .ok (.putfield 25, 3) := by decide +kernel
theorem id_MA_46 : decode prog_7_method_1_code 46 = .ok (.aload_n 0, 1) := by decide +kernel
theorem id_MA_47 : decode prog_7_method_1_code 47 = .ok (.bipush 6, 2) := by decide +kernel
theorem id_MA_49 : decode prog_7_method_1_code 49 = .ok (.newarray .int, 2) := by decide +kernel
theorem id_MA_51 : decode prog_7_method_1_code 51 = .ok (.putfield 28, 3) := by decide +kernel
theorem id_MA_54 : decode prog_7_method_1_code 54 = .ok (.return_, 1) := by decide +kernel
def wf_MA (κ : Nat → ClassId) (h0 : Nat) (a : Nat → Nat) : va_W := (h0, .inr (5, [.ref (a 1), .ref (a 2), .ref (a 3), .ref (a 4), .ref (a 5), .ref (a 6), .int 0, .int 0, .int 0, .int 0, .int 0])) :: (((((([(a 1, .inl (κ 0, zA 0 809))]) ++ [(a 2, .inl (κ 0, zA 0 809))]) ++ [(a 3, .inl (κ 1, zA 1 44))]) ++ [(a 4, .inl (κ 0, zA 0 6))]) ++ [(a 5, .inl (κ 0, zA 0 6))]) ++ [(a 6, .inl (κ 0, zA 0 6))])
set_option maxHeartbeats 4000000 in
set_option maxRecDepth 100000 in
theorem im_MA (l : Launch) (κ : Nat → ClassId) (D : va_G) : IMet l κ D (⟨"PointerAnalyzer$Machine", "<init>", "()V"⟩ : MethodName) prog_7_method_1_code 5 1 12 6 1680 (wf_MA κ) := by
  refine IMet_of (by decide +kernel) rfl rfl id_MA_0 id_MA_1 iw_266 (by decide) (by decide) (fun p e s m args below meth c h0 A ls hx hb hml hr hown hlocks hin hC hl hP hD hA hS => ?_)
  have hP : va_P D clA ((h0, .inr (5, dfl 5)) :: []) s.heap := hP
  have hD : va_D A ((h0, .inr (5, dfl 5)) :: []) := hD
  have hL := dfl_len 5
  refine st_af (k := 0) (t := 0) (N := 809) (c1 := 1) (n1 := 809) hx hb hown hin hC hl hP hD hS hA hL (by decide) (by decide) (by decide) (by decide) (by decide) (Nat.le_of_ble_eq_true rfl) (Nat.le_of_ble_eq_true rfl) (Nat.le_of_ble_eq_true rfl) (Nat.le_of_ble_eq_true rfl) (Nat.le_of_ble_eq_true rfl) iw_267 ff_5_0 id_MA_4 (fun K => lv_sipush (v := 809) hx hb id_MA_5 (by decide) K) id_MA_8 id_MA_10 (fun q5 H locs hP hD hS hL => ?_)
  refine st_af (k := 1) (t := 0) (N := 809) (c1 := 2) (n1 := 1618) hx hb hown hin hC hl hP hD hS hA hL (by decide) (by decide) (by decide) (by decide) (by decide) (Nat.le_of_ble_eq_true rfl) (Nat.le_of_ble_eq_true rfl) (Nat.le_of_ble_eq_true rfl) (Nat.le_of_ble_eq_true rfl) (Nat.le_of_ble_eq_true rfl) iw_268 ff_5_1 id_MA_13 (fun K => lv_sipush (v := 809) hx hb id_MA_14 (by decide) K) id_MA_17 id_MA_19 (fun q14 H locs hP hD hS hL => ?_)
  refine st_af (k := 2) (t := 1) (N := 44) (c1 := 3) (n1 := 1662) hx hb hown hin hC hl hP hD hS hA hL (by decide) (by decide) (by decide) (by decide) (by decide) (Nat.le_of_ble_eq_true rfl) (Nat.le_of_ble_eq_true rfl) (Nat.le_of_ble_eq_true rfl) (Nat.le_of_ble_eq_true rfl) (Nat.le_of_ble_eq_true rfl) iw_269 ff_5_2 id_MA_22 (fun K => lv_bipush (v := 44) hx hb id_MA_23 (by decide) K) id_MA_25 id_MA_27 (fun q23 H locs hP hD hS hL => ?_)
  refine st_af (k := 3) (t := 0) (N := 6) (c1 := 4) (n1 := 1668) hx hb hown hin hC hl hP hD hS hA hL (by decide) (by decide) (by decide) (by decide) (by decide) (Nat.le_of_ble_eq_true rfl) (Nat.le_of_ble_eq_true rfl) (Nat.le_of_ble_eq_true rfl) (Nat.le_of_ble_eq_true rfl) (Nat.le_of_ble_eq_true rfl) iw_270 ff_5_3 id_MA_30 (fun K => lv_bipush (v := 6) hx hb id_MA_31 (by decide) K) id_MA_33 id_MA_35 (fun q31 H locs hP hD hS hL => ?_)
  refine st_af (k := 4) (t := 0) (N := 6) (c1 := 5) (n1 := 1674) hx hb hown hin hC hl hP hD hS hA hL (by decide) (by decide) (by decide) (by decide) (by decide) (Nat.le_of_ble_eq_true rfl) (Nat.le_of_ble_eq_true rfl) (Nat.le_of_ble_eq_true rfl) (Nat.le_of_ble_eq_true rfl) (Nat.le_of_ble_eq_true rfl) iw_271 ff_5_4 id_MA_38 (fun K => lv_bipush (v := 6) hx hb id_MA_39 (by decide) K) id_MA_41 id_MA_43 (fun q39 H locs hP hD hS hL => ?_)
  refine st_af (k := 5) (t := 0) (N := 6) (c1 := 6) (n1 := 1680) hx hb hown hin hC hl hP hD hS hA hL (by decide) (by decide) (by decide) (by decide) (by decide) (Nat.le_of_ble_eq_true rfl) (Nat.le_of_ble_eq_true rfl) (Nat.le_of_ble_eq_true rfl) (Nat.le_of_ble_eq_true rfl) (Nat.le_of_ble_eq_true rfl) iw_272 ff_5_5 id_MA_46 (fun K => lv_bipush (v := 6) hx hb id_MA_47 (by decide) K) id_MA_49 id_MA_51 (fun q47 H locs hP hD hS hL => ?_)
  exact W.vret hx hb hr (fun t ht hW => ⟨⟨(), rfl, trivial, fun c => ([h0, q5, q14, q23, q31, q39, q47] : List Nat).getD c 0, by rw [ht]; exact hP, hD⟩, hS.F ht⟩) hS.2.2 id_MA_54
theorem id_PR_0 : decode prog_8_method_1_code 0 = .ok (.aload_n 0, 1) := by decide +kernel
theorem id_PR_1 : decode prog_8_method_1_code 1 = .ok (.invokespecial 3, 3) := by decide +kernel
theorem id_PR_4 : decode prog_8_method_1_code 4 = .ok (.aload_n 0, 1) := by decide +kernel
theorem id_PR_5 : decode prog_8_method_1_code 5 = .ok (.bipush 48, 2) := by decide +kernel
theorem id_PR_7 : decode prog_8_method_1_code 7 = .ok (.newarray .int, 2) := by decide +kernel
theorem id_PR_9 : decode prog_8_method_1_code 9 = .ok (.putfield 9, 3) := by decide +kernel
theorem id_PR_12 : decode prog_8_method_1_code 12 = .ok (.aload_n 0, 1) := by decide +kernel
theorem id_PR_13 : decode prog_8_method_1_code 13 = .ok (.iconst 4, 1) := by decide +kernel
theorem id_PR_14 : decode prog_8_method_1_code 14 = .ok (.newarray .int, 2) := by decide +kernel
theorem id_PR_16 : decode prog_8_method_1_code 16 = .ok (.putfield 15, 3) := by decide +kernel
theorem id_PR_19 : decode prog_8_method_1_code 19 = .ok (.aload_n 0, 1) := by decide +kernel
theorem id_PR_20 : decode prog_8_method_1_code 20 = .ok (.bipush 48, 2) := by decide +kernel
theorem id_PR_22 : decode prog_8_method_1_code 22 = .ok (.newarray .int, 2) := by decide +kernel
theorem id_PR_24 : decode prog_8_method_1_code 24 = .ok (.putfield 18, 3) := by decide +kernel
theorem id_PR_27 : decode prog_8_method_1_code 27 = .ok (.aload_n 0, 1) := by decide +kernel
theorem id_PR_28 : decode prog_8_method_1_code 28 = .ok (.bipush 48, 2) := by decide +kernel
theorem id_PR_30 : decode prog_8_method_1_code 30 = .ok (.newarray .int, 2) := by decide +kernel
theorem id_PR_32 : decode prog_8_method_1_code 32 = .ok (.putfield 21, 3) := by decide +kernel
theorem id_PR_35 : decode prog_8_method_1_code 35 = .ok (.aload_n 0, 1) := by decide +kernel
theorem id_PR_36 : decode prog_8_method_1_code 36 = .ok (.bipush 48, 2) := by decide +kernel
theorem id_PR_38 : decode prog_8_method_1_code 38 = .ok (.newarray .int, 2) := by decide +kernel
theorem id_PR_40 : decode prog_8_method_1_code 40 = .ok (.putfield 24, 3) := by decide +kernel
theorem id_PR_43 : decode prog_8_method_1_code 43 = .ok (.aload_n 0, 1) := by decide +kernel
theorem id_PR_44 : decode prog_8_method_1_code 44 = .ok (.iconst 5, 1) := by decide +kernel
theorem id_PR_45 : decode prog_8_method_1_code 45 = .ok (.newarray .int, 2) := by decide +kernel
theorem id_PR_47 : decode prog_8_method_1_code 47 = .ok (.putfield 27, 3) := by decide +kernel
theorem id_PR_50 : decode prog_8_method_1_code 50 = .ok (.return_, 1) := by decide +kernel
def wf_PR (κ : Nat → ClassId) (h0 : Nat) (a : Nat → Nat) : va_W := (h0, .inr (6, [.ref (a 1), .ref (a 2), .int 0, .ref (a 3), .ref (a 4), .ref (a 5), .ref (a 6), .int 0])) :: (((((([(a 1, .inl (κ 0, zA 0 48))]) ++ [(a 2, .inl (κ 0, zA 0 4))]) ++ [(a 3, .inl (κ 0, zA 0 48))]) ++ [(a 4, .inl (κ 0, zA 0 48))]) ++ [(a 5, .inl (κ 0, zA 0 48))]) ++ [(a 6, .inl (κ 0, zA 0 5))])
set_option maxHeartbeats 4000000 in
set_option maxRecDepth 100000 in
theorem im_PR (l : Launch) (κ : Nat → ClassId) (D : va_G) : IMet l κ D (⟨"PointerAnalyzer$Program", "<init>", "()V"⟩ : MethodName) prog_8_method_1_code 6 1 12 6 201 (wf_PR κ) := by
  refine IMet_of (by decide +kernel) rfl rfl id_PR_0 id_PR_1 iw_143 (by decide) (by decide) (fun p e s m args below meth c h0 A ls hx hb hml hr hown hlocks hin hC hl hP hD hA hS => ?_)
  have hP : va_P D clA ((h0, .inr (6, dfl 6)) :: []) s.heap := hP
  have hD : va_D A ((h0, .inr (6, dfl 6)) :: []) := hD
  have hL := dfl_len 6
  refine st_af (k := 0) (t := 0) (N := 48) (c1 := 1) (n1 := 48) hx hb hown hin hC hl hP hD hS hA hL (by decide) (by decide) (by decide) (by decide) (by decide) (Nat.le_of_ble_eq_true rfl) (Nat.le_of_ble_eq_true rfl) (Nat.le_of_ble_eq_true rfl) (Nat.le_of_ble_eq_true rfl) (Nat.le_of_ble_eq_true rfl) iw_144 ff_6_0 id_PR_4 (fun K => lv_bipush (v := 48) hx hb id_PR_5 (by decide) K) id_PR_7 id_PR_9 (fun q5 H locs hP hD hS hL => ?_)
  refine st_af (k := 1) (t := 0) (N := 4) (c1 := 2) (n1 := 52) hx hb hown hin hC hl hP hD hS hA hL (by decide) (by decide) (by decide) (by decide) (by decide) (Nat.le_of_ble_eq_true rfl) (Nat.le_of_ble_eq_true rfl) (Nat.le_of_ble_eq_true rfl) (Nat.le_of_ble_eq_true rfl) (Nat.le_of_ble_eq_true rfl) iw_145 ff_6_1 id_PR_12 (fun K => lv_iconst (v := 4) hx hb id_PR_13 (by decide) K) id_PR_14 id_PR_16 (fun q13 H locs hP hD hS hL => ?_)
  refine st_af (k := 3) (t := 0) (N := 48) (c1 := 3) (n1 := 100) hx hb hown hin hC hl hP hD hS hA hL (by decide) (by decide) (by decide) (by decide) (by decide) (Nat.le_of_ble_eq_true rfl) (Nat.le_of_ble_eq_true rfl) (Nat.le_of_ble_eq_true rfl) (Nat.le_of_ble_eq_true rfl) (Nat.le_of_ble_eq_true rfl) iw_147 ff_6_3 id_PR_19 (fun K => lv_bipush (v := 48) hx hb id_PR_20 (by decide) K) id_PR_22 id_PR_24 (fun q20 H locs hP hD hS hL => ?_)
  refine st_af (k := 4) (t := 0) (N := 48) (c1 := 4) (n1 := 148) hx hb hown hin hC hl hP hD hS hA hL (by decide) (by decide) (by decide) (by decide) (by decide) (Nat.le_of_ble_eq_true rfl) (Nat.le_of_ble_eq_true rfl) (Nat.le_of_ble_eq_true rfl) (Nat.le_of_ble_eq_true rfl) (Nat.le_of_ble_eq_true rfl) iw_148 ff_6_4 id_PR_27 (fun K => lv_bipush (v := 48) hx hb id_PR_28 (by decide) K) id_PR_30 id_PR_32 (fun q28 H locs hP hD hS hL => ?_)
  refine st_af (k := 5) (t := 0) (N := 48) (c1 := 5) (n1 := 196) hx hb hown hin hC hl hP hD hS hA hL (by decide) (by decide) (by decide) (by decide) (by decide) (Nat.le_of_ble_eq_true rfl) (Nat.le_of_ble_eq_true rfl) (Nat.le_of_ble_eq_true rfl) (Nat.le_of_ble_eq_true rfl) (Nat.le_of_ble_eq_true rfl) iw_149 ff_6_5 id_PR_35 (fun K => lv_bipush (v := 48) hx hb id_PR_36 (by decide) K) id_PR_38 id_PR_40 (fun q36 H locs hP hD hS hL => ?_)
  refine st_af (k := 6) (t := 0) (N := 5) (c1 := 6) (n1 := 201) hx hb hown hin hC hl hP hD hS hA hL (by decide) (by decide) (by decide) (by decide) (by decide) (Nat.le_of_ble_eq_true rfl) (Nat.le_of_ble_eq_true rfl) (Nat.le_of_ble_eq_true rfl) (Nat.le_of_ble_eq_true rfl) (Nat.le_of_ble_eq_true rfl) iw_150 ff_6_6 id_PR_43 (fun K => lv_iconst (v := 5) hx hb id_PR_44 (by decide) K) id_PR_45 id_PR_47 (fun q44 H locs hP hD hS hL => ?_)
  exact W.vret hx hb hr (fun t ht hW => ⟨⟨(), rfl, trivial, fun c => ([h0, q5, q13, q20, q28, q36, q44] : List Nat).getD c 0, by rw [ht]; exact hP, hD⟩, hS.F ht⟩) hS.2.2 id_PR_50
theorem id_UN_0 : decode prog_11_method_1_code 0 = .ok (.aload_n 0, 1) := by decide +kernel
theorem id_UN_1 : decode prog_11_method_1_code 1 = .ok (.invokespecial 5, 3) := by decide +kernel
theorem id_UN_4 : decode prog_11_method_1_code 4 = .ok (.aload_n 0, 1) := by decide +kernel
theorem id_UN_5 : decode prog_11_method_1_code 5 = .ok (.bipush 68, 2) := by decide +kernel
theorem id_UN_7 : decode prog_11_method_1_code 7 = .ok (.newarray .int, 2) := by decide +kernel
theorem id_UN_9 : decode prog_11_method_1_code 9 = .ok (.putfield 11, 3) := by decide +kernel
theorem id_UN_12 : decode prog_11_method_1_code 12 = .ok (.aload_n 0, 1) := by decide +kernel
theorem id_UN_13 : decode prog_11_method_1_code 13 = .ok (.bipush 68, 2) := by decide +kernel
theorem id_UN_15 : decode prog_11_method_1_code 15 = .ok (.newarray .int, 2) := by decide +kernel
theorem id_UN_17 : decode prog_11_method_1_code 17 = .ok (.putfield 15, 3) := by decide +kernel
theorem id_UN_20 : decode prog_11_method_1_code 20 = .ok (.aload_n 0, 1) := by decide +kernel
theorem id_UN_21 : decode prog_11_method_1_code 21 = .ok (.iconst 1, 1) := by decide +kernel
theorem id_UN_22 : decode prog_11_method_1_code 22 = .ok (.putfield 18, 3) := by decide +kernel
theorem id_UN_25 : decode prog_11_method_1_code 25 = .ok (.return_, 1) := by decide +kernel
def wf_UN (κ : Nat → ClassId) (h0 : Nat) (a : Nat → Nat) : va_W := (h0, .inr (7, [.ref (a 1), .ref (a 2), .int 1])) :: (([(a 1, .inl (κ 0, zA 0 68))]) ++ [(a 2, .inl (κ 0, zA 0 68))])
set_option maxHeartbeats 4000000 in
set_option maxRecDepth 100000 in
theorem im_UN (l : Launch) (κ : Nat → ClassId) (D : va_G) : IMet l κ D (⟨"PointerAnalyzer$Unification", "<init>", "()V"⟩ : MethodName) prog_11_method_1_code 7 1 12 2 136 (wf_UN κ) := by
  refine IMet_of (by decide +kernel) rfl rfl id_UN_0 id_UN_1 iw_240 (by decide) (by decide) (fun p e s m args below meth c h0 A ls hx hb hml hr hown hlocks hin hC hl hP hD hA hS => ?_)
  have hP : va_P D clA ((h0, .inr (7, dfl 7)) :: []) s.heap := hP
  have hD : va_D A ((h0, .inr (7, dfl 7)) :: []) := hD
  have hL := dfl_len 7
  refine st_af (k := 0) (t := 0) (N := 68) (c1 := 1) (n1 := 68) hx hb hown hin hC hl hP hD hS hA hL (by decide) (by decide) (by decide) (by decide) (by decide) (Nat.le_of_ble_eq_true rfl) (Nat.le_of_ble_eq_true rfl) (Nat.le_of_ble_eq_true rfl) (Nat.le_of_ble_eq_true rfl) (Nat.le_of_ble_eq_true rfl) iw_241 ff_7_0 id_UN_4 (fun K => lv_bipush (v := 68) hx hb id_UN_5 (by decide) K) id_UN_7 id_UN_9 (fun q5 H locs hP hD hS hL => ?_)
  refine st_af (k := 1) (t := 0) (N := 68) (c1 := 2) (n1 := 136) hx hb hown hin hC hl hP hD hS hA hL (by decide) (by decide) (by decide) (by decide) (by decide) (Nat.le_of_ble_eq_true rfl) (Nat.le_of_ble_eq_true rfl) (Nat.le_of_ble_eq_true rfl) (Nat.le_of_ble_eq_true rfl) (Nat.le_of_ble_eq_true rfl) iw_242 ff_7_1 id_UN_12 (fun K => lv_bipush (v := 68) hx hb id_UN_13 (by decide) K) id_UN_15 id_UN_17 (fun q13 H locs hP hD hS hL => ?_)
  refine lv_aload_n hx hb id_UN_20 rfl (lv_at hl 0 rfl) ?_
  refine lv_iconst (v := 1) hx hb id_UN_21 (by decide) ?_
  refine st_pn (k := 2) (v := .int 1) hx hb hown hC hP hD hS (by decide) (by decide) iw_243 rfl rfl rfl hL id_UN_22 (fun H locs hP hD hS => ?_)
  have hL : (List.set _ 2 (Value.int 1)).length = nf 7 := (List.length_set ..).trans hL
  exact W.vret hx hb hr (fun t ht hW => ⟨⟨(), rfl, trivial, fun c => ([h0, q5, q13] : List Nat).getD c 0, by rw [ht]; exact hP, hD⟩, hS.F ht⟩) hS.2.2 id_UN_25
theorem id_IN_0 : decode prog_6_method_1_code 0 = .ok (.aload_n 0, 1) := by decide +kernel
theorem id_IN_1 : decode prog_6_method_1_code 1 = .ok (.invokespecial 7, 3) := by decide +kernel
theorem id_IN_4 : decode prog_6_method_1_code 4 = .ok (.aload_n 0, 1) := by decide +kernel
theorem id_IN_5 : decode prog_6_method_1_code 5 = .ok (.new 1, 3) := by decide +kernel
theorem id_IN_8 : decode prog_6_method_1_code 8 = .ok (.dup, 1) := by decide +kernel
theorem id_IN_9 : decode prog_6_method_1_code 9 = .ok (.invokespecial 13, 3) := by decide +kernel
theorem id_IN_12 : decode prog_6_method_1_code 12 = .ok (.putfield 14, 3) := by decide +kernel
theorem id_IN_15 : decode prog_6_method_1_code 15 = .ok (.aload_n 0, 1) := by decide +kernel
theorem id_IN_16 : decode prog_6_method_1_code 16 = .ok (.sipush 456, 3) := by decide +kernel
theorem id_IN_19 : decode prog_6_method_1_code 19 = .ok (.newarray .long, 2) := by decide +kernel
theorem id_IN_21 : decode prog_6_method_1_code 21 = .ok (.putfield 18, 3) := by decide +kernel
theorem id_IN_24 : decode prog_6_method_1_code 24 = .ok (.aload_n 0, 1) := by decide +kernel
theorem id_IN_25 : decode prog_6_method_1_code 25 = .ok (.sipush 456, 3) := by decide +kernel
theorem id_IN_28 : decode prog_6_method_1_code 28 = .ok (.newarray .long, 2) := by decide +kernel
theorem id_IN_30 : decode prog_6_method_1_code 30 = .ok (.putfield 22, 3) := by decide +kernel
theorem id_IN_33 : decode prog_6_method_1_code 33 = .ok (.aload_n 0, 1) := by decide +kernel
theorem id_IN_34 : decode prog_6_method_1_code 34 = .ok (.sipush 152, 3) := by decide +kernel
theorem id_IN_37 : decode prog_6_method_1_code 37 = .ok (.newarray .int, 2) := by decide +kernel
theorem id_IN_39 : decode prog_6_method_1_code 39 = .ok (.putfield 25, 3) := by decide +kernel
theorem id_IN_42 : decode prog_6_method_1_code 42 = .ok (.aload_n 0, 1) := by decide +kernel
theorem id_IN_43 : decode prog_6_method_1_code 43 = .ok (.sipush 152, 3) := by decide +kernel
theorem id_IN_46 : decode prog_6_method_1_code 46 = .ok (.newarray .int, 2) := by decide +kernel
theorem id_IN_48 : decode prog_6_method_1_code 48 = .ok (.putfield 29, 3) := by decide +kernel
theorem id_IN_51 : decode prog_6_method_1_code 51 = .ok (.aload_n 0, 1) := by decide +kernel
theorem id_IN_52 : decode prog_6_method_1_code 52 = .ok (.bipush 44, 2) := by decide +kernel
theorem id_IN_54 : decode prog_6_method_1_code 54 = .ok (.newarray .long, 2) := by decide +kernel
theorem id_IN_56 : decode prog_6_method_1_code 56 = .ok (.putfield 32, 3) := by decide +kernel
theorem id_IN_59 : decode prog_6_method_1_code 59 = .ok (.aload_n 0, 1) := by decide +kernel
theorem id_IN_60 : decode prog_6_method_1_code 60 = .ok (.sipush 1936, 3) := by decide +kernel
theorem id_IN_63 : decode prog_6_method_1_code 63 = .ok (.newarray .int, 2) := by decide +kernel
theorem id_IN_65 : decode prog_6_method_1_code 65 = .ok (.putfield 35, 3) := by decide +kernel
theorem id_IN_68 : decode prog_6_method_1_code 68 = .ok (.aload_n 0, 1) := by decide +kernel
theorem id_IN_69 : decode prog_6_method_1_code 69 = .ok (.sipush 1936, 3) := by decide +kernel
theorem id_IN_72 : decode prog_6_method_1_code 72 = .ok (.newarray .int, 2) := by decide +kernel
theorem id_IN_74 : decode prog_6_method_1_code 74 = .ok (.putfield 38, 3) := by decide +kernel
theorem id_IN_77 : decode prog_6_method_1_code 77 = .ok (.aload_n 0, 1) := by decide +kernel
theorem id_IN_78 : decode prog_6_method_1_code 78 = .ok (.iconst 1, 1) := by decide +kernel
theorem id_IN_79 : decode prog_6_method_1_code 79 = .ok (.putfield 41, 3) := by decide +kernel
theorem id_IN_82 : decode prog_6_method_1_code 82 = .ok (.return_, 1) := by decide +kernel
def wf_IN (κ : Nat → ClassId) (h0 : Nat) (a : Nat → Nat) : va_W := (h0, .inr (4, [.ref (a 1), .ref (a 4), .ref (a 5), .ref (a 6), .ref (a 7), .ref (a 8), .ref (a 9), .ref (a 10), .int 1, .int 0, .int 0, .int 0, .int 0])) :: ((((((((wf_CT κ (a 1) (fun i => a (1 + i))) ++ [(a 4, .inl (κ 1, zA 1 456))]) ++ [(a 5, .inl (κ 1, zA 1 456))]) ++ [(a 6, .inl (κ 0, zA 0 152))]) ++ [(a 7, .inl (κ 0, zA 0 152))]) ++ [(a 8, .inl (κ 1, zA 1 44))]) ++ [(a 9, .inl (κ 0, zA 0 1936))]) ++ [(a 10, .inl (κ 0, zA 0 1936))])
set_option maxHeartbeats 4000000 in
set_option maxRecDepth 100000 in
theorem im_IN (l : Launch) (κ : Nat → ClassId) (D : va_G) : IMet l κ D (⟨"PointerAnalyzer$Inclusion", "<init>", "()V"⟩ : MethodName) prog_6_method_1_code 4 2 32 10 5172 (wf_IN κ) := by
  refine IMet_of (by decide +kernel) rfl rfl id_IN_0 id_IN_1 iw_174 (by decide) (by decide) (fun p e s m args below meth c h0 A ls hx hb hml hr hown hlocks hin hC hl hP hD hA hS => ?_)
  have hP : va_P D clA ((h0, .inr (4, dfl 4)) :: []) s.heap := hP
  have hD : va_D A ((h0, .inr (4, dfl 4)) :: []) := hD
  have hL := dfl_len 4
  refine lv_aload_n hx hb id_IN_4 rfl (lv_at hl 0 rfl) ?_
  refine st_new (cj := 1) hx hb hown hC hP hD hS hA (by decide) iw_175 iw_176 iw_62 (Nat.le_of_ble_eq_true rfl) (Nat.le_of_ble_eq_true rfl) id_IN_5 (fun q5 H hP hD hS => ?_)
  refine W.widen (k := 1) (n := 4) (Nat.le_of_ble_eq_true rfl) (Nat.le_of_ble_eq_true rfl) ?_
  refine lv_dup hx hb id_IN_8 rfl ?_
  refine st_cn (y := (⟨"PointerAnalyzer$Contexts", "<init>", "()V"⟩ : MethodName)) (ci := 1) hx hb hml hown hC hl.1 hP hD hS hA (im_CT l κ D) ⟨Nat.le_of_ble_eq_true rfl, Nat.le_of_ble_eq_true rfl⟩ iw_179 iw_62 ⟨by decide, by decide⟩ (by decide +kernel) iw_177 rfl iw_178 (Nat.le_of_ble_eq_true rfl) ⟨Nat.le_of_ble_eq_true rfl, Nat.le_of_ble_eq_true rfl⟩ id_IN_9 (fun a5 H locs hP hD hS => ?_)
  refine W.widen (k := 3) (n := 40) (Nat.le_of_ble_eq_true rfl) (Nat.le_of_ble_eq_true rfl) ?_
  rw [List.cons_append] at hP hD
  refine st_pr (k := 0) hx hb hown hin hC hP hD hS (by decide) (by decide) iw_194 ff_4_0 hL id_IN_12 (fun H locs hP hD hS hL => ?_)
  refine st_af (k := 1) (t := 1) (N := 456) (c1 := 4) (n1 := 496) hx hb hown hin hC hl hP hD hS hA hL (by decide) (by decide) (by decide) (by decide) (by decide) (Nat.le_of_ble_eq_true rfl) (Nat.le_of_ble_eq_true rfl) (Nat.le_of_ble_eq_true rfl) (Nat.le_of_ble_eq_true rfl) (Nat.le_of_ble_eq_true rfl) iw_195 ff_4_1 id_IN_15 (fun K => lv_sipush (v := 456) hx hb id_IN_16 (by decide) K) id_IN_19 id_IN_21 (fun q16 H locs hP hD hS hL => ?_)
  refine st_af (k := 2) (t := 1) (N := 456) (c1 := 5) (n1 := 952) hx hb hown hin hC hl hP hD hS hA hL (by decide) (by decide) (by decide) (by decide) (by decide) (Nat.le_of_ble_eq_true rfl) (Nat.le_of_ble_eq_true rfl) (Nat.le_of_ble_eq_true rfl) (Nat.le_of_ble_eq_true rfl) (Nat.le_of_ble_eq_true rfl) iw_196 ff_4_2 id_IN_24 (fun K => lv_sipush (v := 456) hx hb id_IN_25 (by decide) K) id_IN_28 id_IN_30 (fun q25 H locs hP hD hS hL => ?_)
  refine st_af (k := 3) (t := 0) (N := 152) (c1 := 6) (n1 := 1104) hx hb hown hin hC hl hP hD hS hA hL (by decide) (by decide) (by decide) (by decide) (by decide) (Nat.le_of_ble_eq_true rfl) (Nat.le_of_ble_eq_true rfl) (Nat.le_of_ble_eq_true rfl) (Nat.le_of_ble_eq_true rfl) (Nat.le_of_ble_eq_true rfl) iw_197 ff_4_3 id_IN_33 (fun K => lv_sipush (v := 152) hx hb id_IN_34 (by decide) K) id_IN_37 id_IN_39 (fun q34 H locs hP hD hS hL => ?_)
  refine st_af (k := 4) (t := 0) (N := 152) (c1 := 7) (n1 := 1256) hx hb hown hin hC hl hP hD hS hA hL (by decide) (by decide) (by decide) (by decide) (by decide) (Nat.le_of_ble_eq_true rfl) (Nat.le_of_ble_eq_true rfl) (Nat.le_of_ble_eq_true rfl) (Nat.le_of_ble_eq_true rfl) (Nat.le_of_ble_eq_true rfl) iw_198 ff_4_4 id_IN_42 (fun K => lv_sipush (v := 152) hx hb id_IN_43 (by decide) K) id_IN_46 id_IN_48 (fun q43 H locs hP hD hS hL => ?_)
  refine st_af (k := 5) (t := 1) (N := 44) (c1 := 8) (n1 := 1300) hx hb hown hin hC hl hP hD hS hA hL (by decide) (by decide) (by decide) (by decide) (by decide) (Nat.le_of_ble_eq_true rfl) (Nat.le_of_ble_eq_true rfl) (Nat.le_of_ble_eq_true rfl) (Nat.le_of_ble_eq_true rfl) (Nat.le_of_ble_eq_true rfl) iw_199 ff_4_5 id_IN_51 (fun K => lv_bipush (v := 44) hx hb id_IN_52 (by decide) K) id_IN_54 id_IN_56 (fun q52 H locs hP hD hS hL => ?_)
  refine st_af (k := 6) (t := 0) (N := 1936) (c1 := 9) (n1 := 3236) hx hb hown hin hC hl hP hD hS hA hL (by decide) (by decide) (by decide) (by decide) (by decide) (Nat.le_of_ble_eq_true rfl) (Nat.le_of_ble_eq_true rfl) (Nat.le_of_ble_eq_true rfl) (Nat.le_of_ble_eq_true rfl) (Nat.le_of_ble_eq_true rfl) iw_200 ff_4_6 id_IN_59 (fun K => lv_sipush (v := 1936) hx hb id_IN_60 (by decide) K) id_IN_63 id_IN_65 (fun q60 H locs hP hD hS hL => ?_)
  refine st_af (k := 7) (t := 0) (N := 1936) (c1 := 10) (n1 := 5172) hx hb hown hin hC hl hP hD hS hA hL (by decide) (by decide) (by decide) (by decide) (by decide) (Nat.le_of_ble_eq_true rfl) (Nat.le_of_ble_eq_true rfl) (Nat.le_of_ble_eq_true rfl) (Nat.le_of_ble_eq_true rfl) (Nat.le_of_ble_eq_true rfl) iw_201 ff_4_7 id_IN_68 (fun K => lv_sipush (v := 1936) hx hb id_IN_69 (by decide) K) id_IN_72 id_IN_74 (fun q69 H locs hP hD hS hL => ?_)
  refine lv_aload_n hx hb id_IN_77 rfl (lv_at hl 0 rfl) ?_
  refine lv_iconst (v := 1) hx hb id_IN_78 (by decide) ?_
  refine st_pn (k := 8) (v := .int 1) hx hb hown hC hP hD hS (by decide) (by decide) iw_202 rfl rfl rfl hL id_IN_79 (fun H locs hP hD hS => ?_)
  have hL : (List.set _ 8 (Value.int 1)).length = nf 4 := (List.length_set ..).trans hL
  exact W.vret hx hb hr (fun t ht hW => ⟨⟨(), rfl, trivial, fun c => ([h0, q5, a5 1, a5 2, q16, q25, q34, q43, q52, q60, q69] : List Nat).getD c 0, by rw [ht]; exact hP, hD⟩, hS.F ht⟩) hS.2.2 id_IN_82
