/-! the first state's world, whole: printed by gen_world2.py -/
theorem wf_MO_eq (κ : Nat → ClassId) (h0 : Nat) (a : Nat → Nat) : wf_MO κ h0 a = (h0, .inr (9, [.int 0, .ref (a 1), .ref (a 2), .ref (a 3), .ref (a 4), .ref (a 5), .int 0, .ref (a 6), .int 0, .int 0, .int (-1), .int 0, .int 0, .int 0, .ref (a 7), .ref (a 8), .int 0, .ref (a 9), .ref (a 10), .int 0, .int 0, .ref (a 11), .ref (a 12), .int 0, .ref (a 13), .ref (a 14), .ref (a 15), .ref (a 16), .int 0, .int 0, .ref (a 17), .ref (a 18), .ref (a 19), .ref (a 20), .ref (a 21), .ref (a 22), .int 0, .int 0, .int 0, .int 0, .int 0, .ref (a 23), .int 0, .int 0, .int 0])) :: (((((((((((((((((((((((([] ++ [(a 1, .inl (κ 0, zA 0 60))]) ++ [(a 2, .inl (κ 0, zA 0 60))]) ++ [(a 3, .inl (κ 0, zA 0 60))]) ++ [(a 4, .inl (κ 0, zA 0 60))]) ++ [(a 5, .inl (κ 0, zA 0 5))]) ++ [(a 6, .inl (κ 0, zA 0 80))]) ++ [(a 7, .inl (κ 0, zA 0 32))]) ++ [(a 8, .inl (κ 0, zA 0 32))]) ++ [(a 9, .inl (κ 1, zA 1 456))]) ++ [(a 10, .inl (κ 1, zA 1 456))]) ++ [(a 11, .inl (κ 0, zA 0 1936))]) ++ [(a 12, .inl (κ 0, zA 0 1936))]) ++ [(a 13, .inl (κ 0, zA 0 120))]) ++ [(a 14, .inl (κ 0, zA 0 120))]) ++ [(a 15, .inl (κ 0, zA 0 200))]) ++ [(a 16, .inl (κ 0, zA 0 200))]) ++ [(a 17, .inl (κ 0, zA 0 1412))]) ++ [(a 18, .inl (κ 0, zA 0 1412))]) ++ [(a 19, .inl (κ 0, zA 0 6))]) ++ [(a 20, .inl (κ 0, zA 0 6))]) ++ [(a 21, .inl (κ 0, zA 0 6))]) ++ [(a 22, .inl (κ 1, zA 1 44))]) ++ [(a 23, .inl (κ 0, zA 0 200))])) := by
  unfold wf_MO
  rw [mo_f]
theorem blk_snoc (κ : Nat → ClassId) (α : Nat → Nat) (ix : Int → Int) (c0 n n1 c : Nat) (e : Nat × va_E) (hc : c = c0 + n) (hn : n1 = n + 1) (he : ([e] : va_W) = blk κ α ix c 1) : blk κ α ix c0 n ++ [e] = blk κ α ix c0 n1 := by
  rw [he, hc, blk_app, hn]
theorem be_54 (κ : Nat → ClassId) (α : Nat → Nat) (ix : Int → Int) : ([(α 54, .inl (κ 0, zA 0 60))] : va_W) = blk κ α ix 54 1 := rfl
theorem be_55 (κ : Nat → ClassId) (α : Nat → Nat) (ix : Int → Int) : ([(α 55, .inl (κ 0, zA 0 60))] : va_W) = blk κ α ix 55 1 := rfl
theorem be_56 (κ : Nat → ClassId) (α : Nat → Nat) (ix : Int → Int) : ([(α 56, .inl (κ 0, zA 0 60))] : va_W) = blk κ α ix 56 1 := rfl
theorem be_57 (κ : Nat → ClassId) (α : Nat → Nat) (ix : Int → Int) : ([(α 57, .inl (κ 0, zA 0 60))] : va_W) = blk κ α ix 57 1 := rfl
theorem be_58 (κ : Nat → ClassId) (α : Nat → Nat) (ix : Int → Int) : ([(α 58, .inl (κ 0, zA 0 5))] : va_W) = blk κ α ix 58 1 := rfl
theorem be_59 (κ : Nat → ClassId) (α : Nat → Nat) (ix : Int → Int) : ([(α 59, .inl (κ 0, zA 0 80))] : va_W) = blk κ α ix 59 1 := rfl
theorem be_60 (κ : Nat → ClassId) (α : Nat → Nat) (ix : Int → Int) : ([(α 60, .inl (κ 0, zA 0 32))] : va_W) = blk κ α ix 60 1 := rfl
theorem be_61 (κ : Nat → ClassId) (α : Nat → Nat) (ix : Int → Int) : ([(α 61, .inl (κ 0, zA 0 32))] : va_W) = blk κ α ix 61 1 := rfl
theorem be_62 (κ : Nat → ClassId) (α : Nat → Nat) (ix : Int → Int) : ([(α 62, .inl (κ 1, zA 1 456))] : va_W) = blk κ α ix 62 1 := rfl
theorem be_63 (κ : Nat → ClassId) (α : Nat → Nat) (ix : Int → Int) : ([(α 63, .inl (κ 1, zA 1 456))] : va_W) = blk κ α ix 63 1 := rfl
theorem be_64 (κ : Nat → ClassId) (α : Nat → Nat) (ix : Int → Int) : ([(α 64, .inl (κ 0, zA 0 1936))] : va_W) = blk κ α ix 64 1 := rfl
theorem be_65 (κ : Nat → ClassId) (α : Nat → Nat) (ix : Int → Int) : ([(α 65, .inl (κ 0, zA 0 1936))] : va_W) = blk κ α ix 65 1 := rfl
theorem be_66 (κ : Nat → ClassId) (α : Nat → Nat) (ix : Int → Int) : ([(α 66, .inl (κ 0, zA 0 120))] : va_W) = blk κ α ix 66 1 := rfl
theorem be_67 (κ : Nat → ClassId) (α : Nat → Nat) (ix : Int → Int) : ([(α 67, .inl (κ 0, zA 0 120))] : va_W) = blk κ α ix 67 1 := rfl
theorem be_68 (κ : Nat → ClassId) (α : Nat → Nat) (ix : Int → Int) : ([(α 68, .inl (κ 0, zA 0 200))] : va_W) = blk κ α ix 68 1 := rfl
theorem be_69 (κ : Nat → ClassId) (α : Nat → Nat) (ix : Int → Int) : ([(α 69, .inl (κ 0, zA 0 200))] : va_W) = blk κ α ix 69 1 := rfl
theorem be_70 (κ : Nat → ClassId) (α : Nat → Nat) (ix : Int → Int) : ([(α 70, .inl (κ 0, zA 0 1412))] : va_W) = blk κ α ix 70 1 := rfl
theorem be_71 (κ : Nat → ClassId) (α : Nat → Nat) (ix : Int → Int) : ([(α 71, .inl (κ 0, zA 0 1412))] : va_W) = blk κ α ix 71 1 := rfl
theorem be_72 (κ : Nat → ClassId) (α : Nat → Nat) (ix : Int → Int) : ([(α 72, .inl (κ 0, zA 0 6))] : va_W) = blk κ α ix 72 1 := rfl
theorem be_73 (κ : Nat → ClassId) (α : Nat → Nat) (ix : Int → Int) : ([(α 73, .inl (κ 0, zA 0 6))] : va_W) = blk κ α ix 73 1 := rfl
theorem be_74 (κ : Nat → ClassId) (α : Nat → Nat) (ix : Int → Int) : ([(α 74, .inl (κ 0, zA 0 6))] : va_W) = blk κ α ix 74 1 := rfl
theorem be_75 (κ : Nat → ClassId) (α : Nat → Nat) (ix : Int → Int) : ([(α 75, .inl (κ 1, zA 1 44))] : va_W) = blk κ α ix 75 1 := rfl
theorem be_76 (κ : Nat → ClassId) (α : Nat → Nat) (ix : Int → Int) : ([(α 76, .inl (κ 0, zA 0 200))] : va_W) = blk κ α ix 76 1 := rfl
theorem bk_54 (κ : Nat → ClassId) (α : Nat → Nat) (ix : Int → Int) : ((((((((((((((((((((((((([] ++ [(α 54, .inl (κ 0, zA 0 60))]) ++ [(α 55, .inl (κ 0, zA 0 60))]) ++ [(α 56, .inl (κ 0, zA 0 60))]) ++ [(α 57, .inl (κ 0, zA 0 60))]) ++ [(α 58, .inl (κ 0, zA 0 5))]) ++ [(α 59, .inl (κ 0, zA 0 80))]) ++ [(α 60, .inl (κ 0, zA 0 32))]) ++ [(α 61, .inl (κ 0, zA 0 32))]) ++ [(α 62, .inl (κ 1, zA 1 456))]) ++ [(α 63, .inl (κ 1, zA 1 456))]) ++ [(α 64, .inl (κ 0, zA 0 1936))]) ++ [(α 65, .inl (κ 0, zA 0 1936))]) ++ [(α 66, .inl (κ 0, zA 0 120))]) ++ [(α 67, .inl (κ 0, zA 0 120))]) ++ [(α 68, .inl (κ 0, zA 0 200))]) ++ [(α 69, .inl (κ 0, zA 0 200))]) ++ [(α 70, .inl (κ 0, zA 0 1412))]) ++ [(α 71, .inl (κ 0, zA 0 1412))]) ++ [(α 72, .inl (κ 0, zA 0 6))]) ++ [(α 73, .inl (κ 0, zA 0 6))]) ++ [(α 74, .inl (κ 0, zA 0 6))]) ++ [(α 75, .inl (κ 1, zA 1 44))]) ++ [(α 76, .inl (κ 0, zA 0 200))])) : va_W) = blk κ α ix 54 23 := by
  rw [List.nil_append, be_54 κ α ix]
  rw [blk_snoc κ α ix 54 1 2 55 _ rfl rfl (be_55 κ α ix)]
  rw [blk_snoc κ α ix 54 2 3 56 _ rfl rfl (be_56 κ α ix)]
  rw [blk_snoc κ α ix 54 3 4 57 _ rfl rfl (be_57 κ α ix)]
  rw [blk_snoc κ α ix 54 4 5 58 _ rfl rfl (be_58 κ α ix)]
  rw [blk_snoc κ α ix 54 5 6 59 _ rfl rfl (be_59 κ α ix)]
  rw [blk_snoc κ α ix 54 6 7 60 _ rfl rfl (be_60 κ α ix)]
  rw [blk_snoc κ α ix 54 7 8 61 _ rfl rfl (be_61 κ α ix)]
  rw [blk_snoc κ α ix 54 8 9 62 _ rfl rfl (be_62 κ α ix)]
  rw [blk_snoc κ α ix 54 9 10 63 _ rfl rfl (be_63 κ α ix)]
  rw [blk_snoc κ α ix 54 10 11 64 _ rfl rfl (be_64 κ α ix)]
  rw [blk_snoc κ α ix 54 11 12 65 _ rfl rfl (be_65 κ α ix)]
  rw [blk_snoc κ α ix 54 12 13 66 _ rfl rfl (be_66 κ α ix)]
  rw [blk_snoc κ α ix 54 13 14 67 _ rfl rfl (be_67 κ α ix)]
  rw [blk_snoc κ α ix 54 14 15 68 _ rfl rfl (be_68 κ α ix)]
  rw [blk_snoc κ α ix 54 15 16 69 _ rfl rfl (be_69 κ α ix)]
  rw [blk_snoc κ α ix 54 16 17 70 _ rfl rfl (be_70 κ α ix)]
  rw [blk_snoc κ α ix 54 17 18 71 _ rfl rfl (be_71 κ α ix)]
  rw [blk_snoc κ α ix 54 18 19 72 _ rfl rfl (be_72 κ α ix)]
  rw [blk_snoc κ α ix 54 19 20 73 _ rfl rfl (be_73 κ α ix)]
  rw [blk_snoc κ α ix 54 20 21 74 _ rfl rfl (be_74 κ α ix)]
  rw [blk_snoc κ α ix 54 21 22 75 _ rfl rfl (be_75 κ α ix)]
  rw [blk_snoc κ α ix 54 22 23 76 _ rfl rfl (be_76 κ α ix)]
set_option maxHeartbeats 4000000 in
theorem bk_53 (κ : Nat → ClassId) (α : Nat → Nat) (ix : Int → Int) : wf_MO κ (α 53) (fun i => α (53 + i)) = blk κ α ix 53 24 := by
  rw [wf_MO_eq]
  simp only [Nat.reduceAdd]
  rw [mo_o κ α ix, bk_54 κ α ix]
  show blk κ α ix 53 1 ++ blk κ α ix (53 + 1) 23 = _
  rw [blk_app]
set_option maxHeartbeats 4000000 in
theorem pa_al (κ : Nat → ClassId) (qP : Nat) (aP : Nat → Nat) (qM : Nat) (aM : Nat → Nat) (qo qd b : Nat) : wf_PA κ qP aP = wf_PA κ (al qP aP qM aM qo qd b 0) (al qP aP qM aM qo qd b) := rfl
set_option maxHeartbeats 4000000 in
theorem mo_al (κ : Nat → ClassId) (qP : Nat) (aP : Nat → Nat) (qM : Nat) (aM : Nat → Nat) (qo qd b : Nat) : wf_MO κ qM aM = wf_MO κ (al qP aP qM aM qo qd b 53) (fun i => al qP aP qM aM qo qd b (53 + i)) := by
  rw [wf_MO_eq, wf_MO_eq]
  rfl
theorem wst_eq (κ : Nat → ClassId) (qP : Nat) (aP : Nat → Nat) (qM : Nat) (aM : Nat → Nat) (qo qd b : Nat) (ix : Int → Int) : wst κ qP aP qM aM qo qd = wd κ (al qP aP qM aM qo qd b) (st0 ix) := by
  unfold wst
  rw [pa_al κ qP aP qM aM qo qd b, mo_al κ qP aP qM aM qo qd b, wf_PA_blk κ (al qP aP qM aM qo qd b) ix, bk_53 κ (al qP aP qM aM qo qd b) ix]
  rw [show blk κ (al qP aP qM aM qo qd b) ix 53 24 = blk κ (al qP aP qM aM qo qd b) ix (0 + 53) 24 from rfl, blk_app]
  rw [show ([(qo, .inl (κ 1, zA 1 1))] : va_W) = blk κ (al qP aP qM aM qo qd b) ix (0 + (53 + 24)) 1 from rfl, blk_app]
  rw [show ([(qd, .inl (κ 2, zA 2 1))] : va_W) = blk κ (al qP aP qM aM qo qd b) ix (0 + (53 + 24 + 1)) 1 from rfl, blk_app]
  unfold blk wd
  simp only [Nat.zero_add]
