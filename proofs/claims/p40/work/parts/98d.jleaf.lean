/-! the JDK's small methods, walked -/
def sbC (b : Nat) (x : Value) (c : Int) : List Value := [.ref b, .int 0, x, .int (Int32.ofInt c)]
theorem rd_bool {z : Int} (h : z = 0 ∨ z = 1) : narrow .boolean (.int (Int32.ofInt z)) = .int (Int32.ofInt z) := (int_bool h).1
section JL
variable {Γ : JG} {w : va_W} {t : Nat} {Q : JQ} {r b i j n : Nat} {x : Value} {c : Int} {f : Nat → Int32}
theorem i1 : inR 1 := ⟨by decide, by decide⟩
theorem i0 : inR 0 := ⟨by decide, by decide⟩
theorem e_as1 (hi : w[i]? = some ((r, .inr (9, sbC b x c)) : Nat × va_E)) (hq : Q (some (vI 1)) w) : J Γ m_as1 0 (entry 1 [vR r]) [] w t Q := by
  refine j_gsC d_as1_0 jw_710 ?_
  refine j_if_eq_f (tgt := 17) d_as1_3 (by decide) i1 (by decide) ?_
  refine j_aload_n d_as1_6 rfl ?_
  refine j_get9 (k := 1) (v := vI 0) d_as1_7 (by decide) jw_719 hi rfl ?_
  refine j_if_ne_f (tgt := 17) d_as1_10 (by decide) i0 (by decide) ?_
  refine j_iconst d_as1_13 ?_
  refine j_goto (tgt := 18) d_as1_14 (by decide) ?_
  exact j_iret d_as1_18 rfl (rd_bool (Or.inr rfl)) hq
theorem e_asV (hi : w[i]? = some ((r, .inr (9, sbC b x c)) : Nat × va_E)) (hq : Q (some (vR b)) w) : J Γ m_asV 0 (entry 1 [vR r]) [] w t Q := by
  refine j_aload_n d_asV_0 rfl ?_
  refine j_get9 (k := 0) (v := vR b) d_asV_1 (by decide) jw_718 hi rfl ?_
  exact j_aret d_asV_4 rfl (Or.inr ⟨_, rfl⟩) hq
theorem e_asL (hi : w[i]? = some ((r, .inr (9, sbC b x c)) : Nat × va_E)) (hq : Q (some (vI c)) w) : J Γ m_asL 0 (entry 1 [vR r]) [] w t Q := by
  refine j_aload_n d_asL_0 rfl ?_
  refine j_get9 (k := 3) (v := vI c) d_asL_1 (by decide) jw_721 hi rfl ?_
  exact j_iret d_asL_4 rfl rfl hq
theorem e_sbL (hi : w[i]? = some ((r, .inr (9, sbC b x c)) : Nat × va_E)) (hq : Q (some (vI c)) w) : J Γ m_sbL 0 (entry 1 [vR r]) [] w t Q := by
  refine j_aload_n d_sbL_0 rfl ?_
  refine j_SU m_asL r [] 0 d_sbL_1 cw_sbL_asL jw_870 jw_730 (by decide) jw_869 jw_874 rfl (Or.inl ⟨i, _, hi, rfl⟩) (Nat.le_of_ble_eq_true rfl) (Nat.le_of_ble_eq_true rfl) (Nat.zero_le _) ?_
  refine e_asL hi ?_
  exact j_iret d_sbL_4 rfl rfl hq
theorem e_stD (hs : SSV Γ w r b n f) (hq : Q (some (vI 0)) w) : J Γ m_stD 0 (entry 1 [vR r]) [] w t Q := by
  refine j_gsC d_stD_0 jw_355 ?_
  refine j_if_eq_f (tgt := 13) d_stD_3 (by decide) i1 (by decide) ?_
  refine j_aload_n d_stD_6 rfl ?_
  refine j_scod d_stD_7 jw_929 hs ?_
  refine j_goto (tgt := 14) d_stD_10 (by decide) ?_
  exact j_iret d_stD_14 rfl rfl hq
theorem e_st1 (hs : SSV Γ w r b n f) (hq : Q (some (vI 1)) w) : J Γ m_st1 0 (entry 1 [vR r]) [] w t Q := by
  refine j_gsC d_st1_0 jw_355 ?_
  refine j_if_eq_f (tgt := 17) d_st1_3 (by decide) i1 (by decide) ?_
  refine j_aload_n d_st1_6 rfl ?_
  refine j_scod d_st1_7 jw_929 hs ?_
  refine j_if_ne_f (tgt := 17) d_st1_10 (by decide) i0 (by decide) ?_
  refine j_iconst d_st1_13 ?_
  refine j_goto (tgt := 18) d_st1_14 (by decide) ?_
  exact j_iret d_st1_18 rfl (rd_bool (Or.inr rfl)) hq
theorem sh0 {z : Int} : z / 2 ^ (0 : Int).toNat = z := by
  show z / 1 = z
  exact Int.ediv_one z
theorem sl0 {z : Int} : z * 2 ^ (0 : Int).toNat = z := by
  show z * 1 = z
  exact Int.mul_one z
theorem e_stL (hs : SSV Γ w r b n f) (hn : n ≤ 1000) (hq : Q (some (vI n)) w) : J Γ m_stL 0 (entry 1 [vR r]) [] w t Q := by
  refine j_aload_n d_stL_0 rfl ?_
  refine j_sval d_stL_1 jw_928 hs ?_
  refine j_blen d_stL_4 hs.bv ?_
  refine j_aload_n d_stL_5 rfl ?_
  refine j_V m_stD r [] 0 d_stL_6 cw_stL_stD jw_352 jw_353 jw_351 rfl hs.rv (Nat.le_of_ble_eq_true rfl) (Nat.le_of_ble_eq_true rfl) (Nat.zero_le _) ?_
  refine e_stD hs ?_
  refine j_ishr d_stL_9 ⟨by omega, by omega⟩ (by decide) (by decide) ?_
  rw [sh0]
  exact j_iret d_stL_10 rfl rfl hq
theorem e_l1E {z : Int} (hz : 0 ≤ z ∧ z < 128) (hq : Q (some (vI 1)) w) : J Γ m_l1E 0 (entry 1 [vI z]) [] w t Q := by
  refine j_iload_n d_l1E_0 rfl ?_
  refine j_sipush d_l1E_1 rfl ?_
  refine j_icmp_gt_f (tgt := 11) d_l1E_4 (by decide) ⟨by omega, by omega⟩ ⟨by decide, by decide⟩ (by omega) ?_
  refine j_iconst d_l1E_7 ?_
  refine j_goto (tgt := 12) d_l1E_8 (by decide) ?_
  exact j_iret d_l1E_12 rfl (rd_bool (Or.inr rfl)) hq
end JL
