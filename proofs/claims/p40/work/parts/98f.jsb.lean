/-! the JDK's StringBuilder, walked -/
/-- a StringBuilder at i that holds B; its places are K or more -/
def hB (Γ : JG) (K : Nat) (w : va_W) (i r : Nat) (B : List Int) : Prop := K ≤ i ∧ ∃ (j b n : Nat) (f : Nat → Int32) (x : Value), K ≤ j ∧ (w[i]? = some ((r, .inr (9, sbC b x B.length)) : Nat × va_E) ∧ (w[j]? = some ((b, .inl (Γ.2.1 2, (n, .inl f))) : Nat × va_E) ∧ (B.length ≤ n ∧ (n ≤ 160 ∧ ((∀ k, k < B.length → f k = Int32.ofInt (B.getD k 0)) ∧ bfit f)))))
theorem gD_l {B : List Int} {c : Int} : (B ++ [c]).getD B.length 0 = c := by
  rw [List.getD_eq_getElem?_getD, List.getElem?_append_right (Nat.le_refl _), Nat.sub_self]; rfl
theorem gD_a {B C : List Int} {k : Nat} (h : k < B.length) : (B ++ C).getD k 0 = B.getD k 0 := by
  rw [List.getD_eq_getElem?_getD, List.getD_eq_getElem?_getD, List.getElem?_append_left h]
theorem gD_b {B C : List Int} {k : Nat} : (B ++ C).getD (B.length + k) 0 = C.getD k 0 := by
  rw [List.getD_eq_getElem?_getD, List.getD_eq_getElem?_getD, List.getElem?_append_right (by omega), Nat.add_sub_cancel_left]
section JB
variable {Γ : JG} {w : va_W} {t : Nat} {Q : JQ} {r i K : Nat} {B S : List Int}
/-- the constructors -/
theorem e_asI {i : Nat} {x0 : Value} (hi : w[i]? = some ((r, .inr (9, dSB)) : Nat × va_E)) (ht : 17 ≤ t) (hq : ∀ b, Q none ((w ++ [((b, .inl (Γ.2.1 2, (16, .inl (fun _ => 0)))) : Nat × va_E)]).set i (r, .inr (9, sbC b (.int 0) 0)))) : J Γ m_asI 0 (entry 2 [vR r, vI 16]) [] w t Q := by
  have hil := get_lt hi
  refine j_aload_n d_asI_0 rfl ?_
  refine j_obj d_asI_1 jw_709 (by decide) (by decide) ?_
  refine j_gsC d_asI_4 jw_710 ?_
  refine j_if_eq_f (tgt := 25) d_asI_7 (by decide) i1 (by decide) ?_
  refine j_aload_n d_asI_10 rfl ?_
  refine j_iload_n d_asI_11 rfl ?_
  refine j_newB d_asI_12 ⟨by decide, by decide⟩ ht (fun q => ?_)
  have h2 : (w ++ [((q, .inl (Γ.2.1 2, ((16 : Int).toNat, .inl (fun _ => 0)))) : Nat × va_E)])[i]? = some ((r, .inr (9, dSB)) : Nat × va_E) := (app_lt hil).trans hi
  refine j_put9 (k := 0) (v := vR q) d_asI_14 (by decide) jw_718 h2 rfl rfl rfl ?_
  have hl : i < (w ++ [((q, .inl (Γ.2.1 2, ((16 : Int).toNat, .inl (fun _ => 0)))) : Nat × va_E)]).length := by rw [List.length_append]; omega
  refine j_aload_n (a := r) d_asI_17 rfl ?_
  refine j_iconst d_asI_18 ?_
  refine j_put9 (k := 1) (v := vI 0) d_asI_19 (by decide) jw_719 (set_eq hl) rfl rfl rfl ?_
  rw [List.set_set]
  refine j_goto (tgt := 38) d_asI_22 (by decide) ?_
  exact j_vret d_asI_38 rfl (hq q)
theorem e_sbI (hi : w[i]? = some ((r, .inr (9, dSB)) : Nat × va_E)) (hK : K ≤ i) (ht : 17 ≤ t) (hq : ∀ w', hB Γ K w' i r [] → w.length ≤ w'.length → (∀ k, k < w.length → k ≠ i → w'[k]? = w[k]?) → Q none w') : J Γ m_sbI 0 (entry 1 [vR r]) [] w t Q := by
  have hil := get_lt hi
  refine j_aload_n d_sbI_0 rfl ?_
  refine j_bipush d_sbI_1 rfl ?_
  refine j_I m_asI r [vI 16] 17 d_sbI_3 cw_sbI_asI rfl rfl jw_707 jw_706 rfl (Nat.le_of_ble_eq_true rfl) (Nat.le_of_ble_eq_true rfl) ht ?_
  refine e_asI (x0 := .null) hi (Nat.le_refl _) (fun b => ?_)
  refine j_vret d_sbI_6 rfl (hq _ ⟨hK, w.length, b, 16, fun _ => 0, .int 0, by omega, set_eq (by rw [List.length_append]; omega), (set_ne (by omega)).trans app_get, Nat.zero_le _, by omega, fun k hk => absurd hk (Nat.not_lt_zero _), bfit_0⟩ (by rw [List.length_set, List.length_append]; omega) (fun k hk hki => (set_ne hki).trans (app_lt hk)))
/-- append(char) -/
theorem e_asC {c : Int} (h : hB Γ K w i r B) (hc : 0 ≤ c ∧ c < 128) (hl : B.length < 80) (ht : 161 ≤ t) (hq : ∀ w', hB Γ K w' i r (B ++ [c]) → w.length ≤ w'.length → (∀ k, k < K → k < w.length → w'[k]? = w[k]?) → Q (some (vR r)) w') : J Γ m_asC 0 (entry 2 [vR r, vI c]) [] w t Q := by
  obtain ⟨hKi, j, b, n, f, x, hKj, hi, hj, hBn, hn, hf, hfit⟩ := h
  refine j_aload_n d_asC_0 rfl ?_
  refine j_aload_n d_asC_1 rfl ?_
  refine j_get9 (k := 3) (v := vI B.length) d_asC_2 (by decide) jw_721 hi rfl ?_
  refine j_iconst d_asC_5 ?_
  refine j_iadd d_asC_6 ?_
  refine j_U m_asE r [vI (B.length + 1)] 161 d_asC_7 cw_asC_asE rfl rfl jw_744 jw_745 jw_1644 jw_744 (fun s args h => sel_pv (by decide) h) jw_742 rfl (Or.inl ⟨i, _, hi, rfl⟩) (Nat.le_of_ble_eq_true rfl) (Nat.le_of_ble_eq_true rfl) ht ?_
  refine e_asE hi hj hn hfit (by omega) (Nat.le_refl _) (fun w1 j1 b1 n1 f1 hi1 hj1 hjj hn1 hn2 hff hfit1 hlen hfr => ?_)
  have hKj1 : K ≤ j1 := by
    rcases hjj with e | e
    · omega
    · have := get_lt hj; omega
  refine j_aload_n (a := r) d_asC_10 rfl ?_
  refine j_U m_as1 r [] 0 d_asC_11 cw_asC_as1 rfl rfl jw_778 jw_781 jw_779 jw_778 (fun s args h => sel_ts jw_780 h) jw_777 rfl (Or.inl ⟨i, _, hi1, rfl⟩) (Nat.le_of_ble_eq_true rfl) (Nat.le_of_ble_eq_true rfl) (Nat.zero_le _) ?_
  refine e_as1 hi1 ?_
  refine j_if_eq_f (tgt := 45) d_asC_14 (by decide) i1 (by decide) ?_
  refine j_iload_n (a := c) d_asC_17 rfl ?_
  refine j_S m_l1E [vI c] 0 d_asC_18 cw_asC_l1E jw_845 jw_844 rfl (Nat.le_of_ble_eq_true rfl) (Nat.le_of_ble_eq_true rfl) (Nat.zero_le _) ?_
  refine e_l1E hc ?_
  refine j_if_eq_f (tgt := 45) d_asC_21 (by decide) i1 (by decide) ?_
  refine j_aload_n (a := r) d_asC_24 rfl ?_
  refine j_get9 (k := 0) (v := vR b1) d_asC_25 (by decide) jw_718 hi1 rfl ?_
  refine j_aload_n (a := r) d_asC_28 rfl ?_
  refine j_dup d_asC_29 rfl ?_
  refine j_get9 (k := 3) (v := vI B.length) d_asC_30 (by decide) jw_721 hi1 rfl ?_
  refine j_dup_x1 d_asC_33 rfl rfl ?_
  refine j_iconst d_asC_34 ?_
  refine j_iadd d_asC_35 ?_
  refine j_put9 (k := 3) (v := vI (B.length + 1)) d_asC_36 (by decide) jw_721 hi1 rfl rfl rfl ?_
  have hij : j1 ≠ i := fun e => by
    rw [e, hi1] at hj1
    cases hj1
  have hj2 := (set_ne (w := w1) (y := ((r, .inr (9, (sbC b1 x B.length).set 3 (cv id (vI (B.length + 1))))) : Nat × va_E)) hij).trans hj1
  refine j_iload_n (a := c) d_asC_39 rfl ?_
  refine j_i2b d_asC_40 hc ?_
  refine j_bast d_asC_41 hj2 (by omega) (by omega) hc ?_
  refine j_goto (tgt := 75) d_asC_42 (by decide) ?_
  refine j_aload_n (a := r) d_asC_75 rfl ?_
  refine j_aret d_asC_76 rfl (Or.inl ⟨_, rfl⟩) (hq _ ⟨hKi, j1, b1, n1, upd f1 B.length (Int32.ofInt c), x, hKj1, ?_, ?_, ?_, hn2, fun k hk => ?_, bfit_upd hfit1 hc⟩ ?_ (fun k hk hkl => ?_))
  · rw [set_ne (Ne.symm hij), set_eq (get_lt hi1), List.length_append]
    rfl
  · rw [Int.toNat_natCast]
    exact set_eq (by rw [List.length_set]; exact get_lt hj1)
  · rw [List.length_append, List.length_singleton]; omega
  · rw [List.length_append, List.length_singleton] at hk
    unfold upd
    by_cases e : k = B.length
    · rw [if_pos e, e, gD_l]
    · rw [if_neg e, gD_a (by omega), hff k (by omega), hf k (by omega)]
  · rw [List.length_set, List.length_set]; exact hlen
  · rw [set_ne (by omega), set_ne (by omega)]
    exact hfr k hkl (by omega)
theorem e_sbC {c : Int} (h : hB Γ K w i r B) (hc : 0 ≤ c ∧ c < 128) (hl : B.length < 80) (ht : 161 ≤ t) (hq : ∀ w', hB Γ K w' i r (B ++ [c]) → w.length ≤ w'.length → (∀ k, k < K → k < w.length → w'[k]? = w[k]?) → Q (some (vR r)) w') : J Γ m_sbC 0 (entry 2 [vR r, vI c]) [] w t Q := by
  have h0 := h
  obtain ⟨hKi, j, b, n, f, x, hKj, hi, hj⟩ := h0
  refine j_aload_n d_sbC_0 rfl ?_
  refine j_iload_n d_sbC_1 rfl ?_
  refine j_SU m_asC r [vI c] 161 d_sbC_2 cw_sbC_asC jw_1649 jw_730 (by decide) jw_842 jw_841 rfl (Or.inl ⟨i, _, hi, rfl⟩) (Nat.le_of_ble_eq_true rfl) (Nat.le_of_ble_eq_true rfl) ht ?_
  refine e_asC h hc hl (Nat.le_refl _) (fun w' g1 g2 g3 => ?_)
  refine j_pop d_sbC_5 rfl ?_
  refine j_aload_n (a := r) d_sbC_6 rfl ?_
  exact j_aret d_sbC_7 rfl (Or.inl ⟨_, rfl⟩) (hq w' g1 g2 g3)
/-- Integer.stringSize, getChars of one digit -/
theorem e_inS {z : Int} (hz : 0 ≤ z ∧ z ≤ 9) (hq : Q (some (vI 1)) w) : J Γ m_inS 0 (entry 4 [vI z]) [] w t Q := by
  have go : ∀ (L : Lo) (a : Int), inR a → -10 < a → lget L 0 = some (vI a) → lget L 1 = some (vI 0) → lget L 2 = some (vI (-10)) → lget L 3 = some (vI 1) → J Γ m_inS 16 L [] w t Q := fun L a ha h1 g0 g1 g2 g3 => by
    refine j_iload_n d_inS_16 g3 ?_
    refine j_bipush d_inS_17 rfl ?_
    refine j_icmp_ge_f (tgt := 42) d_inS_19 (by decide) ⟨by decide, by decide⟩ ⟨by decide, by decide⟩ (by decide) ?_
    refine j_iload_n d_inS_22 g0 ?_
    refine j_iload_n d_inS_23 g2 ?_
    refine j_icmp_le_f (tgt := 31) d_inS_24 (by decide) ha ⟨by decide, by decide⟩ (by omega) ?_
    refine j_iload_n d_inS_27 g3 ?_
    refine j_iload_n d_inS_28 g1 ?_
    refine j_iadd d_inS_29 ?_
    exact j_iret d_inS_30 rfl rfl hq
  refine j_iconst d_inS_0 ?_
  refine j_istore_n d_inS_1 (by decide) ?_
  refine j_iload_n (a := z) d_inS_2 rfl ?_
  refine j_if_lt_f (tgt := 11) d_inS_3 (by decide) ⟨by omega, by omega⟩ (by omega) ?_
  refine j_iconst d_inS_6 ?_
  refine j_istore_n d_inS_7 (by decide) ?_
  refine j_iload_n (a := z) d_inS_8 rfl ?_
  refine j_ineg d_inS_9 ?_
  refine j_istore_n (a := -z) d_inS_10 (by decide) ?_
  refine j_bipush d_inS_11 rfl ?_
  refine j_istore_n d_inS_13 (by decide) ?_
  refine j_iconst d_inS_14 ?_
  refine j_istore_n d_inS_15 (by decide) ?_
  exact go _ (-z) ⟨by omega, by omega⟩ (by omega) rfl rfl rfl rfl
theorem dOne_at {z : Int} (hz : 0 ≤ z ∧ z ≤ 9) : dOne z.toNat = Int32.ofInt (48 + z) := by
  rcases (show z = 0 ∨ z = 1 ∨ z = 2 ∨ z = 3 ∨ z = 4 ∨ z = 5 ∨ z = 6 ∨ z = 7 ∨ z = 8 ∨ z = 9 by omega) with e | e | e | e | e | e | e | e | e | e <;> subst e <;> decide
theorem e_inG {z q : Int} {j b n : Nat} {f : Nat → Int32} (hz : 0 ≤ z ∧ z ≤ 9) (hj : w[j]? = some ((b, .inl (Γ.2.1 2, (n, .inl f))) : Nat × va_E)) (hn : n ≤ 400) (h0 : 1 ≤ q ∧ q ≤ n) (hq : Q (some (vI (q - 1))) (w.set j (b, .inl (Γ.2.1 2, (n, .inl (upd f (q - 1).toNat (Int32.ofInt (48 + z)))))))) : J Γ m_inG 0 (entry 7 [vI z, vI q, vR b]) [] w t Q := by
  refine j_iload_n d_inG_0 rfl ?_
  refine j_istore d_inG_1 (by decide) ?_
  refine j_iload_n (a := z) d_inG_3 rfl ?_
  refine j_if_ge_t (tgt := 11) d_inG_4 (by decide) ⟨by omega, by omega⟩ (by omega) ?_
  refine j_iconst d_inG_11 ?_
  refine j_istore d_inG_12 (by decide) ?_
  refine j_iload (a := 0) d_inG_14 rfl ?_
  refine j_if_ne_f (tgt := 22) d_inG_16 (by decide) i0 (by decide) ?_
  refine j_iload_n (a := z) d_inG_19 rfl ?_
  refine j_ineg d_inG_20 ?_
  refine j_istore_n d_inG_21 (by decide) ?_
  refine j_iload_n (a := -z) d_inG_22 rfl ?_
  refine j_bipush d_inG_23 rfl ?_
  refine j_icmp_gt_t (tgt := 72) d_inG_25 (by decide) ⟨by omega, by omega⟩ ⟨by decide, by decide⟩ (by omega) ?_
  refine j_aload_n (a := b) d_inG_72 rfl ?_
  refine j_iinc (a := q) d_inG_73 rfl (by decide) ?_
  refine j_iload (a := q + -1) d_inG_76 rfl ?_
  refine j_gsD d_inG_78 jw_902 ?_
  refine j_iload_n (a := -z) d_inG_81 rfl ?_
  refine j_ineg d_inG_82 ?_
  rw [Int.neg_neg]
  refine j_bald (n := 100) (f := dOne) (v := 48 + z) d_inG_83 (Or.inr (Or.inr ⟨rfl, rfl, rfl⟩)) (by omega) (by decide) (dOne_at hz) ?_
  refine j_bast d_inG_84 hj (by omega) (by omega) (by omega) ?_
  refine j_iload_n (a := -z) d_inG_85 rfl ?_
  refine j_bipush d_inG_86 rfl ?_
  refine j_icmp_ge_t (tgt := 104) d_inG_88 (by decide) ⟨by omega, by omega⟩ ⟨by decide, by decide⟩ (by omega) ?_
  refine j_iload (a := 0) d_inG_104 rfl ?_
  refine j_if_eq_t (tgt := 118) d_inG_106 (by decide) i0 rfl ?_
  refine j_iload (a := q + -1) d_inG_118 rfl ?_
  exact j_iret d_inG_120 rfl rfl hq
/-- append(int), one digit -/
theorem e_asN {z : Int} (h : hB Γ K w i r B) (hz : 0 ≤ z ∧ z ≤ 9) (hl : B.length < 80) (ht : 161 ≤ t) (hq : ∀ w', hB Γ K w' i r (B ++ [48 + z]) → w.length ≤ w'.length → (∀ k, k < K → k < w.length → w'[k]? = w[k]?) → Q (some (vR r)) w') : J Γ m_asN 0 (entry 4 [vR r, vI z]) [] w t Q := by
  obtain ⟨hKi, j, b, n, f, x, hKj, hi, hj, hBn, hn, hf, hfit⟩ := h
  refine j_aload_n d_asN_0 rfl ?_
  refine j_get9 (k := 3) (v := vI B.length) d_asN_1 (by decide) jw_721 hi rfl ?_
  refine j_istore_n d_asN_4 (by decide) ?_
  refine j_iload_n (a := (B.length : Int)) d_asN_5 rfl ?_
  refine j_iload_n (a := z) d_asN_6 rfl ?_
  refine j_S m_inS [vI z] 0 d_asN_7 cw_asN_inS jw_897 jw_896 rfl (Nat.le_of_ble_eq_true rfl) (Nat.le_of_ble_eq_true rfl) (Nat.zero_le _) ?_
  refine e_inS hz ?_
  refine j_iadd d_asN_10 ?_
  refine j_istore_n d_asN_11 (by decide) ?_
  refine j_aload_n (a := r) d_asN_12 rfl ?_
  refine j_iload_n (a := (B.length : Int) + 1) d_asN_13 rfl ?_
  refine j_U m_asE r [vI (B.length + 1)] 161 d_asN_14 cw_asN_asE rfl rfl jw_744 jw_745 jw_1644 jw_744 (fun s args h => sel_pv (by decide) h) jw_742 rfl (Or.inl ⟨i, _, hi, rfl⟩) (Nat.le_of_ble_eq_true rfl) (Nat.le_of_ble_eq_true rfl) (by omega) ?_
  refine e_asE hi hj hn hfit (by omega) (Nat.le_refl _) (fun w1 j1 b1 n1 f1 hi1 hj1 hjj hn1 hn2 hff hfit1 hlen hfr => ?_)
  have hKj1 : K ≤ j1 := by
    rcases hjj with e | e
    · omega
    · have := get_lt hj; omega
  have hij : j1 ≠ i := fun e => by
    rw [e, hi1] at hj1
    cases hj1
  refine j_aload_n (a := r) d_asN_17 rfl ?_
  refine j_U m_as1 r [] 0 d_asN_18 cw_asN_as1 rfl rfl jw_778 jw_781 jw_779 jw_778 (fun s args h => sel_ts jw_780 h) jw_777 rfl (Or.inl ⟨i, _, hi1, rfl⟩) (Nat.le_of_ble_eq_true rfl) (Nat.le_of_ble_eq_true rfl) (Nat.zero_le _) ?_
  refine e_as1 hi1 ?_
  refine j_if_eq_f (tgt := 37) d_asN_21 (by decide) i1 (by decide) ?_
  refine j_iload_n (a := z) d_asN_24 rfl ?_
  refine j_iload_n (a := (B.length : Int) + 1) d_asN_25 rfl ?_
  refine j_aload_n (a := r) d_asN_26 rfl ?_
  refine j_get9 (k := 0) (v := vR b1) d_asN_27 (by decide) jw_718 hi1 rfl ?_
  refine j_S m_inG [vI z, vI (B.length + 1), vR b1] 0 d_asN_30 cw_asN_inG jw_900 jw_899 rfl (Nat.le_of_ble_eq_true rfl) (Nat.le_of_ble_eq_true rfl) (Nat.zero_le _) ?_
  refine e_inG hz hj1 (by omega) (by omega) ?_
  rw [Int.add_sub_cancel, Int.toNat_natCast]
  refine j_pop d_asN_33 rfl ?_
  refine j_goto (tgt := 48) d_asN_34 (by decide) ?_
  refine j_aload_n (a := r) d_asN_48 rfl ?_
  refine j_iload_n (a := (B.length : Int) + 1) d_asN_49 rfl ?_
  have hi2 := (set_ne (w := w1) (y := ((b1, .inl (Γ.2.1 2, (n1, .inl (upd f1 B.length (Int32.ofInt (48 + z)))))) : Nat × va_E)) (Ne.symm hij)).trans hi1
  refine j_put9 (k := 3) (v := vI (B.length + 1)) d_asN_50 (by decide) jw_721 hi2 rfl rfl rfl ?_
  refine j_aload_n (a := r) d_asN_53 rfl ?_
  refine j_aret d_asN_54 rfl (Or.inl ⟨_, rfl⟩) (hq _ ⟨hKi, j1, b1, n1, upd f1 B.length (Int32.ofInt (48 + z)), x, hKj1, ?_, ?_, ?_, hn2, fun k hk => ?_, bfit_upd hfit1 (by omega)⟩ ?_ (fun k hk hkl => ?_))
  · rw [set_eq (get_lt hi2), List.length_append]
    rfl
  · exact (set_ne hij).trans (set_eq (get_lt hj1))
  · rw [List.length_append, List.length_singleton]; omega
  · rw [List.length_append, List.length_singleton] at hk
    unfold upd
    by_cases e : k = B.length
    · rw [if_pos e, e, gD_l]
    · rw [if_neg e, gD_a (by omega), hff k (by omega), hf k (by omega)]
  · rw [List.length_set, List.length_set]; exact hlen
  · rw [set_ne (by omega), set_ne (by omega)]
    exact hfr k hkl (by omega)
theorem e_sbN {z : Int} (h : hB Γ K w i r B) (hz : 0 ≤ z ∧ z ≤ 9) (hl : B.length < 80) (ht : 161 ≤ t) (hq : ∀ w', hB Γ K w' i r (B ++ [48 + z]) → w.length ≤ w'.length → (∀ k, k < K → k < w.length → w'[k]? = w[k]?) → Q (some (vR r)) w') : J Γ m_sbN 0 (entry 2 [vR r, vI z]) [] w t Q := by
  have h0 := h
  obtain ⟨hKi, j, b, n, f, x, hKj, hi, hj⟩ := h0
  refine j_aload_n d_sbN_0 rfl ?_
  refine j_iload_n d_sbN_1 rfl ?_
  refine j_SU m_asN r [vI z] 161 d_sbN_2 cw_sbN_asN jw_1650 jw_730 (by decide) jw_894 jw_893 rfl (Or.inl ⟨i, _, hi, rfl⟩) (Nat.le_of_ble_eq_true rfl) (Nat.le_of_ble_eq_true rfl) ht ?_
  refine e_asN h hz hl (Nat.le_refl _) (fun w' g1 g2 g3 => ?_)
  refine j_pop d_sbN_5 rfl ?_
  refine j_aload_n (a := r) d_sbN_6 rfl ?_
  exact j_aret d_sbN_7 rfl (Or.inl ⟨_, rfl⟩) (hq w' g1 g2 g3)
end JB
