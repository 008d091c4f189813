/-! the JDK's Strings, walked -/
/-- the String rs holds S -/
def hS (Γ : JG) (w : va_W) (rs : Nat) (S : List Int) : Prop := ∃ (bs ns : Nat) (fs : Nat → Int32), SSV Γ w rs bs ns fs ∧ (ns = S.length ∧ (S.length ≤ 80 ∧ ((∀ k, k < ns → fs k = Int32.ofInt (S.getD k 0)) ∧ ∀ c ∈ S, 0 ≤ c ∧ c < 128)))
theorem hS_fit {S : List Int} {ns : Nat} {fs : Nat → Int32} (hn : ns = S.length) (h : ∀ k, k < ns → fs k = Int32.ofInt (S.getD k 0)) (hc : ∀ c ∈ S, 0 ≤ c ∧ c < 128) {k : Nat} (hk : k < ns) : fits .byte (.int (fs k)) = true := by
  rw [h k hk]
  refine fit_128 (hc _ ?_)
  rw [List.getD_eq_getElem?_getD, List.getElem?_eq_getElem (by omega)]
  exact List.getElem_mem _
section JG
variable {Γ : JG} {w w1 : va_W} {t : Nat} {Q : JQ} {r b i j n K rs bs ns : Nat} {x : Value} {c : Int} {f fs : Nat → Int32} {B S : List Int} {μ : MD} {pc : Nat} {L : Lo} {st : List AV}
theorem SSV.mv (h : SSV Γ w rs bs ns fs) (hfr : ∀ (k : Nat) (e : va_E) (a : Nat), w[k]? = some (a, e) → (∀ fs, e ≠ .inr (9, fs)) → w1[k]? = w[k]?) : SSV Γ w1 rs bs ns fs := by
  rcases h with ⟨i1, j1, x1, y1, h1, h2⟩ | h
  · exact Or.inl ⟨i1, j1, x1, y1, (hfr i1 _ _ h1 (fun fs e => by cases e)).trans h1, (hfr j1 _ _ h2 (fun fs e => by cases e)).trans h2⟩
  · exact Or.inr h
theorem e_asF (hi : w[i]? = some ((r, .inr (9, sbC b x c)) : Nat × va_E)) (hs : SSV Γ w rs bs ns fs) (hq : Q none w) : J Γ m_asF 0 (entry 2 [vR r, vR rs]) [] w t Q := by
  refine j_gsC d_asF_0 jw_710 ?_
  refine j_if_eq_f (tgt := 21) d_asF_3 (by decide) i1 (by decide) ?_
  refine j_aload_n d_asF_6 rfl ?_
  refine j_get9 (k := 1) (v := vI 0) d_asF_7 (by decide) jw_719 hi rfl ?_
  refine j_aload_n d_asF_10 rfl ?_
  refine j_V m_stD rs [] 0 d_asF_11 cw_asF_stD jw_352 jw_353 jw_806 rfl hs.rv (Nat.le_of_ble_eq_true rfl) (Nat.le_of_ble_eq_true rfl) (Nat.zero_le _) ?_
  refine e_stD hs ?_
  refine j_icmp_eq_t (tgt := 21) d_asF_14 (by decide) i0 i0 rfl ?_
  exact j_vret d_asF_21 rfl hq
theorem e_stG {q : Int} (hs : SSV Γ w rs bs ns fs) (hj : w[j]? = some ((b, .inl (Γ.2.1 2, (n, .inl f))) : Nat × va_E)) (h0 : 0 ≤ q ∧ q ≤ 160) (hn : n ≤ 160) (hle : q + ns ≤ n) (hf : ∀ k, k < ns → fits .byte (.int (fs k)) = true) (hq : Q none (w.set j (b, .inl (Γ.2.1 2, (n, .inl (va_cpy fs f 0 q.toNat ns)))))) : J Γ m_stG 0 (entry 4 [vR rs, vR b, vI q, vI 0]) [] w t Q := by
  refine j_aload_n d_stG_0 rfl ?_
  refine j_V m_stD rs [] 0 d_stG_1 cw_stG_stD jw_352 jw_353 jw_351 rfl hs.rv (Nat.le_of_ble_eq_true rfl) (Nat.le_of_ble_eq_true rfl) (Nat.zero_le _) ?_
  refine e_stD hs ?_
  refine j_iload_n d_stG_4 rfl ?_
  refine j_icmp_ne_f (tgt := 28) d_stG_5 (by decide) i0 i0 (fun k => k rfl) ?_
  refine j_aload_n d_stG_8 rfl ?_
  refine j_sval d_stG_9 jw_928 hs ?_
  refine j_iconst d_stG_12 ?_
  refine j_aload_n d_stG_13 rfl ?_
  refine j_iload_n d_stG_14 rfl ?_
  refine j_iload_n d_stG_15 rfl ?_
  refine j_ishl d_stG_16 (by decide) (by decide) ?_
  rw [sl0]
  refine j_aload_n d_stG_17 rfl ?_
  refine j_sval d_stG_18 jw_928 hs ?_
  refine j_blen d_stG_21 hs.bv ?_
  refine j_copy d_stG_22 ⟨jw_830, jw_776, jw_775, jw_84⟩ hs.bv hj ⟨by decide, by decide⟩ (by omega) (by omega) (by omega) (by omega) (fun k hk => by rw [show (0 : Int).toNat + k = k from Nat.zero_add k]; exact hf k (by omega)) (by decide) (Nat.le_of_ble_eq_true rfl) ?_
  rw [Int.toNat_natCast]
  refine j_goto (tgt := 43) d_stG_25 (by decide) ?_
  exact j_vret d_stG_43 rfl hq
theorem e_asP {q : Int} (hi : w[i]? = some ((r, .inr (9, sbC b x c)) : Nat × va_E)) (hs : SSV Γ w rs bs ns fs) (hj : w[j]? = some ((b, .inl (Γ.2.1 2, (n, .inl f))) : Nat × va_E)) (h0 : 0 ≤ q ∧ q ≤ 160) (hn : n ≤ 160) (hle : q + ns ≤ n) (hf : ∀ k, k < ns → fits .byte (.int (fs k)) = true) (hq : Q none (w.set j (b, .inl (Γ.2.1 2, (n, .inl (va_cpy fs f 0 q.toNat ns)))))) : J Γ m_asP 0 (entry 3 [vR r, vI q, vR rs]) [] w t Q := by
  refine j_aload_n d_asP_0 rfl ?_
  refine j_aload_n d_asP_1 rfl ?_
  refine j_U m_asF r [vR rs] 0 d_asP_2 cw_asP_asF rfl rfl jw_804 jw_805 jw_1647 jw_804 (fun s args h => sel_pv (by decide) h) jw_802 rfl (Or.inl ⟨i, _, hi, rfl⟩) (Nat.le_of_ble_eq_true rfl) (Nat.le_of_ble_eq_true rfl) (Nat.zero_le _) ?_
  refine e_asF hi hs ?_
  refine j_aload_n d_asP_5 rfl ?_
  refine j_aload_n d_asP_6 rfl ?_
  refine j_get9 (k := 0) (v := vR b) d_asP_7 (by decide) jw_718 hi rfl ?_
  refine j_iload_n d_asP_10 rfl ?_
  refine j_aload_n d_asP_11 rfl ?_
  refine j_get9 (k := 1) (v := vI 0) d_asP_12 (by decide) jw_719 hi rfl ?_
  refine j_V m_stG rs [vR b, vI q, vI 0] 0 d_asP_15 cw_asP_stG jw_827 jw_828 jw_826 rfl hs.rv (Nat.le_of_ble_eq_true rfl) (Nat.le_of_ble_eq_true rfl) (Nat.zero_le _) ?_
  refine e_stG hs hj h0 hn hle hf ?_
  exact j_vret d_asP_18 rfl hq
/-- append(String) -/
theorem e_asS (h : hB Γ K w i r B) (hS : hS Γ w rs S) (hl : B.length + S.length ≤ 80) (ht : 161 ≤ t) (hq : ∀ w', hB Γ K w' i r (B ++ S) → w.length ≤ w'.length → (∀ k, k < K → k < w.length → w'[k]? = w[k]?) → Q (some (vR r)) w') : J Γ m_asS 0 (entry 3 [vR r, vR rs]) [] w t Q := by
  obtain ⟨hKi, j, b, n, f, x, hKj, hi, hj, hBn, hn, hf, hfit⟩ := h
  obtain ⟨bs, ns, fs, hs, hns, hS80, hfs, hfc⟩ := hS
  refine j_aload_n d_asS_0 rfl ?_
  refine j_ifnonnull (tgt := 9) d_asS_1 (by decide) ?_
  refine j_aload_n d_asS_9 rfl ?_
  refine j_V m_stL rs [] 0 d_asS_10 cw_asS_stL jw_348 jw_349 jw_797 rfl hs.rv (Nat.le_of_ble_eq_true rfl) (Nat.le_of_ble_eq_true rfl) (Nat.zero_le _) ?_
  refine e_stL hs (by omega) ?_
  refine j_istore_n d_asS_13 (by decide) ?_
  refine j_aload_n (a := r) d_asS_14 rfl ?_
  refine j_aload_n (a := r) d_asS_15 rfl ?_
  refine j_get9 (k := 3) (v := vI B.length) d_asS_16 (by decide) jw_721 hi rfl ?_
  refine j_iload_n (a := (ns : Int)) d_asS_19 rfl ?_
  refine j_iadd d_asS_20 ?_
  refine j_U m_asE r [vI (B.length + ns)] 161 d_asS_21 cw_asS_asE rfl rfl jw_744 jw_745 jw_1644 jw_744 (fun s args h => sel_pv (by decide) h) jw_742 rfl (Or.inl ⟨i, _, hi, rfl⟩) (Nat.le_of_ble_eq_true rfl) (Nat.le_of_ble_eq_true rfl) ht ?_
  refine e_asE hi hj hn hfit (by omega) (Nat.le_refl _) (fun w1 j1 b1 n1 f1 hi1 hj1 hjj hn1 hn2 hff hfit1 hlen hfr => ?_)
  have hKj1 : K ≤ j1 := by
    rcases hjj with e | e
    · omega
    · have := get_lt hj; omega
  have hij : j1 ≠ i := fun e => by
    rw [e, hi1] at hj1
    cases hj1
  have hs1 : SSV Γ w1 rs bs ns fs := hs.mv (fun k e a hk hne => hfr k (get_lt hk) (fun e2 => by
    rw [e2, hi] at hk
    cases hk
    exact hne _ rfl))
  refine j_aload_n (a := r) d_asS_24 rfl ?_
  refine j_aload_n (a := r) d_asS_25 rfl ?_
  refine j_get9 (k := 3) (v := vI B.length) d_asS_26 (by decide) jw_721 hi1 rfl ?_
  refine j_aload_n (a := rs) d_asS_29 rfl ?_
  refine j_U m_asP r [vI B.length, vR rs] 0 d_asS_30 cw_asS_asP rfl rfl jw_800 jw_801 jw_1646 jw_800 (fun s args h => sel_pv (by decide) h) jw_798 rfl (Or.inl ⟨i, _, hi1, rfl⟩) (Nat.le_of_ble_eq_true rfl) (Nat.le_of_ble_eq_true rfl) (Nat.zero_le _) ?_
  refine e_asP hi1 hs1 hj1 (by omega) hn2 (by omega) (fun k hk => hS_fit hns hfs hfc hk) ?_
  rw [Int.toNat_natCast]
  have hi2 := (set_ne (w := w1) (y := ((b1, .inl (Γ.2.1 2, (n1, .inl (va_cpy fs f1 0 B.length ns)))) : Nat × va_E)) (Ne.symm hij)).trans hi1
  refine j_aload_n (a := r) d_asS_33 rfl ?_
  refine j_dup d_asS_34 rfl ?_
  refine j_get9 (k := 3) (v := vI B.length) d_asS_35 (by decide) jw_721 hi2 rfl ?_
  refine j_iload_n (a := (ns : Int)) d_asS_38 rfl ?_
  refine j_iadd d_asS_39 ?_
  refine j_put9 (k := 3) (v := vI (B.length + ns)) d_asS_40 (by decide) jw_721 hi2 rfl rfl rfl ?_
  refine j_aload_n (a := r) d_asS_43 rfl ?_
  refine j_aret d_asS_44 rfl (Or.inl ⟨_, rfl⟩) (hq _ ⟨hKi, j1, b1, n1, va_cpy fs f1 0 B.length ns, x, hKj1, ?_, ?_, ?_, hn2, fun k hk => ?_, fun k => ?_⟩ ?_ (fun k hk hkl => ?_))
  · rw [set_eq (get_lt hi2), List.length_append, ← hns]
    rfl
  · exact (set_ne hij).trans (set_eq (get_lt hj1))
  · rw [List.length_append]; omega
  · rw [List.length_append] at hk
    unfold va_cpy
    by_cases e : k < B.length
    · rw [if_neg (by omega), gD_a e, hff k (by omega), hf k e]
    · rw [if_pos (by omega), show 0 + (k - B.length) = k - B.length by omega, hfs _ (by omega), ← gD_b (B := B), show B.length + (k - B.length) = k by omega]
  · unfold va_cpy
    split
    · rw [show 0 + (k - B.length) = k - B.length by omega]; exact hS_fit hns hfs hfc (by omega)
    · exact hfit1 k
  · rw [List.length_set, List.length_set]; exact hlen
  · rw [set_ne (by omega), set_ne (by omega)]
    exact hfr k hkl (by omega)
theorem e_sbS (h : hB Γ K w i r B) (hS : hS Γ w rs S) (hl : B.length + S.length ≤ 80) (ht : 161 ≤ t) (hq : ∀ w', hB Γ K w' i r (B ++ S) → w.length ≤ w'.length → (∀ k, k < K → k < w.length → w'[k]? = w[k]?) → Q (some (vR r)) w') : J Γ m_sbS 0 (entry 2 [vR r, vR rs]) [] w t Q := by
  have h0 := h
  obtain ⟨hKi, j, b, n, f, x, hKj, hi, hj⟩ := h0
  refine j_aload_n d_sbS_0 rfl ?_
  refine j_aload_n d_sbS_1 rfl ?_
  refine j_SU m_asS r [vR rs] 161 d_sbS_2 cw_sbS_asS jw_1642 jw_730 (by decide) jw_736 jw_735 rfl (Or.inl ⟨i, _, hi, rfl⟩) (Nat.le_of_ble_eq_true rfl) (Nat.le_of_ble_eq_true rfl) ht ?_
  refine e_asS h hS hl (Nat.le_refl _) (fun w' g1 g2 g3 => ?_)
  refine j_pop d_sbS_5 rfl ?_
  refine j_aload_n (a := r) d_sbS_6 rfl ?_
  exact j_aret d_sbS_7 rfl (Or.inl ⟨_, rfl⟩) (hq w' g1 g2 g3)
end JG
