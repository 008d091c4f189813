/-! the JDK's rows of bytes that grow -/
theorem app_get {α : Type} {w : List α} {x : α} : (w ++ [x])[w.length]? = some x := by simp
theorem app_lt {α : Type} {w u : List α} {k : Nat} (h : k < w.length) : (w ++ u)[k]? = w[k]? := List.getElem?_append_left h
theorem app_set {α : Type} {w : List α} {x y : α} : (w ++ [x]).set w.length y = w ++ [y] := by simp
theorem get_lt {α : Type} {w : List α} {k : Nat} {x : α} (h : w[k]? = some x) : k < w.length := (List.getElem?_eq_some_iff.mp h).1
theorem set_ne {α : Type} {w : List α} {i k : Nat} {y : α} (h : k ≠ i) : (w.set i y)[k]? = w[k]? := List.getElem?_set_ne (Ne.symm h)
theorem set_eq {α : Type} {w : List α} {i : Nat} {y : α} (h : i < w.length) : (w.set i y)[i]? = some y := by
  rw [List.getElem?_set, if_pos rfl, if_pos h]
theorem BV.app {Γ : JG} {w u : va_W} {b n : Nat} {f : Nat → Int32} (h : BV Γ w b n f) : BV Γ (w ++ u) b n f := by
  rcases h with ⟨j, h⟩ | h
  · exact Or.inl ⟨j, (app_lt (get_lt h)).trans h⟩
  · exact Or.inr h
def bfit (f : Nat → Int32) : Prop := ∀ k, fits .byte (.int (f k)) = true
theorem bfit_0 : bfit (fun _ => 0) := fun _ => rfl
theorem bfit_cpy {f g : Nat → Int32} {sp dp n : Nat} (hf : bfit f) (hg : bfit g) : bfit (va_cpy f g sp dp n) := fun k => by
  unfold va_cpy
  split
  · exact hf _
  · exact hg _
theorem fit_128 {v : Int} (h : 0 ≤ v ∧ v < 128) : fits .byte (.int (Int32.ofInt v)) = true := by
  have := pk_fb (Int32.ofInt v)
  rw [n_i2b h] at this
  exact this
theorem bfit_upd {f : Nat → Int32} {k : Nat} {v : Int} (hf : bfit f) (h : 0 ≤ v ∧ v < 128) : bfit (upd f k (Int32.ofInt v)) := fun j => by
  unfold upd
  split
  · exact fit_128 h
  · exact hf _
section JK
variable {Γ : JG} {w : va_W} {t : Nat} {Q : JQ} {r b i j n : Nat} {x : Value} {c : Int} {f : Nat → Int32}
theorem e_nlN {n a b : Int} (hn : 0 ≤ n ∧ n ≤ 1000) (ha : 0 ≤ a ∧ a ≤ 1000) (hb : 1 ≤ b ∧ b ≤ 2000) (hq : Q (some (vI (n + (if a < b then b else a)))) w) : J Γ m_nlN 0 (entry 4 [vI n, vI a, vI b]) [] w t Q := by
  refine j_iload_n d_nlN_0 rfl ?_
  refine j_iload_n d_nlN_1 rfl ?_
  refine j_iload_n d_nlN_2 rfl ?_
  refine j_mmax d_nlN_3 ⟨jw_753, jw_754, jw_82, jw_755⟩ ⟨by omega, by omega⟩ ⟨by omega, by omega⟩ (by decide) (Nat.le_of_ble_eq_true rfl) ?_
  have hm : 1 ≤ (if a < b then b else a) ∧ (if a < b then b else a) ≤ 2000 := by split <;> omega
  generalize (if a < b then b else a) = m at hm hq ⊢
  refine j_iadd d_nlN_6 ?_
  refine j_istore_n d_nlN_7 (by decide) ?_
  refine j_iconst d_nlN_8 ?_
  refine j_iload_n (a := n + m) d_nlN_9 rfl ?_
  refine j_icmp_ge_f (tgt := 21) d_nlN_10 (by decide) ⟨by decide, by decide⟩ ⟨by omega, by omega⟩ (by omega) ?_
  refine j_iload_n (a := n + m) d_nlN_13 rfl ?_
  refine j_ldc (z := 2147483639) d_nlN_14 jw_756 ?_
  refine j_icmp_gt_f (tgt := 21) d_nlN_16 (by decide) ⟨by omega, by omega⟩ ⟨by decide, by decide⟩ (by omega) ?_
  refine j_iload_n (a := n + m) d_nlN_19 rfl ?_
  exact j_iret d_nlN_20 rfl rfl hq
theorem e_asW {q : Int} (hi : w[i]? = some ((r, .inr (9, sbC b x c)) : Nat × va_E)) (hb : BV Γ w b n f) (hn : n ≤ 400) (h0 : n < q ∧ q ≤ 400) (hq : Q (some (vI ((n : Int) + (if q - (n : Int) < (n : Int) + 2 then (n : Int) + 2 else q - (n : Int))))) w) : J Γ m_asW 0 (entry 6 [vR r, vI q]) [] w t Q := by
  refine j_aload_n d_asW_0 rfl ?_
  refine j_get9 (k := 0) (v := vR b) d_asW_1 (by decide) jw_718 hi rfl ?_
  refine j_blen d_asW_4 hb ?_
  refine j_istore_n d_asW_5 (by decide) ?_
  refine j_iload_n (a := q) d_asW_6 rfl ?_
  refine j_aload_n (a := r) d_asW_7 rfl ?_
  refine j_get9 (k := 1) (v := vI 0) d_asW_8 (by decide) jw_719 hi rfl ?_
  refine j_ishl d_asW_11 (by decide) (by decide) ?_
  rw [sl0]
  refine j_istore_n d_asW_12 (by decide) ?_
  refine j_iload_n (a := q) d_asW_13 rfl ?_
  refine j_iload_n (a := (n : Int)) d_asW_14 rfl ?_
  refine j_isub d_asW_15 ?_
  refine j_istore d_asW_16 (by decide) ?_
  refine j_iload_n (a := (n : Int)) d_asW_18 rfl ?_
  refine j_iload (a := q - n) d_asW_19 rfl ?_
  refine j_iload_n (a := (n : Int)) d_asW_21 rfl ?_
  refine j_iconst d_asW_22 ?_
  refine j_aload_n (a := r) d_asW_23 rfl ?_
  refine j_get9 (k := 1) (v := vI 0) d_asW_24 (by decide) jw_719 hi rfl ?_
  refine j_ishl d_asW_27 (by decide) (by decide) ?_
  rw [sl0]
  refine j_iadd d_asW_28 ?_
  refine j_S m_nlN [vI n, vI (q - n), vI (n + 2)] 0 d_asW_29 cw_asW_nlN jw_751 jw_750 rfl (Nat.le_of_ble_eq_true rfl) (Nat.le_of_ble_eq_true rfl) (Nat.zero_le _) ?_
  refine e_nlN (by omega) (by omega) (by omega) ?_
  have hm : 0 < (if q - n < (n : Int) + 2 then (n : Int) + 2 else q - n) ∧ (if q - n < (n : Int) + 2 then (n : Int) + 2 else q - n) ≤ 402 := by split <;> omega
  generalize (if q - n < (n : Int) + 2 then (n : Int) + 2 else q - n) = m at hm hq ⊢
  refine j_istore (a := n + m) d_asW_32 (by decide) ?_
  refine j_iload (a := n + m) d_asW_34 rfl ?_
  refine j_ldc (z := 2147483647) d_asW_36 jw_760 ?_
  refine j_icmp_ne_t (tgt := 51) d_asW_38 (by decide) ⟨by omega, by omega⟩ ⟨by decide, by decide⟩ (by omega) ?_
  refine j_iload (a := n + m) d_asW_51 rfl ?_
  refine j_aload_n (a := r) d_asW_53 rfl ?_
  refine j_get9 (k := 1) (v := vI 0) d_asW_54 (by decide) jw_719 hi rfl ?_
  refine j_ishr d_asW_57 ⟨by omega, by omega⟩ (by decide) (by decide) ?_
  rw [sh0]
  exact j_iret d_asW_58 rfl rfl hq
theorem e_arO {m : Int} (hb : BV Γ w b n f) (hn : n ≤ 400) (hm : n < m ∧ m ≤ 1000) (hf : bfit f) (ht : 1 + m.toNat ≤ t) (hq : ∀ q, Q (some (vR q)) (w ++ [((q, .inl (Γ.2.1 2, (m.toNat, .inl (va_cpy f (fun _ => 0) 0 0 n)))) : Nat × va_E)])) : J Γ m_arO 0 (entry 3 [vR b, vI m]) [] w t Q := by
  refine j_iload_n d_arO_0 rfl ?_
  refine j_aload_n d_arO_1 rfl ?_
  refine j_blen d_arO_2 hb ?_
  refine j_icmp_ne_t (tgt := 14) d_arO_3 (by decide) ⟨by omega, by omega⟩ ⟨by omega, by omega⟩ (by omega) ?_
  refine j_iload_n d_arO_14 rfl ?_
  refine j_newB d_arO_15 (by omega) ht (fun q => ?_)
  refine j_astore_n d_arO_17 (by decide) ?_
  refine j_aload_n (a := b) d_arO_18 rfl ?_
  refine j_iconst d_arO_19 ?_
  refine j_aload_n (a := q) d_arO_20 rfl ?_
  refine j_iconst d_arO_21 ?_
  refine j_aload_n (a := b) d_arO_22 rfl ?_
  refine j_blen d_arO_23 hb.app ?_
  refine j_iload_n (a := m) d_arO_24 rfl ?_
  refine j_mmin d_arO_25 ⟨jw_771, jw_772, jw_82, jw_773⟩ ⟨by omega, by omega⟩ ⟨by omega, by omega⟩ (by decide) (Nat.le_of_ble_eq_true rfl) ?_
  rw [if_neg (by omega)]
  refine j_copy (i1 := w.length) (n1 := m.toNat) (g := fun _ => 0) d_arO_28 ⟨jw_774, jw_776, jw_775, jw_84⟩ hb.app app_get ⟨by decide, by decide⟩ ⟨by decide, by decide⟩ (by omega) (by omega) (by omega) (fun k _ => hf _) (by decide) (Nat.le_of_ble_eq_true rfl) ?_
  rw [app_set]
  refine j_aload_n (a := q) d_arO_31 rfl ?_
  exact j_aret d_arO_32 rfl (Or.inr ⟨_, rfl⟩) (hq q)
/-- ensureCapacityInternal -/
theorem e_asE {q : Int} (hi : w[i]? = some ((r, .inr (9, sbC b x c)) : Nat × va_E)) (hj : w[j]? = some ((b, .inl (Γ.2.1 2, (n, .inl f))) : Nat × va_E)) (hn : n ≤ 160) (hf : bfit f) (h0 : 0 ≤ q ∧ q ≤ 80) (ht : 161 ≤ t)
    (hq : ∀ (w' : va_W) (j' b' n' : Nat) (f' : Nat → Int32), w'[i]? = some ((r, .inr (9, sbC b' x c)) : Nat × va_E) → w'[j']? = some ((b', .inl (Γ.2.1 2, (n', .inl f'))) : Nat × va_E) → (j' = j ∨ w.length ≤ j') → q ≤ n' → n' ≤ 160 → (∀ k, k < n → f' k = f k) → bfit f' → w.length ≤ w'.length → (∀ k, k < w.length → k ≠ i → w'[k]? = w[k]?) → Q none w') : J Γ m_asE 0 (entry 3 [vR r, vI q]) [] w t Q := by
  have hb : BV Γ w b n f := Or.inl ⟨j, hj⟩
  have hil := get_lt hi
  refine j_aload_n d_asE_0 rfl ?_
  refine j_get9 (k := 0) (v := vR b) d_asE_1 (by decide) jw_718 hi rfl ?_
  refine j_blen d_asE_4 hb ?_
  refine j_aload_n d_asE_5 rfl ?_
  refine j_get9 (k := 1) (v := vI 0) d_asE_6 (by decide) jw_719 hi rfl ?_
  refine j_ishr d_asE_9 ⟨by omega, by omega⟩ (by decide) (by decide) ?_
  rw [sh0]
  refine j_istore_n d_asE_10 (by decide) ?_
  refine j_iload_n (a := q) d_asE_11 rfl ?_
  refine j_iload_n (a := (n : Int)) d_asE_12 rfl ?_
  refine j_isub d_asE_13 ?_
  by_cases hle : q - n ≤ 0
  · refine j_if_le_t (tgt := 38) d_asE_14 (by decide) ⟨by omega, by omega⟩ hle ?_
    exact j_vret d_asE_38 rfl (hq w j b n f hi hj (Or.inl rfl) (by omega) hn (fun k _ => rfl) hf (Nat.le_refl _) (fun k _ _ => rfl))
  · refine j_if_le_f (tgt := 38) d_asE_14 (by decide) ⟨by omega, by omega⟩ hle ?_
    refine j_aload_n (a := r) d_asE_17 rfl ?_
    refine j_aload_n (a := r) d_asE_18 rfl ?_
    refine j_get9 (k := 0) (v := vR b) d_asE_19 (by decide) jw_718 hi rfl ?_
    refine j_aload_n (a := r) d_asE_22 rfl ?_
    refine j_iload_n (a := q) d_asE_23 rfl ?_
    refine j_U m_asW r [vI q] 0 d_asE_24 cw_asE_asW rfl rfl jw_748 jw_749 jw_1645 jw_748 (fun s args h => sel_pv (by decide) h) jw_746 rfl (Or.inl ⟨i, _, hi, rfl⟩) (Nat.le_of_ble_eq_true rfl) (Nat.le_of_ble_eq_true rfl) (Nat.zero_le _) ?_
    refine e_asW hi hb (by omega) (by omega) ?_
    have hm : q ≤ (n : Int) + (if q - n < (n : Int) + 2 then (n : Int) + 2 else q - n) ∧ (n : Int) + (if q - n < (n : Int) + 2 then (n : Int) + 2 else q - n) ≤ 160 := by split <;> omega
    generalize (n : Int) + (if q - n < (n : Int) + 2 then (n : Int) + 2 else q - n) = m at hm ⊢
    refine j_aload_n (a := r) d_asE_27 rfl ?_
    refine j_get9 (k := 1) (v := vI 0) d_asE_28 (by decide) jw_719 hi rfl ?_
    refine j_ishl d_asE_31 (by decide) (by decide) ?_
    rw [sl0]
    refine j_S m_arO [vR b, vI m] 161 d_asE_32 cw_asE_arO jw_762 jw_761 rfl (Nat.le_of_ble_eq_true rfl) (Nat.le_of_ble_eq_true rfl) (by omega) ?_
    refine e_arO hb (by omega) (by omega) hf (by omega) (fun q9 => ?_)
    have hi2 : (w ++ [((q9, .inl (Γ.2.1 2, (m.toNat, .inl (va_cpy f (fun _ => 0) 0 0 n)))) : Nat × va_E)])[i]? = some ((r, .inr (9, sbC b x c)) : Nat × va_E) := (app_lt hil).trans hi
    refine j_put9 (k := 0) (v := vR q9) d_asE_35 (by decide) jw_718 hi2 rfl rfl rfl ?_
    refine j_vret d_asE_38 rfl ?_
    have hl : (w ++ [((q9, .inl (Γ.2.1 2, (m.toNat, .inl (va_cpy f (fun _ => 0) 0 0 n)))) : Nat × va_E)]).length = w.length + 1 := by rw [List.length_append]; rfl
    refine hq _ w.length q9 m.toNat (va_cpy f (fun _ => 0) 0 0 n) (set_eq (by omega)) ((set_ne (by omega)).trans app_get) (Or.inr (Nat.le_refl _)) (by omega) (by omega) (fun k hk => ?_) (bfit_cpy hf bfit_0) (by rw [List.length_set, hl]; omega) (fun k hk hki => (set_ne hki).trans (app_lt hk))
    unfold va_cpy
    rw [if_pos (by omega)]
    congr 1
    omega
end JK
