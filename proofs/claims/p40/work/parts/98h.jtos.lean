/-! the JDK's toString and charAt, walked -/
theorem jc_1 : Cond.methodLink "java/util/Arrays" 310 ⟨"[B", "clone", "()Ljava/lang/Object;"⟩ ∈ TS := ts_mem (i := 764) (by decide +kernel) rfl
theorem jc_2 : Cond.sameMethod "[B" "java/lang/Object" "clone" "()Ljava/lang/Object;" ∈ TS := ts_mem (i := 765) (by decide +kernel) rfl
theorem jc_3 : Cond.native ⟨"java/lang/Object", "clone", "()Ljava/lang/Object;"⟩ ∈ TS := ts_mem (i := 766) (by decide +kernel) rfl
theorem jc_4 : Cond.instanceMethod ⟨"java/lang/Object", "clone", "()Ljava/lang/Object;"⟩ ∈ TS := ts_mem (i := 767) (by decide +kernel) rfl
theorem jc_5 : Cond.selects "[B" ⟨"[B", "clone", "()Ljava/lang/Object;"⟩ ⟨"java/lang/Object", "clone", "()Ljava/lang/Object;"⟩ ∈ TS := ts_mem (i := 768) (by decide +kernel) rfl
theorem jc_6 : Cond.castable "[B" "java/lang/Cloneable" ∈ TS := ts_mem (i := 769) (by decide +kernel) rfl
theorem jc_7 : Cond.classLink "java/util/Arrays" 311 "[B" ∈ TS := ts_mem (i := 770) (by decide +kernel) rfl
section JT
variable {Γ : JG} {w w1 : va_W} {t : Nat} {Q : JQ} {r b i j n K rs bs ns : Nat} {x : Value} {c : Int} {f fs : Nat → Int32} {B S : List Int} {μ : MD} {pc : Nat} {L : Lo} {st : List AV}
theorem j_clone {a : Nat} (hμ : μ.1.cls = "java/util/Arrays") (d : decode μ.2.1 pc = .ok (.invokevirtual 310, 3)) (h : w[j]? = some ((a, .inl (Γ.2.1 2, (n, .inl f))) : Nat × va_E)) (hf : bfit f) (hn : n ≤ 1000) (hfr : 1 ≤ μ.2.2.2.2.1) (hlo : wt st + 14 ≤ μ.2.2.2.2.2) (ht : 1 + n ≤ t) (kk : ∀ q, J Γ μ (pc + 3) L (vR q :: st) (w ++ [((q, .inl (Γ.2.1 2, (n, .inl f))) : Nat × va_E)]) (t - (1 + n)) Q) : J Γ μ pc L (vR a :: st) w t Q := by
  intro p e R s m args below meth c H locs cells slots ls Qs B E hc hs hl hP hD hS
  have ho := B.2.2.2.1
  rw [hμ] at ho
  have hrest : ((st.map (cv id)).map fun v => v.category).sum + 14 ≤ R.locals := by
    rw [wt_sum]; exact Nat.le_trans hlo B.2.2.2.2.2.2.2.2.2.2
  refine va_clone (ad := "[B") B.1 B.2.1 (B.2.2.1.trans hl.1.symm) ho (B.wd _ jc_1) (B.wd _ jc_2) (B.wd _ jc_3) (B.wd _ jc_4) (B.wd _ jc_5) (B.2.2.2.2.2.2.1.1.2.1 _ jc_6) B.kj hP hD hS B.lo j 2 h rfl (show s.vm.findClass ("[" ++ FieldType.byte.toString) = some (Γ.2.1 2) from (B.kj.2 2 _ rfl).2) (fun k v hv => ?_) (Nat.le_trans hfr B.2.2.2.2.2.2.2.2.2.1) hrest (by omega) (by show slots + n ≤ R.slots; omega) d (fun q H1 _ h1 h2 h3 => kk q p e R s m args below meth c H1 locs (cells + 1) (slots + n) ls Qs B E (by omega) (by omega) hl h1 h2 h3)
  have hv : (arrV (Γ.2.1 2) n (fun j => .int (f j))).slots[k]? = some v := hv
  have hk : k < n := by
    have := (Array.getElem?_eq_some_iff.mp hv).1
    rw [arrV_size] at this
    exact this
  rw [arrV_read _ _ hk] at hv
  cases hv
  exact hf k
theorem j_castB {a : Nat} (hμ : μ.1.cls = "java/util/Arrays") (d : decode μ.2.1 pc = .ok (.checkcast 311, 3)) (h : w[j]? = some ((a, .inl (Γ.2.1 2, (n, .inl f))) : Nat × va_E)) (kk : J Γ μ (pc + 3) L (vR a :: st) w t Q) : J Γ μ pc L (vR a :: st) w t Q := by
  intro p e R s m args below meth c H locs cells slots ls Qs B E hc hs hl hP hD hS
  have ho := B.2.2.2.1
  rw [hμ] at ho
  exact va_castA B.1 B.2.1 ho (B.wd _ jc_7) hP j h (show s.vm.findClass ("[" ++ FieldType.byte.toString) = some (Γ.2.1 2) from (B.kj.2 2 _ rfl).2) d (kk p e R s m args below meth c H locs cells slots ls Qs B E hc hs hl hP hD hS)
theorem e_arK {a m : Int} (h : 0 ≤ a ∧ a ≤ m) (hm : m ≤ 1000) (hq : Q none w) : J Γ m_arK 0 (entry 2 [vI a, vI m]) [] w t Q := by
  refine j_iload_n d_arK_0 rfl ?_
  refine j_iload_n d_arK_1 rfl ?_
  refine j_icmp_ge_t (tgt := 37) d_arK_2 (by decide) ⟨by omega, by omega⟩ ⟨by omega, by omega⟩ (by omega) ?_
  exact j_vret d_arK_37 rfl hq
theorem e_arB {m : Int} (hb : BV Γ w b n f) (hn : n ≤ 400) (hm : 0 ≤ m ∧ m ≤ n) (hf : bfit f) (ht : 1 + m.toNat ≤ t) (hq : ∀ q, Q (some (vR q)) (w ++ [((q, .inl (Γ.2.1 2, (m.toNat, .inl (va_cpy f (fun _ => 0) 0 0 m.toNat)))) : Nat × va_E)])) : J Γ m_arB 0 (entry 5 [vR b, vI 0, vI m]) [] w t Q := by
  refine j_iload_n (a := 0) d_arB_0 rfl ?_
  refine j_iload_n (a := m) d_arB_1 rfl ?_
  refine j_S m_arK [vI 0, vI m] 0 d_arB_2 cw_arB_arK jw_884 jw_883 rfl (Nat.le_of_ble_eq_true rfl) (Nat.le_of_ble_eq_true rfl) (Nat.zero_le _) ?_
  refine e_arK (by omega) (by omega) ?_
  refine j_iload_n (a := m) d_arB_5 rfl ?_
  refine j_iload_n (a := 0) d_arB_6 rfl ?_
  refine j_isub d_arB_7 ?_
  rw [Int.sub_zero]
  refine j_istore_n d_arB_8 (by decide) ?_
  refine j_iload_n (a := m) d_arB_9 rfl ?_
  refine j_newB d_arB_10 (by omega) ht (fun q => ?_)
  refine j_astore d_arB_12 (by decide) ?_
  refine j_aload_n (a := b) d_arB_14 rfl ?_
  refine j_iload_n (a := 0) d_arB_15 rfl ?_
  refine j_aload (a := q) d_arB_16 rfl ?_
  refine j_iconst d_arB_18 ?_
  refine j_aload_n (a := b) d_arB_19 rfl ?_
  refine j_blen d_arB_20 hb.app ?_
  refine j_iload_n (a := 0) d_arB_21 rfl ?_
  refine j_isub d_arB_22 ?_
  rw [Int.sub_zero]
  refine j_iload_n (a := m) d_arB_23 rfl ?_
  refine j_mmin d_arB_24 ⟨jw_771, jw_772, jw_82, jw_773⟩ ⟨by omega, by omega⟩ ⟨by omega, by omega⟩ (by decide) (Nat.le_of_ble_eq_true rfl) ?_
  have e9 : (if m < (n : Int) then m else (n : Int)) = m := by
    by_cases h : m < (n : Int)
    · rw [if_pos h]
    · rw [if_neg h]; omega
  rw [e9]
  refine j_copy (i1 := w.length) (n1 := m.toNat) (g := fun _ => 0) d_arB_27 ⟨jw_774, jw_776, jw_775, jw_84⟩ hb.app app_get ⟨by decide, by decide⟩ ⟨by decide, by decide⟩ (by omega) (by omega) (by omega) (fun k _ => hf _) (by decide) (Nat.le_of_ble_eq_true rfl) ?_
  rw [app_set]
  refine j_aload (a := q) d_arB_30 rfl ?_
  exact j_aret d_arB_32 rfl (Or.inr ⟨_, rfl⟩) (hq q)
theorem e_arR {m : Int} (hj : w[j]? = some ((b, .inl (Γ.2.1 2, (n, .inl f))) : Nat × va_E)) (hn : n ≤ 160) (hm : 0 ≤ m ∧ m ≤ n) (hf : bfit f) (ht : 1 + m.toNat ≤ t) (hq : ∀ q g, (∀ k : Nat, (k : Int) < m → g k = f k) → Q (some (vR q)) (w ++ [((q, .inl (Γ.2.1 2, (m.toNat, .inl g))) : Nat × va_E)])) : J Γ m_arR 0 (entry 3 [vR b, vI 0, vI m]) [] w t Q := by
  have hb : BV Γ w b n f := Or.inl ⟨j, hj⟩
  refine j_iload_n d_arR_0 rfl ?_
  refine j_if_ne_f (tgt := 10) d_arR_1 (by decide) i0 (by decide) ?_
  refine j_iload_n d_arR_4 rfl ?_
  refine j_aload_n d_arR_5 rfl ?_
  refine j_blen d_arR_6 hb ?_
  by_cases e : m = (n : Int)
  · refine j_icmp_eq_t (tgt := 17) d_arR_7 (by decide) ⟨by omega, by omega⟩ ⟨by omega, by omega⟩ e ?_
    refine j_aload_n d_arR_17 rfl ?_
    refine j_clone rfl d_arR_18 hj hf (by omega) (by decide) (Nat.le_of_ble_eq_true rfl) (by omega) (fun q => ?_)
    refine j_castB (j := w.length) rfl d_arR_21 app_get ?_
    have h9 := hq q f (fun k _ => rfl)
    rw [e, Int.toNat_natCast] at h9
    exact j_aret d_arR_24 rfl (Or.inr ⟨_, rfl⟩) h9
  · refine j_icmp_eq_f (tgt := 17) d_arR_7 (by decide) ⟨by omega, by omega⟩ ⟨by omega, by omega⟩ e ?_
    refine j_aload_n d_arR_10 rfl ?_
    refine j_iload_n d_arR_11 rfl ?_
    refine j_iload_n d_arR_12 rfl ?_
    refine j_S m_arB [vR b, vI 0, vI m] t d_arR_13 cw_arR_arB jw_881 jw_880 rfl (Nat.le_of_ble_eq_true rfl) (Nat.le_of_ble_eq_true rfl) (Nat.le_refl _) ?_
    refine e_arB hb (by omega) hm hf ht (fun q => ?_)
    refine j_aret d_arR_16 rfl (Or.inr ⟨_, rfl⟩) (hq q _ (fun k hk => ?_))
    unfold va_cpy
    rw [if_pos (by omega)]
    congr 1
    omega
/-- String.<init>(AbstractStringBuilder, Void) -/
theorem e_stB {r0 i0 : Nat} {L0 : Lo} (h : hB Γ K w i r B) (hr0 : w[i0]? = some ((r0, .inr (10, dSB)) : Nat × va_E)) (hl : B.length ≤ 80) (g0 : L0 = [some (vR r0), some (vR r), none, none, none]) (ht : 82 ≤ t)
    (hq : ∀ (b2 : Nat) (g : Nat → Int32), (∀ k : Nat, k < B.length → g k = Int32.ofInt (B.getD k 0)) → Q none ((w ++ [((b2, .inl (Γ.2.1 2, (B.length, .inl g))) : Nat × va_E)]).set i0 (r0, .inr (10, [.ref b2, .int 0, .int 0, .int 0])))) : J Γ m_stB 0 L0 [] w t Q := by
  subst g0
  obtain ⟨hKi, j, b, n, f, x, hKj, hi, hj, hBn, hn, hf, hfit⟩ := h
  have hi0 := get_lt hr0
  have hne : i ≠ i0 := fun e => by
    rw [e, hr0] at hi
    cases hi
  have hnj : j ≠ i0 := fun e => by
    rw [e, hr0] at hj
    cases hj
  refine j_aload_n d_stB_0 rfl ?_
  refine j_obj d_stB_1 jw_862 (by decide) (Nat.le_of_ble_eq_true rfl) ?_
  refine j_aload_n (a := r) d_stB_4 rfl ?_
  refine j_U m_asV r [] 0 d_stB_5 cw_stB_asV rfl rfl jw_864 jw_867 jw_865 jw_864 (fun s args h => sel_ts jw_866 h) jw_863 rfl (Or.inl ⟨i, _, hi, rfl⟩) (Nat.le_of_ble_eq_true rfl) (Nat.le_of_ble_eq_true rfl) (Nat.zero_le _) ?_
  refine e_asV hi ?_
  refine j_astore_n d_stB_8 (by decide) ?_
  refine j_aload_n (a := r) d_stB_9 rfl ?_
  refine j_U (x := m_asL.1) m_sbL r [] 0 d_stB_10 cw_stB_sbL rfl rfl jw_869 jw_875 jw_870 jw_872 (fun s args h => sel_ts jw_871 h) jw_868 rfl (Or.inl ⟨i, _, hi, rfl⟩) (Nat.le_of_ble_eq_true rfl) (Nat.le_of_ble_eq_true rfl) (Nat.zero_le _) ?_
  refine e_sbL hi ?_
  refine j_istore d_stB_13 (by decide) ?_
  refine j_aload_n (a := r) d_stB_15 rfl ?_
  refine j_U m_as1 r [] 0 d_stB_16 cw_stB_as1 rfl rfl jw_778 jw_781 jw_779 jw_778 (fun s args h => sel_ts jw_780 h) jw_876 rfl (Or.inl ⟨i, _, hi, rfl⟩) (Nat.le_of_ble_eq_true rfl) (Nat.le_of_ble_eq_true rfl) (Nat.zero_le _) ?_
  refine e_as1 hi ?_
  refine j_if_eq_f (tgt := 41) d_stB_19 (by decide) i1 (by decide) ?_
  refine j_aload_n (a := r0) d_stB_22 rfl ?_
  refine j_iconst d_stB_23 ?_
  refine j_put10 (k := 1) (v := vI 0) d_stB_24 (by decide) ⟨rfl, rfl⟩ jw_929 hr0 rfl rfl rfl ?_
  have hj1 := (set_ne (w := w) (y := ((r0, .inr (10, dSB.set 1 (cv id (vI 0)))) : Nat × va_E)) hnj).trans hj
  refine j_aload_n (a := r0) d_stB_27 rfl ?_
  refine j_aload_n (a := b) d_stB_28 rfl ?_
  refine j_iconst d_stB_29 ?_
  refine j_iload (a := (B.length : Int)) d_stB_30 rfl ?_
  refine j_S m_arR [vR b, vI 0, vI B.length] 82 d_stB_32 cw_stB_arR jw_878 jw_877 rfl (Nat.le_of_ble_eq_true rfl) (Nat.le_of_ble_eq_true rfl) ht ?_
  refine e_arR hj1 hn (by omega) hfit (by omega) (fun q g hg => ?_)
  rw [Int.toNat_natCast]
  have h3 : (w.set i0 (r0, .inr (10, dSB.set 1 (cv id (vI 0)))) ++ [((q, .inl (Γ.2.1 2, (B.length, .inl g))) : Nat × va_E)])[i0]? = some ((r0, .inr (10, dSB.set 1 (cv id (vI 0)))) : Nat × va_E) := (app_lt (by rw [List.length_set]; exact hi0)).trans (set_eq hi0)
  refine j_put10 (k := 0) (v := vR q) d_stB_35 (by decide) ⟨rfl, rfl⟩ jw_928 h3 rfl rfl rfl ?_
  refine j_goto (tgt := 97) d_stB_38 (by decide) ?_
  refine j_vret d_stB_97 rfl ?_
  have h9 := hq q g (fun k hk => (hg k (by omega)).trans (hf k hk))
  have e9 : (w.set i0 (r0, .inr (10, dSB.set 1 (cv id (vI 0)))) ++ [((q, .inl (Γ.2.1 2, (B.length, .inl g))) : Nat × va_E)]).set i0 (r0, .inr (10, (dSB.set 1 (cv id (vI 0))).set 0 (cv id (vR q)))) = (w ++ [((q, .inl (Γ.2.1 2, (B.length, .inl g))) : Nat × va_E)]).set i0 (r0, .inr (10, [.ref q, .int 0, .int 0, .int 0])) := by
    rw [List.set_append_left _ _ (by rw [List.length_set]; exact hi0), List.set_append_left _ _ hi0, List.set_set]
    rfl
  rw [e9]
  exact h9
/-- String.<init>(StringBuilder): null goes with it -/
theorem ln_stI : Cond.methodLink "java/lang/String" 489 m_stB.1 ∈ TS := jw_859
set_option maxHeartbeats 4000000 in
theorem e_stI {r0 i0 : Nat} (h : hB Γ K w i r B) (hr0 : w[i0]? = some ((r0, .inr (10, dSB)) : Nat × va_E)) (hl : B.length ≤ 80) (ht : 82 ≤ t)
    (hq : ∀ (b2 : Nat) (g : Nat → Int32), (∀ k : Nat, k < B.length → g k = Int32.ofInt (B.getD k 0)) → Q none ((w ++ [((b2, .inl (Γ.2.1 2, (B.length, .inl g))) : Nat × va_E)]).set i0 (r0, .inr (10, [.ref b2, .int 0, .int 0, .int 0])))) : J Γ m_stI 0 (entry 2 [vR r0, vR r]) [] w t Q := by
  refine j_aload_n d_stI_0 rfl ?_
  refine j_aload_n d_stI_1 rfl ?_
  intro p e R s m args below meth c H locs cells slots ls Qs B9 E hc hs hl9 hP hD hS
  obtain ⟨k1, k2, k3, k4, k5, k6, k7⟩ := cw_stI_stB
  obtain ⟨b1, b2, b3, b4, b5, b6, b7, b8, b9, b10, b11⟩ := id B9
  refine lv_null b1 b2 d_stI_2 ?_
  have hj : J Γ m_stB 0 [some (vR r0), some (vR r), none, none, none] [] w 82 (fun v w1 => v = none ∧ Q none w1) := e_stB h hr0 hl rfl (Nat.le_refl _) (fun b2 g hg => ⟨rfl, hq b2 g hg⟩)
  have k1' : Cond.code m_stB.1 m_stB.2.1 m_stB.2.2.1 none ∈ TS := k1
  have hrun := va_runI (As := [.ref r, .null]) (b := r0) (bytes := m_stB.2.1) (maxL := m_stB.2.2.1) (rest := ([] : List AV).map (cv id)) (g := F0 m 3 ls (.null :: .ref r :: .ref r0 :: [])) (R := R) (below := below) (locs := locs) (cells := cells) (slots := slots) (meth := meth) (p := p) (e := e) ⟨b1, b2, b3, b4, B9.wd (args := args)⟩ (met_J (as := [.ref r0, .ref r, .null]) k5 (fun ls h => ⟨h.1, h.2.1, fun q hq => h.2.2 q (by
      have hq : q ∈ [(0, Value.ref r0), (1, Value.ref r)] := hq
      rcases List.mem_cons.mp hq with e | hq
      · rw [e]; exact List.mem_cons_self
      · rw [List.mem_singleton.mp hq]; exact List.mem_cons_of_mem _ List.mem_cons_self)⟩) (Nat.le_of_ble_eq_true rfl) hj H.size)
    ⟨⟨rfl, rfl, Nat.le_trans k6 b10, Nat.le_trans k7 b11, cdJ_good m_stB k1 b7.1, List.mem_singleton.mpr rfl, B9.wd _ k1', B9.wd _ k2, k3, parJ k4, B9.wd _ ln_stI⟩, rfl, B9.wd _ jw_860⟩ ⟨PcJ.blind, PcJ.pre b7 b8 b9 hP hD hS⟩ rfl rfl (hl9.1.trans rfl) rfl (roomJ (st2 := []) m 3 ls _ (Nat.le_of_ble_eq_true rfl)) d_stI_3 ⟨by omega, by omega⟩
  refine J_back (st := []) hS b9 hrun (fun v w1 H1 locs1 hk hP1 hD1 hS1 => ?_)
  obtain ⟨rfl, hk⟩ := hk
  exact (j_vret d_stI_6 rfl hk : J Γ m_stI 6 (entry 2 [vR r0, vR r]) [] w1 (t - 82) Q) p e R s m args below meth c H1 locs1 (cells + 82) (slots + 6 * 82) ls Qs B9 E (by omega) (by omega) hl9 hP1 hD1 hS1
theorem e_sbT (h : hB Γ K w i r B) (hl : B.length ≤ 80) (hc : ∀ c ∈ B, 0 ≤ c ∧ c < 128) (ht : 83 ≤ t) (hq : ∀ w' rs, hS Γ w' rs B → w.length ≤ w'.length → (∀ k, k < w.length → w'[k]? = w[k]?) → Q (some (vR rs)) w') : J Γ m_sbT 0 (entry 1 [vR r]) [] w t Q := by
  refine j_new10 d_sbT_0 jw_855 jw_526 jw_66 (by omega) (fun q => ?_)
  have h1 : hB Γ K (w ++ [((q, .inr (10, dSB)) : Nat × va_E)]) i r B := by
    obtain ⟨hKi, j, b, n, f, x, hKj, hi, hj, hr⟩ := h
    exact ⟨hKi, j, b, n, f, x, hKj, (app_lt (get_lt hi)).trans hi, (app_lt (get_lt hj)).trans hj, hr⟩
  refine j_dup d_sbT_3 rfl ?_
  refine j_aload_n (a := r) d_sbT_4 rfl ?_
  refine j_I m_stI q [vR r] 82 d_sbT_5 cw_sbT_stI rfl rfl jw_857 jw_856 rfl (Nat.le_of_ble_eq_true rfl) (Nat.le_of_ble_eq_true rfl) (by omega) ?_
  refine e_stI h1 app_get hl (Nat.le_refl _) (fun b2 g hg => ?_)
  have hlen : (w ++ [((q, .inr (10, dSB)) : Nat × va_E)]).length = w.length + 1 := by rw [List.length_append]; rfl
  refine j_aret d_sbT_8 rfl (Or.inl ⟨_, rfl⟩) (hq _ q ⟨b2, B.length, g, Or.inl ⟨w.length, w.length + 1, .int 0, .int 0, set_eq (by rw [List.length_append, hlen]; omega), ?_⟩, rfl, hl, hg, hc⟩ (by rw [List.length_set, List.length_append, hlen]; omega) (fun k hk => ?_))
  · rw [set_ne (by omega), ← hlen]
    exact app_get
  · rw [set_ne (by omega), app_lt (by omega), app_lt hk]
end JT
