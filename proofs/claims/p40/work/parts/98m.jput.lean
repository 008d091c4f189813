/-! the law's put, walked -/
def M1F (x idx n : Nat) : Prop := x < 215 ∧ inLW x = true ∧ mS x = true ∧ (parseMethodDescriptor (mY x).desc).map (fun d => d.parameters.length) = some n ∧ Cond.methodLink (cN 12) idx (mY x) ∈ TS
theorem mf_178 : M1F 178 207 2 := ⟨by decide, by decide +kernel, by decide +kernel, by decide +kernel, ts_mem (i := 395) (by decide +kernel) rfl⟩
theorem mf_179 : M1F 179 210 2 := ⟨by decide, by decide +kernel, by decide +kernel, by decide +kernel, ts_mem (i := 504) (by decide +kernel) rfl⟩
theorem mf_180 : M1F 180 290 1 := ⟨by decide, by decide +kernel, by decide +kernel, by decide +kernel, ts_mem (i := 1481) (by decide +kernel) rfl⟩
theorem mf_184 : M1F 184 237 2 := ⟨by decide, by decide +kernel, by decide +kernel, by decide +kernel, ts_mem (i := 1052) (by decide +kernel) rfl⟩
theorem mf_188 : M1F 188 266 1 := ⟨by decide, by decide +kernel, by decide +kernel, by decide +kernel, ts_mem (i := 1368) (by decide +kernel) rfl⟩
theorem mf_194 : M1F 194 274 1 := ⟨by decide, by decide +kernel, by decide +kernel, by decide +kernel, ts_mem (i := 1420) (by decide +kernel) rfl⟩
theorem mf_197 : M1F 197 314 1 := ⟨by decide, by decide +kernel, by decide +kernel, by decide +kernel, ts_mem (i := 1581) (by decide +kernel) rfl⟩
theorem mf_201 : M1F 201 234 1 := ⟨by decide, by decide +kernel, by decide +kernel, by decide +kernel, ts_mem (i := 948) (by decide +kernel) rfl⟩
theorem mf_207 : M1F 207 316 1 := ⟨by decide, by decide +kernel, by decide +kernel, by decide +kernel, ts_mem (i := 1597) (by decide +kernel) rfl⟩
theorem mf_209 : M1F 209 221 2 := ⟨by decide, by decide +kernel, by decide +kernel, by decide +kernel, ts_mem (i := 695) (by decide +kernel) rfl⟩
theorem mf_212 : M1F 212 339 1 := ⟨by decide, by decide +kernel, by decide +kernel, by decide +kernel, ts_mem (i := 1526) (by decide +kernel) rfl⟩
def no53 (v : AV) : Bool := match v with
  | .inr (.inr (.inr (.inr c))) => !(c == 53)
  | _ => true
theorem no53_ok {l : List AV} (h : l.all no53 = true) : ∀ v ∈ l, v ≠ vR 53 := fun v hv e => by
  have := List.all_eq_true.mp h v hv
  rw [e] at this
  exact absurd this (by decide)
theorem SSV.pre {Γ : JG} {w u : va_W} {r b n : Nat} {f : Nat → Int32} (h : SSV Γ u r b n f) : SSV Γ (w ++ u) r b n f := by
  rcases h with ⟨i, j, x, y, h1, h2⟩ | h
  · exact Or.inl ⟨w.length + i, w.length + j, x, y, by rw [List.getElem?_append_right (by omega), Nat.add_sub_cancel_left]; exact h1, by rw [List.getElem?_append_right (by omega), Nat.add_sub_cancel_left]; exact h2⟩
  · exact Or.inr h
theorem hS_pre {Γ : JG} {w u : va_W} {r : Nat} {S : List Int} (h : hS Γ u r S) : hS Γ (w ++ u) r S := by
  obtain ⟨bs, ns, fs, h1, h2⟩ := h
  exact ⟨bs, ns, fs, h1.pre, h2⟩
section JP
variable {Γ : JG} {μ : MD} {pc : Nat} {L : Lo} {st : List AV} {t : Nat} {Q : JQ} {α : Nat → Nat} {σ : St} {u : va_W} {P : Pg} {lim : Int}
theorem j_M {x idx n : Nat} (F : M1F x idx n) (as1 : List AV) (hlt : Γ.1.stackTraces = false) (d : decode μ.2.1 pc = .ok (.invokestatic idx, 3)) (hμ : μ.1.cls = cN 12) (hn : as1.length = n) (hsz : wt as1 ≤ mL x) (hwt : wt st ≤ 8) (hfr : mFr x + 1 ≤ μ.2.2.2.2.1) (hlo : 8 + (mL x + 11) + mLo x ≤ μ.2.2.2.2.2) (h53 : gI σ 53 (-1) = 0) (h0 : as1.all no53 = true) (ht : mBu x ≤ t)
    (hc : Call (mBu x) x as1 σ (fun r σ' => ∃ v, r = .inl v ∧ (gI σ' 53 (-1) = 0 ∧ (noR v ∧ J Γ μ (pc + 3) L (optL v ++ st) (wd Γ.2.1 α σ' ++ u) (t - mBu x) Q)))) : J Γ μ pc L ((as1.map (rv α)).reverse ++ st) (wd Γ.2.1 α σ ++ u) t Q :=
  j_M1 x as1 hlt d hμ F.1 F.2.1 F.2.2.1 F.2.2.2.1 F.2.2.2.2 hn hsz hwt hfr hlo h53 (no53_ok h0) ht hc
theorem noR_L (z : BitVec 64) : noR (some (vL z)) := fun c e => by cases e
theorem noR_I (z : Int) : noR (some (vI z)) := fun c e => by cases e
def txM : Nat → Int → Prop := fun c j => c = 2 ∨ (c = 1 ∧ j = 1)
def ptM : Nat → Int → Prop := fun c j => txM c j ∨ sbM2 c j
theorem ptM_53 : ¬ ptM 53 (-1) := by unfold ptM txM sbM2 sbM rM fgM; omega
theorem lvp {f i : Int} {rs : Nat} {i2 : Int} : lset [some (vR (α 0)), some (vI f), some (vR rs), some (vI i)] 3 (vI i2) = [some (vR (α 0)), some (vI f), some (vR rs), some (vI i2)] := rfl
/-- its loop -/
theorem pt_loop (hlt : Γ.1.stackTraces = false) {f : Int} {rs : Nat} {S : List Int} (hs : hS Γ u rs S) (hS33 : ∀ c ∈ S, 33 ≤ c ∧ c ≤ 126) {σ0 : St} (h0 : gI σ0 53 (-1) = 0) (R : Nat)
    (kk : ∀ (t : Nat) (σ' : St), R ≤ t → CI P lim σ' → TXb σ' S → fr txM σ0 σ' → J Γ m_lwP 26 [some (vR (α 0)), some (vI f), some (vR rs), some (vI S.length)] [] (wd Γ.2.1 α σ' ++ u) t Q) :
    ∀ (d i : Nat) (t : Nat) (σ1 : St), i + d = S.length → R + 2 * d ≤ t → CI P lim σ1 → TXb σ1 (S.take i) → fr txM σ0 σ1 → J Γ m_lwP 2 [some (vR (α 0)), some (vI f), some (vR rs), some (vI i)] [] (wd Γ.2.1 α σ1 ++ u) t Q
  | 0, i, t, σ1, hi, ht, hc, hx, hf => by
    have e : i = S.length := by omega
    subst e
    have h80 : S.length ≤ 80 := by obtain ⟨a, b, c, g1, g2, g3, g4⟩ := hs; exact g3
    rw [List.take_length] at hx
    refine j_iload_n (a := (S.length : Int)) d_lwP_2 rfl ?_
    refine j_aload_n (a := rs) d_lwP_3 rfl ?_
    refine j_V m_stL rs [] 0 d_lwP_4 cw_lwP_stL jw_348 jw_349 jw_347 rfl (hS_pre hs).rv (Nat.le_of_ble_eq_true rfl) (Nat.le_of_ble_eq_true rfl) (Nat.zero_le _) ?_
    refine e_stL' (hS_pre hs) ?_
    refine j_icmp_ge_t (tgt := 26) d_lwP_7 (by decide) ⟨by omega, by omega⟩ ⟨by omega, by omega⟩ (Int.le_refl _) ?_
    exact kk _ σ1 (by omega) hc hx hf
  | d + 1, i, t, σ1, hi, ht, hc, hx, hf => by
    have h80 : S.length ≤ 80 := by obtain ⟨a, b, c, g1, g2, g3, g4⟩ := hs; exact g3
    have hil : i < S.length := by omega
    have hch : 33 ≤ S.getD i 0 ∧ S.getD i 0 ≤ 126 := hS33 _ (by
      rw [List.getD_eq_getElem?_getD, List.getElem?_eq_getElem hil]
      exact List.getElem_mem _)
    refine j_iload_n (a := (i : Int)) d_lwP_2 rfl ?_
    refine j_aload_n (a := rs) d_lwP_3 rfl ?_
    refine j_V m_stL rs [] 0 d_lwP_4 cw_lwP_stL jw_348 jw_349 jw_347 rfl (hS_pre hs).rv (Nat.le_of_ble_eq_true rfl) (Nat.le_of_ble_eq_true rfl) (Nat.zero_le _) ?_
    refine e_stL' (hS_pre hs) ?_
    refine j_icmp_ge_f (tgt := 26) d_lwP_7 (by decide) ⟨by omega, by omega⟩ ⟨by omega, by omega⟩ (by omega) ?_
    refine j_aload_n (a := α 0) d_lwP_10 rfl ?_
    refine j_aload_n (a := rs) d_lwP_11 rfl ?_
    refine j_iload_n (a := (i : Int)) d_lwP_12 rfl ?_
    refine j_V m_stA rs [vI i] 0 d_lwP_13 cw_lwP_stA jw_358 jw_359 jw_357 rfl (hS_pre hs).rv (Nat.le_of_ble_eq_true rfl) (Nat.le_of_ble_eq_true rfl) (Nat.zero_le _) ?_
    refine e_stA (hS_pre hs) ⟨by omega, by omega⟩ ?_
    rw [Int.toNat_natCast]
    refine j_M mf_178 [vR 0, vI (S.getD i 0)] hlt d_lwP_16 rfl rfl (Nat.le_of_ble_eq_true rfl) (Nat.le_of_ble_eq_true rfl) (Nat.le_of_ble_eq_true rfl) (Nat.le_of_ble_eq_true rfl) ((fr_I hf 53 (-1) (by unfold txM; omega)).trans h0) rfl (by show 2 ≤ t - 0 - 0; omega) ?_
    have hlt2 : (S.take i).length = i := by rw [List.length_take]; omega
    refine k178 hc hx (by omega) hch (fun σ' a b g => ⟨_, rfl, ?_, noR_L _, ?_⟩)
    · exact (fr_I g 53 (-1) (by omega)).trans ((fr_I hf 53 (-1) (by unfold txM; omega)).trans h0)
    · refine j_pop2 d_lwP_19 rfl ?_
      refine j_iinc (a := (i : Int)) d_lwP_20 rfl (by decide) ?_
      refine j_goto (tgt := 2) d_lwP_23 (by decide) ?_
      rw [lvp, show (i : Int) + 1 = ((i + 1 : Nat) : Int) by omega]
      have hb : TXb σ' (S.take (i + 1)) := by
        rw [List.take_succ_eq_append_getElem hil]
        have : S.getD i 0 = S[i] := by rw [List.getD_eq_getElem?_getD, List.getElem?_eq_getElem hil]; rfl
        rw [← this]; exact b
      exact pt_loop hlt hs hS33 h0 R kk d (i + 1) _ σ' (by omega) (by show R + 2 * d ≤ t - 0 - 0 - 2; omega) a hb (fr_trans hf g)
/-- put -/
theorem e_lwP (hlt : Γ.1.stackTraces = false) {f : Int} {rs : Nat} {S : List Int} {Ls : List St4} (hs : hS Γ u rs S) (e : S = bx Ls) (ho : ∀ s ∈ Ls, okr s) (hf : 0 ≤ f ∧ f ≤ 3) (hL : Ls.length ≤ 12) (hP : okP P) (h8 : cq 4 Ls + mny P 4 f ≤ 8) (h5 : cq 6 Ls + mny P 6 f ≤ 5) (h : CI P lim σ) (hx : TXb σ []) (h53 : gI σ 53 (-1) = 0) (ht : 170 ≤ t)
    (hq : ∀ σ', CI (spP P f (Ls.map (stm (4 + 4 * f)))) lim σ' → TXb σ' [] → sbO σ' → fr ptM σ σ' → Q (some (vL (BitVec.ofInt 64 Ls.length))) (wd Γ.2.1 α σ' ++ u)) : J Γ m_lwP 0 (entry 4 [vR (α 0), vI f, vR rs]) [] (wd Γ.2.1 α σ ++ u) t Q := by
  have h80 : S.length ≤ 80 := by obtain ⟨a, b, c, g1, g2, g3, g4⟩ := hs; exact g3
  refine j_iconst d_lwP_0 ?_
  refine j_istore_n d_lwP_1 (by decide) ?_
  refine pt_loop (P := P) (lim := lim) (f := f) hlt hs (by rw [e]; exact bx_chr Ls ho) h53 3 (fun t2 σ2 ht2 c2 x2 f2 => ?_) S.length 0 t σ (by omega) (by omega) h hx fr_refl
  refine j_aload_n (a := α 0) d_lwP_26 rfl ?_
  refine j_iload_n (a := f) d_lwP_27 rfl ?_
  refine j_M mf_179 [vR 0, vI f] hlt d_lwP_28 rfl rfl (Nat.le_of_ble_eq_true rfl) (Nat.le_of_ble_eq_true rfl) (Nat.le_of_ble_eq_true rfl) (Nat.le_of_ble_eq_true rfl) ((fr_I f2 53 (-1) (by unfold txM; omega)).trans h53) rfl ht2 ?_
  refine k179 hP c2 (by rw [← e]; exact x2) ho hf hL h8 h5 (fun σ' a b c g => ⟨_, rfl, ?_, noR_L _, ?_⟩)
  · exact (fr_I g 53 (-1) (by unfold sbM2 sbM rM fgM; omega)).trans ((fr_I f2 53 (-1) (by unfold txM; omega)).trans h53)
  · exact j_lret d_lwP_31 rfl (hq σ' a b c (fr_trans (fr_mono f2 (fun c j k => Or.inl k)) (fr_mono g (fun c j k => Or.inr k))))
end JP
