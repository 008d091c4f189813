/-! the law's cell, and the law from its loop on (words printed by gen_jy.py) -/
theorem jv_335 : (Jvm.Cond.methodLink "PointerAnalyzerLaw" (325 : Nat) ({ cls := "PointerAnalyzerLaw", name := "cell", desc := "([II)I" } : Jvm.MethodName)) ∈ TS := ts_mem (i := 335) (by decide +kernel) rfl
theorem jv_336 : (Jvm.Cond.static ({ cls := "PointerAnalyzerLaw", name := "cell", desc := "([II)I" } : Jvm.MethodName)) ∈ TS := ts_mem (i := 336) (by decide +kernel) rfl
theorem jv_337 : (Jvm.Cond.code ({ cls := "PointerAnalyzerLaw", name := "cell", desc := "([II)I" } : Jvm.MethodName) method_40_code (2 : Nat) (Option.some Jvm.ClassFile.FieldType.int)) ∈ TS := ts_mem (i := 337) (by decide +kernel) rfl
theorem jv_56 : (Jvm.Cond.initialized "PointerAnalyzerLaw") ∈ TS := ts_mem (i := 56) (by decide +kernel) rfl
theorem jv_338 : (Jvm.Cond.methodLink "PointerAnalyzerLaw" (329 : Nat) ({ cls := "PointerAnalyzerLaw", name := "program", desc := "(LPointerAnalyzer;I)[[[I" } : Jvm.MethodName)) ∈ TS := ts_mem (i := 338) (by decide +kernel) rfl
theorem jv_339 : (Jvm.Cond.static ({ cls := "PointerAnalyzerLaw", name := "program", desc := "(LPointerAnalyzer;I)[[[I" } : Jvm.MethodName)) ∈ TS := ts_mem (i := 339) (by decide +kernel) rfl
theorem jv_340 : (Jvm.Cond.code ({ cls := "PointerAnalyzerLaw", name := "program", desc := "(LPointerAnalyzer;I)[[[I" } : Jvm.MethodName) method_43_code (10 : Nat) (Option.some (Jvm.ClassFile.FieldType.array (Jvm.ClassFile.FieldType.array (Jvm.ClassFile.FieldType.array Jvm.ClassFile.FieldType.int))))) ∈ TS := ts_mem (i := 340) (by decide +kernel) rfl
theorem jv_944 : (Jvm.Cond.methodLink "PointerAnalyzerLaw" (333 : Nat) ({ cls := "PointerAnalyzerLaw", name := "bounds", desc := "(LPointerAnalyzer;)Z" } : Jvm.MethodName)) ∈ TS := ts_mem (i := 944) (by decide +kernel) rfl
theorem jv_945 : (Jvm.Cond.static ({ cls := "PointerAnalyzerLaw", name := "bounds", desc := "(LPointerAnalyzer;)Z" } : Jvm.MethodName)) ∈ TS := ts_mem (i := 945) (by decide +kernel) rfl
theorem jv_946 : (Jvm.Cond.code ({ cls := "PointerAnalyzerLaw", name := "bounds", desc := "(LPointerAnalyzer;)Z" } : Jvm.MethodName) method_45_code (9 : Nat) (Option.some Jvm.ClassFile.FieldType.boolean)) ∈ TS := ts_mem (i := 946) (by decide +kernel) rfl
theorem jv_1417 : (Jvm.Cond.methodLink "PointerAnalyzerLaw" (336 : Nat) ({ cls := "PointerAnalyzerLaw", name := "ranks", desc := "(LPointerAnalyzer;)Z" } : Jvm.MethodName)) ∈ TS := ts_mem (i := 1417) (by decide +kernel) rfl
theorem jv_1418 : (Jvm.Cond.static ({ cls := "PointerAnalyzerLaw", name := "ranks", desc := "(LPointerAnalyzer;)Z" } : Jvm.MethodName)) ∈ TS := ts_mem (i := 1418) (by decide +kernel) rfl
theorem jv_1419 : (Jvm.Cond.code ({ cls := "PointerAnalyzerLaw", name := "ranks", desc := "(LPointerAnalyzer;)Z" } : Jvm.MethodName) method_46_code (14 : Nat) (Option.some Jvm.ClassFile.FieldType.boolean)) ∈ TS := ts_mem (i := 1419) (by decide +kernel) rfl
theorem jv_1526 : (Jvm.Cond.methodLink "PointerAnalyzerLaw" (339 : Nat) ({ cls := "PointerAnalyzerLaw", name := "functions", desc := "(LPointerAnalyzer;)Z" } : Jvm.MethodName)) ∈ TS := ts_mem (i := 1526) (by decide +kernel) rfl
theorem jv_1527 : (Jvm.Cond.static ({ cls := "PointerAnalyzerLaw", name := "functions", desc := "(LPointerAnalyzer;)Z" } : Jvm.MethodName)) ∈ TS := ts_mem (i := 1527) (by decide +kernel) rfl
theorem jv_1528 : (Jvm.Cond.code ({ cls := "PointerAnalyzerLaw", name := "functions", desc := "(LPointerAnalyzer;)Z" } : Jvm.MethodName) method_47_code (5 : Nat) (Option.some Jvm.ClassFile.FieldType.boolean)) ∈ TS := ts_mem (i := 1528) (by decide +kernel) rfl
theorem jv_1578 : (Jvm.Cond.methodLink "PointerAnalyzerLaw" (342 : Nat) ({ cls := "PointerAnalyzerLaw", name := "saved", desc := "(LPointerAnalyzer;I)Z" } : Jvm.MethodName)) ∈ TS := ts_mem (i := 1578) (by decide +kernel) rfl
theorem jv_1579 : (Jvm.Cond.static ({ cls := "PointerAnalyzerLaw", name := "saved", desc := "(LPointerAnalyzer;I)Z" } : Jvm.MethodName)) ∈ TS := ts_mem (i := 1579) (by decide +kernel) rfl
theorem jv_1580 : (Jvm.Cond.code ({ cls := "PointerAnalyzerLaw", name := "saved", desc := "(LPointerAnalyzer;I)Z" } : Jvm.MethodName) method_49_code (11 : Nat) (Option.some Jvm.ClassFile.FieldType.boolean)) ∈ TS := ts_mem (i := 1580) (by decide +kernel) rfl
theorem d_lwL_0 : decode code 0 = .ok (.new 8, 3) := by decide +kernel
theorem d_lwL_3 : decode code 3 = .ok (.dup, 1) := by decide +kernel
theorem d_lwL_4 : decode code 4 = .ok (.invokespecial 324, 3) := by decide +kernel
theorem d_lwL_7 : decode code 7 = .ok (.astore_n 1, 1) := by decide +kernel
theorem d_lwL_8 : decode code 8 = .ok (.iconst 0, 1) := by decide +kernel
theorem d_lwL_9 : decode code 9 = .ok (.istore_n 2, 1) := by decide +kernel
theorem d_lwL_10 : decode code 10 = .ok (.iload_n 2, 1) := by decide +kernel
theorem d_lwL_11 : decode code 11 = .ok (.bipush 6, 2) := by decide +kernel
theorem d_lwL_13 : decode code 13 = .ok (.if_icmp .ge 63, 3) := by decide +kernel
theorem d_lwL_16 : decode code 16 = .ok (.aload_n 1, 1) := by decide +kernel
theorem d_lwL_17 : decode code 17 = .ok (.aload_n 0, 1) := by decide +kernel
theorem d_lwL_18 : decode code 18 = .ok (.iconst 2, 1) := by decide +kernel
theorem d_lwL_19 : decode code 19 = .ok (.iload_n 2, 1) := by decide +kernel
theorem d_lwL_20 : decode code 20 = .ok (.imul, 1) := by decide +kernel
theorem d_lwL_21 : decode code 21 = .ok (.invokestatic 325, 3) := by decide +kernel
theorem d_lwL_24 : decode code 24 = .ok (.bipush 17, 2) := by decide +kernel
theorem d_lwL_26 : decode code 26 = .ok (.iload_n 2, 1) := by decide +kernel
theorem d_lwL_27 : decode code 27 = .ok (.imul, 1) := by decide +kernel
theorem d_lwL_28 : decode code 28 = .ok (.iadd, 1) := by decide +kernel
theorem d_lwL_29 : decode code 29 = .ok (.invokestatic 329, 3) := by decide +kernel
theorem d_lwL_32 : decode code 32 = .ok (.ifnull 36, 3) := by decide +kernel
theorem d_lwL_35 : decode code 35 = .ok (.aload_n 1, 1) := by decide +kernel
theorem d_lwL_36 : decode code 36 = .ok (.invokestatic 333, 3) := by decide +kernel
theorem d_lwL_39 : decode code 39 = .ok (.ifCond .eq 29, 3) := by decide +kernel
theorem d_lwL_42 : decode code 42 = .ok (.aload_n 1, 1) := by decide +kernel
theorem d_lwL_43 : decode code 43 = .ok (.invokestatic 336, 3) := by decide +kernel
theorem d_lwL_46 : decode code 46 = .ok (.ifCond .eq 22, 3) := by decide +kernel
theorem d_lwL_49 : decode code 49 = .ok (.aload_n 1, 1) := by decide +kernel
theorem d_lwL_50 : decode code 50 = .ok (.invokestatic 339, 3) := by decide +kernel
theorem d_lwL_53 : decode code 53 = .ok (.ifCond .eq 15, 3) := by decide +kernel
theorem d_lwL_56 : decode code 56 = .ok (.aload_n 1, 1) := by decide +kernel
theorem d_lwL_57 : decode code 57 = .ok (.aload_n 0, 1) := by decide +kernel
theorem d_lwL_58 : decode code 58 = .ok (.iload_n 2, 1) := by decide +kernel
theorem d_lwL_59 : decode code 59 = .ok (.invokestatic 325, 3) := by decide +kernel
theorem d_lwL_62 : decode code 62 = .ok (.invokestatic 342, 3) := by decide +kernel
theorem d_lwL_65 : decode code 65 = .ok (.ifCond .ne 5, 3) := by decide +kernel
theorem d_lwL_70 : decode code 70 = .ok (.iinc 2 1, 3) := by decide +kernel
theorem d_lwL_73 : decode code 73 = .ok (.goto (-63), 3) := by decide +kernel
theorem d_lwL_76 : decode code 76 = .ok (.iconst 1, 1) := by decide +kernel
theorem d_lwL_77 : decode code 77 = .ok (.ireturn, 1) := by decide +kernel
def m_lwL : MD := (x, (code, (3, (ret, (20, 400)))))
def m_lwF : MD := ((⟨"PointerAnalyzerLaw", "functions", "(LPointerAnalyzer;)Z"⟩ : MethodName), (method_47_code, (5, (some .boolean, (11, 217)))))
theorem cw_lwL_lwC : CWJ m_lwL m_lwC 2 := ⟨jv_337, jv_56, by decide, by decide +kernel, by decide +kernel, by decide, by decide⟩
theorem cw_lwL_lwG : CWJ m_lwL m_lwG 2 := ⟨jv_340, jv_56, by decide, by decide +kernel, by decide +kernel, by decide, by decide⟩
theorem cw_lwL_lwB : CWJ m_lwL m_lwB 1 := ⟨jv_946, jv_56, by decide, by decide +kernel, by decide +kernel, by decide, by decide⟩
theorem cw_lwL_lwR : CWJ m_lwL m_lwR 1 := ⟨jv_1419, jv_56, by decide, by decide +kernel, by decide +kernel, by decide, by decide⟩
theorem cw_lwL_lwF : CWJ m_lwL m_lwF 1 := ⟨jv_1528, jv_56, by decide, by decide +kernel, by decide +kernel, by decide, by decide⟩
theorem cw_lwL_lwS : CWJ m_lwL m_lwS 2 := ⟨jv_1580, jv_56, by decide, by decide +kernel, by decide +kernel, by decide, by decide⟩
section JLC
variable {Γ : JG} {μ : MD} {pc : Nat} {L : Lo} {st : List AV} {w : va_W} {t : Nat} {Q : JQ}
theorem HJ.sc {s : State} (h : HJ Γ s) : va_T .int (scB Γ) (scN Γ) (fun j => .int (scX Γ j)) (AJ Γ.2.2.2.2) s s.heap := h.2.2.2.2.2.2.2
theorem j_slen (d : decode μ.2.1 pc = .ok (.arraylength, 1)) (kk : J Γ μ (pc + 1) L (vI (scN Γ) :: st) w t Q) : J Γ μ pc L (vR (scB Γ) :: st) w t Q := by
  intro p e R s m args below meth c H locs cells slots ls Qs B E hc hs hl hP hD hS
  exact va_tlen (v := Int32.ofInt (scN Γ : Int)) B.1 B.2.1 B.hj.sc hS (oN _) d (kk p e R s m args below meth c H locs cells slots ls Qs B E hc hs hl hP hD hS)
theorem j_sald {z : Int} (d : decode μ.2.1 pc = .ok (.iaload, 1)) (h0 : 0 ≤ z ∧ z < scN Γ) (hn : scN Γ < 2147483648) (kk : J Γ μ (pc + 1) L (vI (scX Γ z.toNat).toInt :: st) w t Q) : J Γ μ pc L (vI z :: vR (scB Γ) :: st) w t Q := by
  intro p e R s m args below meth c H locs cells slots ls Qs B E hc hs hl hP hD hS
  have k1 := kk p e R s m args below meth c H locs cells slots ls Qs B E hc hs hl hP hD hS
  simp only [List.map_cons, cv_vI] at k1 ⊢
  rw [Int32.ofInt_toInt] at k1
  refine va_ti (v := .int (scX Γ z.toNat)) B.1 B.2.1 B.hj.sc hS (n_in h0.1 h0.2 hn) ?_ d k1
  rw [n_nat h0.1 (by omega)]
/-- cell -/
theorem e_lwC {k : Int} (hk : 0 ≤ k ∧ k ≤ 100) (hn : scN Γ ≤ 260) (hq : ∀ z, inR z → Q (some (vI z)) w) : J Γ m_lwC 0 (entry 2 [vR (scB Γ), vI k]) [] w t Q := by
  have hkR : inR k := ⟨by omega, by omega⟩
  have hnR : inR ((scN Γ : Nat) : Int) := ⟨by omega, by omega⟩
  refine j_iload_n (a := k) d_lwC_0 rfl ?_
  refine j_aload_n (a := scB Γ) d_lwC_1 rfl ?_
  refine j_slen d_lwC_2 ?_
  by_cases h : k < (scN Γ : Int)
  · refine j_icmp_ge_f (tgt := 12) d_lwC_3 (by decide) hkR hnR (by omega) ?_
    refine j_aload_n (a := scB Γ) d_lwC_6 rfl ?_
    refine j_iload_n (a := k) d_lwC_7 rfl ?_
    refine j_sald d_lwC_8 ⟨hk.1, h⟩ (by omega) ?_
    refine j_goto (tgt := 19) d_lwC_9 (by decide) ?_
    exact j_iret d_lwC_19 rfl rfl (hq _ ⟨Int32.le_toInt _, Int32.toInt_lt _⟩)
  · refine j_icmp_ge_t (tgt := 12) d_lwC_3 (by decide) hkR hnR (by omega) ?_
    refine j_sipush d_lwC_12 rfl ?_
    refine j_iload_n (a := k) d_lwC_15 rfl ?_
    refine j_imul d_lwC_16 ?_
    refine j_iconst d_lwC_17 ?_
    refine j_iadd d_lwC_18 ?_
    refine j_iret d_lwC_19 rfl rfl (hq _ ?_)
    have h1 : 7919 * k ≤ 7919 * 100 := Int.mul_le_mul_of_nonneg_left hk.2 (by decide)
    have h2 : 0 ≤ 7919 * k := Int.mul_nonneg (by decide) hk.1
    exact ⟨by omega, by omega⟩
end JLC
section JLF
variable {Γ : JG} {Q : JQ} {α : Nat → Nat} {σ : St} {P : Pg} {t : Nat}
theorem mf2_212 : MF m_lwF 212 := ⟨rfl, rfl, by decide +kernel, rfl, by decide, by decide +kernel, Nat.le_of_ble_eq_true rfl, Nat.le_of_ble_eq_true rfl⟩
theorem e_lwF (hlt : Γ.1.stackTraces = false) (hP : okP P) (hO : okO P) (h : RS0 P 0 σ) (ht : 4000 ≤ t)
    (hq : ∀ σ', RS0 P 0 σ' → Q (some (vI 1)) (wd Γ.2.1 α σ')) : J Γ m_lwF 0 (entry 5 [vR (α 0)]) [] (wd Γ.2.1 α σ) t Q := by
  obtain ⟨hc, hx, h53⟩ := h
  obtain ⟨xs, hX⟩ := isC_ex hP 0
  refine j_tailS (x := 212) (L1 := entry (mL 212) [vR 0]) mf2_212 hlt (fun q => rfl) h53 ?_
  refine k212 hP hO hX ht hc (fun σ' c f => ⟨1, rfl, ?_, hq σ' ⟨c, ?_, ?_⟩⟩)
  · exact (fr_I f 53 (-1) (by unfold clq; omega)).trans h53
  · exact TXb_fr hx f (by unfold clq; omega) (fun j => by unfold clq; omega)
  · exact (fr_I f 53 (-1) (by unfold clq; omega)).trans h53
end JLF
section JLL
variable {Γ : JG} {Q : JQ} {α : Nat → Nat}
/-- the law's loop -/
theorem lw_loop (hlt : Γ.1.stackTraces = false) (hn : scN Γ ≤ 260) (hq : ∀ w, Q (some (vI 1)) w) : ∀ (d : Nat) (r : Int) (t : Nat) (P : Pg) (lim : Int) (σ : St), r + d = 6 → 0 ≤ r → 95000 * d ≤ t → okP P → (0 ≤ lim ∧ lim ≤ 2) → RS0 P lim σ → J Γ m_lwL 10 [some (vR (scB Γ)), some (vR (α 0)), some (vI r)] [] (wd Γ.2.1 α σ) t Q
  | 0, r, t, P, lim, σ, hr, r0, ht, hP, hl, h => by
    have e : r = 6 := by omega
    subst e
    refine j_iload_n (a := 6) d_lwL_10 rfl ?_
    refine j_bipush d_lwL_11 rfl ?_
    refine j_icmp_ge_t (tgt := 76) d_lwL_13 (by decide) (by decide) (by decide) (by decide) ?_
    refine j_iconst d_lwL_76 ?_
    exact j_iret (ty := .boolean) d_lwL_77 rfl (int_bool (Or.inr rfl)).1 (hq _)
  | d + 1, r, t, P, lim, σ, hr, r0, ht, hP, hl, h => by
    have r5 : r ≤ 5 := by omega
    have ht2 : 95000 * d + 95000 ≤ t := by rw [Nat.mul_succ] at ht; exact ht
    clear ht
    obtain ⟨D, hD⟩ : ∃ D, D = 95000 * d := ⟨_, rfl⟩
    rw [← hD] at ht2
    refine j_iload_n (a := r) d_lwL_10 rfl ?_
    refine j_bipush d_lwL_11 rfl ?_
    refine j_icmp_ge_f (tgt := 76) d_lwL_13 (by decide) ⟨by omega, by omega⟩ (by decide) (by omega) ?_
    refine j_aload_n (a := α 0) d_lwL_16 rfl ?_
    refine j_aload_n (a := scB Γ) d_lwL_17 rfl ?_
    refine j_iconst d_lwL_18 ?_
    refine j_iload_n (a := r) d_lwL_19 rfl ?_
    refine j_imul d_lwL_20 ?_
    refine j_S (st := [vR (α 0)]) m_lwC [vR (scB Γ), vI (2 * r)] 0 d_lwL_21 cw_lwL_lwC jv_336 jv_335 rfl (Nat.le_of_ble_eq_true rfl) (Nat.le_of_ble_eq_true rfl) (Nat.zero_le _) ?_
    refine e_lwC ⟨by omega, by omega⟩ hn (fun z hz => ?_)
    refine j_bipush d_lwL_24 rfl ?_
    refine j_iload_n (a := r) d_lwL_26 rfl ?_
    refine j_imul d_lwL_27 ?_
    refine j_iadd d_lwL_28 ?_
    refine j_S (st := []) m_lwG [vR (α 0), vI (z + 17 * r)] 66800 d_lwL_29 cw_lwL_lwG jv_339 jv_338 rfl (Nat.le_of_ble_eq_true rfl) (Nat.le_of_ble_eq_true rfl) (by show 66800 ≤ t - 0; omega) ?_
    refine e_lwG hlt hP h (Nat.le_refl _) (fun σ1 P1 u q hP1 hO1 h1 => ?_)
    refine J_drop ?_
    refine j_ifnull d_lwL_32 ?_
    refine j_aload_n (a := α 0) d_lwL_35 rfl ?_
    refine j_S (st := []) m_lwB [vR (α 0)] 14021 d_lwL_36 cw_lwL_lwB jv_945 jv_944 rfl (Nat.le_of_ble_eq_true rfl) (Nat.le_of_ble_eq_true rfl) (by show 14021 ≤ t - 0 - 66800; omega) ?_
    refine e_lwB hlt hP1 hO1 hl h1 (Nat.le_refl _) (fun σ2 h2 => ?_)
    refine j_if_eq_f (tgt := 68) d_lwL_39 (by decide) (by decide) (by decide) ?_
    refine j_aload_n (a := α 0) d_lwL_42 rfl ?_
    refine j_S (st := []) m_lwR [vR (α 0)] 9062 d_lwL_43 cw_lwL_lwR jv_1418 jv_1417 rfl (Nat.le_of_ble_eq_true rfl) (Nat.le_of_ble_eq_true rfl) (by show 9062 ≤ t - 0 - 66800 - 14021; omega) ?_
    refine e_lwR hlt hP1 (by decide) h2 (Nat.le_refl _) (fun σ3 h3 => ?_)
    refine j_if_eq_f (tgt := 68) d_lwL_46 (by decide) (by decide) (by decide) ?_
    refine j_aload_n (a := α 0) d_lwL_49 rfl ?_
    refine j_S (st := []) m_lwF [vR (α 0)] 4000 d_lwL_50 cw_lwL_lwF jv_1527 jv_1526 rfl (Nat.le_of_ble_eq_true rfl) (Nat.le_of_ble_eq_true rfl) (by show 4000 ≤ t - 0 - 66800 - 14021 - 9062; omega) ?_
    refine e_lwF hlt hP1 hO1 h3 (Nat.le_refl _) (fun σ4 h4 => ?_)
    refine j_if_eq_f (tgt := 68) d_lwL_53 (by decide) (by decide) (by decide) ?_
    refine j_aload_n (a := α 0) d_lwL_56 rfl ?_
    refine j_aload_n (a := scB Γ) d_lwL_57 rfl ?_
    refine j_iload_n (a := r) d_lwL_58 rfl ?_
    refine j_S (st := [vR (α 0)]) m_lwC [vR (scB Γ), vI r] 0 d_lwL_59 cw_lwL_lwC jv_336 jv_335 rfl (Nat.le_of_ble_eq_true rfl) (Nat.le_of_ble_eq_true rfl) (Nat.zero_le _) ?_
    refine e_lwC ⟨r0, by omega⟩ hn (fun z2 hz2 => ?_)
    refine j_S (st := []) m_lwS [vR (α 0), vI z2] 800 d_lwL_62 cw_lwL_lwS jv_1579 jv_1578 rfl (Nat.le_of_ble_eq_true rfl) (Nat.le_of_ble_eq_true rfl) (by show 800 ≤ t - 0 - 66800 - 14021 - 9062 - 4000 - 0; omega) ?_
    refine e_lwS hlt hz2 hP1 (by decide) h4 (Nat.le_refl _) (fun σ5 h5 => ?_)
    refine j_if_ne_t (tgt := 70) d_lwL_65 (by decide) (by decide) (by decide) ?_
    refine j_iinc (a := r) d_lwL_70 rfl (by decide) ?_
    refine j_goto (tgt := 10) d_lwL_73 (by decide) ?_
    exact lw_loop hlt hn hq d (r + 1) _ P1 1 σ5 (by omega) (by omega) (by rw [← hD]; show D ≤ t - 0 - 66800 - 14021 - 9062 - 4000 - 0 - 800; omega) hP1 (by decide) h5
end JLL
