/-! the law's program, walked: its first loop, its loop of bodies, the whole of it -/
section JPG
variable {Γ : JG} {Q : JQ} {α : Nat → Nat} {v : Int} {qA : Nat}
/-- the bodies emptied -/
theorem pg_e0 (hlt : Γ.1.stackTraces = false) {lim : Int} {σ0 : St} (h0 : gI σ0 53 (-1) = 0) (B : Nat) {u : va_W}
    (kk : ∀ (t : Nat) (σ' : St) (P' : Pg), B ≤ t → okP P' → (∀ g, 0 ≤ g → g < 4 → P' 58 g = 0) → CI P' lim σ' → TXb σ' [] → fr ptM σ0 σ' → J Γ m_lwG 26 [some (vR (α 0)), some (vI v), some (vR qA), some (vI 4), none, none, none, none, none, none] [] (wd Γ.2.1 α σ' ++ u) t Q) :
    ∀ (d : Nat) (f : Int) (t : Nat) (P1 : Pg) (σ1 : St), f + d = 4 → 0 ≤ f → B + 170 * d ≤ t → okP P1 → (∀ g, 0 ≤ g → g < f → P1 58 g = 0) → CI P1 lim σ1 → TXb σ1 [] → fr ptM σ0 σ1 → J Γ m_lwG 7 [some (vR (α 0)), some (vI v), some (vR qA), some (vI f), none, none, none, none, none, none] [] (wd Γ.2.1 α σ1 ++ u) t Q
  | 0, f, t, P1, σ1, hf, f0, ht, hP, he, hc, hx, hF => by
    have e : f = 4 := by omega
    subst e
    refine j_iload_n (a := 4) d_lwG_7 rfl ?_
    refine j_iconst d_lwG_8 ?_
    refine j_icmp_ge_t (tgt := 26) d_lwG_9 (by decide) (by decide) (by decide) (by decide) ?_
    exact kk t σ1 P1 (by omega) hP he hc hx hF
  | d + 1, f, t, P1, σ1, hf, f0, ht, hP, he, hc, hx, hF => by
    have f3 : f ≤ 3 := by omega
    have h8 : mny P1 4 f ≤ 8 := Int.le_trans (mny_le hP.1 4 f) hP.2.2.1
    have h5 : mny P1 6 f ≤ 5 := Int.le_trans (mny_le hP.1 6 f) hP.2.2.2
    refine j_iload_n (a := f) d_lwG_7 rfl ?_
    refine j_iconst d_lwG_8 ?_
    refine j_icmp_ge_f (tgt := 26) d_lwG_9 (by decide) ⟨by omega, by omega⟩ (by decide) (by omega) ?_
    refine j_aload_n (a := α 0) d_lwG_12 rfl ?_
    refine j_iload_n (a := f) d_lwG_13 rfl ?_
    refine j_ldcS (i := 10) d_lwG_14 (by decide) rfl ?_
    refine j_S m_lwP [vR (α 0), vI f, vR (Γ.2.2.2.1.1 10)] 170 d_lwG_16 cw_lwG_lwP jw_345 jw_344 rfl (Nat.le_of_ble_eq_true rfl) (Nat.le_of_ble_eq_true rfl) (by omega) ?_
    refine e_lwP (P := P1) (lim := lim) (f := f) (S := []) (Ls := []) hlt (hS_k (i := 10) (by decide)) rfl (fun s hs => nomatch hs) ⟨f0, f3⟩ (Nat.zero_le _) hP (by show (0 : Int) + _ ≤ 8; omega) (by show (0 : Int) + _ ≤ 5; omega) hc hx ((fr_I hF 53 (-1) ptM_53).trans h0) (Nat.le_refl _) (fun σ' c x o g => ?_)
    refine j_pop2 d_lwG_19 rfl ?_
    refine j_iinc (a := f) d_lwG_20 rfl (by decide) ?_
    refine j_goto (tgt := 7) d_lwG_23 (by decide) ?_
    have hS := spP_ok P1 f ([].map (stm (4 + 4 * f))) (Nat.zero_le _)
    have hP2 : okP (spP P1 f ([].map (stm (4 + 4 * f)))) := SPr_ok hP hS ⟨f0, f3⟩ (Nat.zero_le _) (fun s hs => nomatch hs) (by show (0 : Int) + _ ≤ 8; omega) (by show (0 : Int) + _ ≤ 5; omega)
    exact pg_e0 hlt h0 B kk d (f + 1) _ _ σ' (by omega) (by omega) (by rw [Nat.mul_succ] at ht; omega) hP2 (fun g g0 g1 => by
      rw [spP_58]
      by_cases e : g = f
      · rw [if_pos e]; rfl
      · rw [if_neg e]; exact he g g0 (by omega)) c x (fr_trans hF g)
/-- the bodies, one by one -/
theorem pg_bl (hlt : Γ.1.stackTraces = false) (h02 : Γ.2.1 0 ≠ Γ.2.1 2) {lim : Int}
    (kk : ∀ (σ' : St) (P' : Pg) (u : va_W), okP P' → okO P' → RS0 P' lim σ' → Q (some (vR qA)) (wd Γ.2.1 α σ' ++ u)) :
    ∀ (d : Nat) (f z nw cl : Int) (t : Nat) (P1 : Pg) (σ1 : St) (u : va_W) (fA : Nat → Option Nat) (a7 a8 a9 : Option AV), f + d = 4 → 0 ≤ f → 16500 * d ≤ t → okP P1 → okO P1 → RS0 P1 lim σ1 → (∀ g, f ≤ g → g < 4 → P1 58 g = 0) → nw = mny P1 4 (-1) → cl = mny P1 6 (-1) → u[0]? = some (qA, .inl (Γ.2.1 4, 4, rA fA)) →
      J Γ m_lwG 37 [some (vR (α 0)), some (vI v), some (vR qA), some (vI z), some (vI nw), some (vI cl), some (vI f), a7, a8, a9] [] (wd Γ.2.1 α σ1 ++ u) t Q
  | 0, f, z, nw, cl, t, P1, σ1, u, fA, a7, a8, a9, hf, f0, ht, hP, hO, hR, he, e4, e6, hA => by
    have e : f = 4 := by omega
    subst e
    refine j_iload (a := 4) d_lwG_37 rfl ?_
    refine j_iconst d_lwG_39 ?_
    refine j_icmp_ge_t (tgt := 352) d_lwG_40 (by decide) (by decide) (by decide) (by decide) ?_
    refine j_aload_n (a := qA) d_lwG_352 rfl ?_
    exact j_aret d_lwG_353 rfl (Or.inr ⟨_, rfl⟩) (kk _ _ _ hP hO hR)
  | d + 1, f, z, nw, cl, t, P1, σ1, u, fA, a7, a8, a9, hf, f0, ht, hP, hO, hR, he, e4, e6, hA => by
    obtain ⟨hc, hx, h53⟩ := hR
    have f3 : 0 ≤ f ∧ f < 4 := by omega
    have ff : 0 ≤ f ∧ f ≤ 3 := by omega
    have ht2 : 16500 * d + 16500 ≤ t := by rw [Nat.mul_succ] at ht; exact ht
    clear ht
    obtain ⟨D, hD⟩ : ∃ D, D = 16500 * d := ⟨_, rfl⟩
    rw [← hD] at ht2
    have n4 := hP.2.2.1
    have n6 := hP.2.2.2
    have m4 : 0 ≤ mny P1 4 (-1) := (cn_rng _ _).1
    have m6 : 0 ≤ mny P1 6 (-1) := (cn_rng _ _).1
    have hP58 : P1 58 f = 0 := he f (Int.le_refl _) f3.2
    have g4 := mny_emp hP.1 (q := 4) ff hP58
    have g6 := mny_emp hP.1 (q := 6) ff hP58
    refine j_iload (a := f) d_lwG_37 rfl ?_
    refine j_iconst d_lwG_39 ?_
    refine j_icmp_ge_f (tgt := 352) d_lwG_40 (by decide) ⟨by omega, by omega⟩ (by decide) (by omega) ?_
    refine pg_B hlt h53 f3 hA (by omega) (fun z2 m q hz hm => ?_)
    have lA := get_lt hA
    have hA2 : ((u ++ [((q, .inl (Γ.2.1 3, (m.toNat, rA (fun _ => none)))) : Nat × va_E)]).set 0 (qA, .inl (Γ.2.1 4, 4, rA (updR fA f.toNat (some q)))))[0]? = some (qA, .inl (Γ.2.1 4, 4, rA (updR fA f.toNat (some q)))) := List.getElem?_set_self (by rw [List.length_append]; omega)
    have hF2 : ((u ++ [((q, .inl (Γ.2.1 3, (m.toNat, rA (fun _ => none)))) : Nat × va_E)]).set 0 (qA, .inl (Γ.2.1 4, 4, rA (updR fA f.toNat (some q)))))[u.length]? = some (q, .inl (Γ.2.1 3, m.toNat, rA (fun _ => none))) := by
      rw [List.getElem?_set_ne (by omega)]; exact app_get
    generalize (u ++ [((q, .inl (Γ.2.1 3, (m.toNat, rA (fun _ => none)))) : Nat × va_E)]).set 0 (qA, .inl (Γ.2.1 4, 4, rA (updR fA f.toNat (some q)))) = u2 at hA2 hF2 ⊢
    have hm9 : m.toNat ≤ 9 := by omega
    generalize m.toNat = M at hm9 hF2 ⊢
    refine pg_kl (n := M) (iF := u.length) (N4 := mny P1 4 (-1)) (N6 := mny P1 6 (-1)) (qF := q) (fA := updR fA f.toNat (some q)) hlt h53 h02 f3 (by unfold updR; rw [if_pos rfl]) lA hm9 m4 m6 (D + 200) (fun Ls z3 nw3 cl3 rs t3 u3 b9 fF hlen ho hz3 k4 h4 k6 h6 hs hA3 hF3 ht3 => ?_) M [] z2 nw cl _ _ u2 a9 _ (Nat.zero_add _) (fun s hs => nomatch hs) hz (by rw [e4]; exact (Int.zero_add _).symm) (by omega) (by rw [e6]; exact (Int.zero_add _).symm) (by omega) (hS_k (i := 10) (by decide)) hA2 hF2 ?_
    · refine j_aload_n (a := α 0) d_lwG_326 rfl ?_
      refine j_iload (a := f) d_lwG_327 rfl ?_
      refine j_aload (a := rs) d_lwG_329 rfl ?_
      refine j_S m_lwP [vR (α 0), vI f, vR rs] 170 d_lwG_331 cw_lwG_lwP jw_345 jw_344 rfl (Nat.le_of_ble_eq_true rfl) (Nat.le_of_ble_eq_true rfl) (by omega) ?_
      refine e_lwP (P := P1) (lim := lim) (f := f) (S := bx Ls) (Ls := Ls) hlt hs rfl ho ff (by omega) hP (by omega) (by omega) hc hx h53 (Nat.le_refl _) (fun σ' c x o g => ?_)
      have h53' : gI σ' 53 (-1) = 0 := (fr_I g 53 (-1) ptM_53).trans h53
      refine j_aload_n (a := qA) d_lwG_334 rfl ?_
      refine j_iload (a := f) d_lwG_335 rfl ?_
      refine j_aald (y := 4) (i := 53 + 0) (n := 4) d_lwG_337 ((wu_at h53').trans hA3) rfl ⟨f3.1, by omega⟩ (by decide) (by unfold updR; rw [if_pos rfl]) ?_
      refine j_alen (y := 3) (i := 53 + u.length) d_lwG_338 ((wu_at h53').trans hF3) rfl ?_
      refine j_i2l d_lwG_339 (inR_9 hm9) ?_
      refine j_lcmp d_lwG_340 ?_
      refine j_if_eq_t (tgt := 346) d_lwG_341 (by decide) lCmp_in (lCmp_eq.mpr (by rw [hlen])) ?_
      refine j_iinc (a := f) d_lwG_346 rfl (by decide) ?_
      refine j_goto (tgt := 37) d_lwG_349 (by decide) ?_
      have hL12 : (Ls.map (stm (4 + 4 * f))).length ≤ 12 := by rw [List.length_map]; omega
      have hS := spP_ok P1 f (Ls.map (stm (4 + 4 * f))) hL12
      have hf0 : 4 ≤ 4 + 4 * f ∧ 4 + 4 * f ≤ 16 := by omega
      have q4 := cq_stm 4 (4 + 4 * f) Ls
      have q6 := cq_stm 6 (4 + 4 * f) Ls
      have hP2 := SPr_ok hP hS ff hL12 (stm_ok hf0 ho) (by rw [q4]; omega) (by rw [q6]; omega)
      have hO2 := SPr_O hP hO hS ff hL12 (stm_loc ff.1 ho)
      exact pg_bl hlt h02 kk d (f + 1) z3 nw3 cl3 _ _ σ' u3 _ _ _ _ (by omega) (by omega) (by rw [← hD]; omega) hP2 hO2 ⟨c, x, h53'⟩ (fun g g0 g1 => by
        rw [spP_58, if_neg (by omega)]; exact he g (by omega) g1) (by rw [SPr_mny hP.1 hS ff hL12, q4]; omega) (by rw [SPr_mny hP.1 hS ff hL12, q6]; omega) hA3
    · have : 1800 * M ≤ 16200 := Nat.mul_le_mul_left 1800 hm9
      omega
/-- program -/
theorem e_lwG (hlt : Γ.1.stackTraces = false) {lim : Int} {σ : St} {P : Pg} {t : Nat} (hP : okP P) (h : RS0 P lim σ) (ht : 66800 ≤ t)
    (hq : ∀ (σ' : St) (P' : Pg) (u : va_W) (q : Nat), okP P' → okO P' → RS0 P' lim σ' → Q (some (vR q)) (wd Γ.2.1 α σ' ++ u)) : J Γ m_lwG 0 (entry 10 [vR (α 0), vI v]) [] (wd Γ.2.1 α σ) t Q := by
  refine j_k02 (fun h02 => ?_)
  obtain ⟨hc, hx, h53⟩ := h
  refine j_iconst d_lwG_0 ?_
  refine j_anew (y := 4) (ty := .array .int) d_lwG_1 rfl jx_212 jx_ov4 (by decide) (by show 1 + 4 ≤ t; omega) (fun q => ?_)
  refine j_astore_n d_lwG_4 (by decide) ?_
  refine j_iconst d_lwG_5 ?_
  refine j_istore_n d_lwG_6 (by decide) ?_
  refine pg_e0 (qA := q) (v := v) (lim := lim) (σ0 := σ) hlt h53 66000 (fun t1 σ1 P1 ht1 hP1 he1 hc1 hx1 f1 => ?_) 4 0 _ P σ (by decide) (by decide) (by show 66000 + 170 * 4 ≤ t - (1 + 4); omega) hP (fun g g0 g1 => by omega) hc hx fr_refl
  have t0 := emp_tot (P := P1) (fun g g0 g1 => he1 g g0 (by omega))
  refine j_iload_n (a := v) d_lwG_26 rfl ?_
  refine j_istore_n d_lwG_27 (by decide) ?_
  refine j_iconst d_lwG_28 ?_
  refine j_istore d_lwG_29 (by decide) ?_
  refine j_iconst d_lwG_31 ?_
  refine j_istore d_lwG_32 (by decide) ?_
  refine j_iconst d_lwG_34 ?_
  refine j_istore d_lwG_35 (by decide) ?_
  refine pg_bl (qA := q) hlt h02 (fun σ' P' u a b c => hq σ' P' u q a b c) 4 0 v 0 0 t1 P1 σ1 _ (fun _ => none) none none none (by decide) (by decide) (by show 16500 * 4 ≤ t1; omega) hP1 (fun n n0 n1 => absurd n1 (by rw [t0]; omega)) ⟨hc1, hx1, (fr_I f1 53 (-1) ptM_53).trans h53⟩ (fun g g0 g1 => he1 g g0 g1) (mny_no 4 (-1) t0).symm (mny_no 6 (-1) t0).symm rfl
end JPG
