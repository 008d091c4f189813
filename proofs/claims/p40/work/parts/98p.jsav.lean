theorem mny_le {P : Pg} (hz : okZ P) (q f : Int) : mny P q f ≤ mny P q (-1) := by
  have c : ∀ g, 0 ≤ cf P q g := fun g => by unfold cf; exact (cn_rng _ _).1
  have c0 := c 0
  have c1 := c 1
  have c2 := c 2
  have c3 := c 3
  rw [mny_cf hz, mny_cf hz, if_neg (show ¬ (-1 : Int) = 0 by decide), if_neg (show ¬ (-1 : Int) = 1 by decide), if_neg (show ¬ (-1 : Int) = 2 by decide), if_neg (show ¬ (-1 : Int) = 3 by decide)]
  split <;> split <;> split <;> split <;> omega
section JSV
variable {Γ : JG} {Q : JQ} {α : Nat → Nat} {P : Pg}
theorem lvS {a b c d e f g h i j k : Option AV} {z : Int} : lset [a, b, c, d, e, f, g, h, i, j, k] 10 (vI z) = [a, b, c, d, e, f, g, h, i, lhead j, some (vI z)] := rfl
/-- the emptying of the bodies -/
theorem sv_loop (hlt : Γ.1.stackTraces = false) {lim v : Int} {F T R C : BitVec 64} {σ0 : St} (h0 : gI σ0 53 (-1) = 0) (B : Nat) {u : va_W}
    (kk : ∀ (t : Nat) (σ' : St) (P' : Pg), B ≤ t → okP P' → tot P' = 0 → CI P' lim σ' → TXb σ' [] → sbO σ' → fr ptM σ0 σ' → J Γ m_lwS 84 [some (vR (α 0)), some (vI v), some (vL F), none, some (vL T), none, some (vL R), none, some (vL C), none, some (vI 4)] [] (wd Γ.2.1 α σ' ++ u) t Q) :
    ∀ (d : Nat) (f : Int) (t : Nat) (P1 : Pg) (σ1 : St), f + d = 4 → 0 ≤ f → B + 170 * d ≤ t → okP P1 → (∀ g, 0 ≤ g → g < f → P1 58 g = 0) → CI P1 lim σ1 → TXb σ1 [] → (f = 0 ∨ sbO σ1) → fr ptM σ0 σ1 → J Γ m_lwS 57 [some (vR (α 0)), some (vI v), some (vL F), none, some (vL T), none, some (vL R), none, some (vL C), none, some (vI f)] [] (wd Γ.2.1 α σ1 ++ u) t Q
  | 0, f, t, P1, σ1, hf, f0, ht, hP, he, hc, hx, hO, hF => by
    have e : f = 4 := by omega
    subst e
    refine j_iload (a := 4) d_lwS_57 rfl ?_
    refine j_iconst d_lwS_59 ?_
    refine j_icmp_ge_t (tgt := 84) d_lwS_60 (by decide) (by decide) (by decide) (by decide) ?_
    exact kk t σ1 P1 (by omega) hP (emp_tot (fun g g0 g1 => he g g0 (by omega))) hc hx (hO.resolve_left (by decide)) hF
  | d + 1, f, t, P1, σ1, hf, f0, ht, hP, he, hc, hx, hO, hF => by
    have f3 : f ≤ 3 := by omega
    have h8 : mny P1 4 f ≤ 8 := Int.le_trans (mny_le hP.1 4 f) hP.2.2.1
    have h5 : mny P1 6 f ≤ 5 := Int.le_trans (mny_le hP.1 6 f) hP.2.2.2
    refine j_iload (a := f) d_lwS_57 rfl ?_
    refine j_iconst d_lwS_59 ?_
    refine j_icmp_ge_f (tgt := 84) d_lwS_60 (by decide) ⟨by omega, by omega⟩ (by decide) (by omega) ?_
    refine j_aload_n (a := α 0) d_lwS_63 rfl ?_
    refine j_iload (a := f) d_lwS_64 rfl ?_
    refine j_ldcS (i := 10) d_lwS_66 (by decide) rfl ?_
    refine j_S m_lwP [vR (α 0), vI f, vR (Γ.2.2.2.1.1 10)] 170 d_lwS_68 cw_lwS_lwP jw_345 jw_344 rfl (Nat.le_of_ble_eq_true rfl) (Nat.le_of_ble_eq_true rfl) (by omega) ?_
    refine e_lwP (P := P1) (lim := lim) (f := f) (S := []) (Ls := []) hlt (hS_k (i := 10) (by decide)) rfl (fun s hs => nomatch hs) ⟨f0, f3⟩ (Nat.zero_le _) hP (by show (0 : Int) + _ ≤ 8; omega) (by show (0 : Int) + _ ≤ 5; omega) hc hx ((fr_I hF 53 (-1) ptM_53).trans h0) (Nat.le_refl _) (fun σ' c x o g => ?_)
    refine j_lconst d_lwS_71 ?_
    refine j_lcmp d_lwS_72 ?_
    refine j_if_eq_t (tgt := 78) d_lwS_73 (by decide) lCmp_in (lCmp_eq.mpr rfl) ?_
    refine j_iinc (a := f) d_lwS_78 rfl (by decide) ?_
    refine j_goto (tgt := 57) d_lwS_81 (by decide) ?_
    have hS := spP_ok P1 f ([].map (stm (4 + 4 * f))) (Nat.zero_le _)
    have hP2 : okP (spP P1 f ([].map (stm (4 + 4 * f)))) := SPr_ok hP hS ⟨f0, f3⟩ (Nat.zero_le _) (fun s hs => nomatch hs) (by show (0 : Int) + _ ≤ 8; omega) (by show (0 : Int) + _ ≤ 5; omega)
    exact sv_loop hlt h0 B kk d (f + 1) _ _ σ' (by omega) (by omega) (by rw [Nat.mul_succ] at ht; omega) hP2 (fun g g0 g1 => by
      rw [spP_58]
      by_cases e : g = f
      · rw [if_pos e]; rfl
      · rw [if_neg e]; exact he g g0 (by omega)) c x (Or.inr o) (fr_trans hF g)
/-- saved -/
theorem e_lwS (hlt : Γ.1.stackTraces = false) {lim v : Int} {σ : St} {t : Nat} (hv : inR v) (hP : okP P) (hl : inR lim) (h : RS0 P lim σ) (ht : 800 ≤ t)
    (hq : ∀ σ', RS0 P 1 σ' → Q (some (vI 1)) (wd Γ.2.1 α σ')) : J Γ m_lwS 0 (entry 11 [vR (α 0), vI v]) [] (wd Γ.2.1 α σ) t Q := by
  obtain ⟨h, hx, h53⟩ := h
  obtain ⟨ys, hY⟩ := isC_ex hP 0
  obtain ⟨zs, hZ⟩ := isC_ex hP (pk v 3)
  have n1 : ∀ j, ¬ clq 53 j := fun j => by unfold clq; omega
  have hp := (pk_rng v hv (n := 3) (by omega) (by omega)).2
  have hpl : 0 ≤ pk v 3 ∧ pk v 3 ≤ 2 := ⟨hp.1, by have : pk v 3 < 3 := hp.2; omega⟩
  rw [← List.append_nil (wd Γ.2.1 α σ)]
  refine j_aload_n (a := α 0) d_lwS_0 rfl ?_
  refine j_iload_n (a := v) d_lwS_1 rfl ?_
  refine j_iconst d_lwS_2 ?_
  refine j_M (st := [vR (α 0)]) mf_209 [vI v, vI 3] hlt d_lwS_3 rfl rfl (Nat.le_of_ble_eq_true rfl) (Nat.le_of_ble_eq_true rfl) (Nat.le_of_ble_eq_true rfl) (Nat.le_of_ble_eq_true rfl) h53 rfl (Nat.zero_le _) ?_
  refine k209 hv (by omega) (by omega) (fun _ => ⟨_, rfl, h53, noR_I _, ?_⟩)
  refine j_M (st := []) mf_184 [vR 0, vI (pk v 3)] hlt d_lwS_6 rfl rfl (Nat.le_of_ble_eq_true rfl) (Nat.le_of_ble_eq_true rfl) (Nat.le_of_ble_eq_true rfl) (Nat.le_of_ble_eq_true rfl) h53 rfl (by show 1 ≤ t - 0; omega) ?_
  refine k184 hl h hpl.1 hpl.2 (fun c1 => ?_)
  have f1 : fr (fun c j => (c = 5 ∧ j = 2) ∨ (c = 19 ∧ j = 8)) σ (sI (sI σ 5 2 (pk v 3)) 19 8 1) := fr_sI (fr_sI fr_refl (Or.inl ⟨rfl, rfl⟩)) (Or.inr ⟨rfl, rfl⟩)
  generalize sI (sI σ 5 2 (pk v 3)) 19 8 1 = σ1 at c1 f1 ⊢
  have x1 := TXb_fr hx f1 (by omega) (fun j => by omega)
  have g1 : gI σ1 53 (-1) = 0 := (fr_I f1 53 (-1) (by omega)).trans h53
  refine ⟨_, rfl, g1, noR_L _, ?_⟩
  refine j_pop2 d_lwS_9 rfl ?_
  refine j_aload_n (a := α 0) d_lwS_10 rfl ?_
  refine j_M (st := []) mf_188 [vR 0] hlt d_lwS_11 rfl rfl (Nat.le_of_ble_eq_true rfl) (Nat.le_of_ble_eq_true rfl) (Nat.le_of_ble_eq_true rfl) (Nat.le_of_ble_eq_true rfl) g1 rfl (Nat.zero_le _) ?_
  refine k188 hP hpl hZ c1 FN_in (fun σ2 c2 f2 => ⟨_, rfl, (fr_I f2 53 (-1) (n1 _)).trans g1, noR_L _, ?_⟩)
  have g2 : gI σ2 53 (-1) = 0 := (fr_I f2 53 (-1) (n1 _)).trans g1
  refine j_lstore_n d_lwS_14 (by decide) ?_
  refine j_aload_n (a := α 0) d_lwS_15 rfl ?_
  refine j_M (st := []) mf_180 [vR 0] hlt d_lwS_16 rfl rfl (Nat.le_of_ble_eq_true rfl) (Nat.le_of_ble_eq_true rfl) (Nat.le_of_ble_eq_true rfl) (Nat.le_of_ble_eq_true rfl) g2 rfl (Nat.zero_le _) ?_
  refine k180 hP c2 ⟨_, rfl, g2, noR_L _, ?_⟩
  refine j_lstore d_lwS_19 (by decide) ?_
  refine j_aload_n (a := α 0) d_lwS_21 rfl ?_
  refine j_M (st := []) mf_194 [vR 0] hlt d_lwS_22 rfl rfl (Nat.le_of_ble_eq_true rfl) (Nat.le_of_ble_eq_true rfl) (Nat.le_of_ble_eq_true rfl) (Nat.le_of_ble_eq_true rfl) g2 rfl (Nat.zero_le _) ?_
  refine k194 hP hY c2 (fun σ3 rr hr c3 f3 => ⟨_, rfl, (fr_I f3 53 (-1) (n1 _)).trans g2, noR_L _, ?_⟩)
  have g3 : gI σ3 53 (-1) = 0 := (fr_I f3 53 (-1) (n1 _)).trans g2
  refine j_lstore d_lwS_25 (by decide) ?_
  refine j_aload_n (a := α 0) d_lwS_27 rfl ?_
  refine j_M (st := []) mf_197 [vR 0] hlt d_lwS_28 rfl rfl (Nat.le_of_ble_eq_true rfl) (Nat.le_of_ble_eq_true rfl) (Nat.le_of_ble_eq_true rfl) (Nat.le_of_ble_eq_true rfl) g3 rfl (Nat.zero_le _) ?_
  refine k197 hP c3 (fun σ4 c4 f4 => ⟨_, rfl, (fr_I f4 53 (-1) (n1 _)).trans g3, noR_L _, ?_⟩)
  have g4 : gI σ4 53 (-1) = 0 := (fr_I f4 53 (-1) (n1 _)).trans g3
  have x4 : TXb σ4 [] := TXb_fr (TXb_fr (TXb_fr x1 f2 (by unfold clq; omega) (fun j => by unfold clq; omega)) f3 (by unfold clq; omega) (fun j => by unfold clq; omega)) f4 (by unfold clq; omega) (fun j => by unfold clq; omega)
  refine j_lstore d_lwS_31 (by decide) ?_
  refine j_aload_n (a := α 0) d_lwS_33 rfl ?_
  refine j_M (st := []) mf_201 [vR 0] hlt d_lwS_34 rfl rfl (Nat.le_of_ble_eq_true rfl) (Nat.le_of_ble_eq_true rfl) (Nat.le_of_ble_eq_true rfl) (Nat.le_of_ble_eq_true rfl) g4 rfl (Nat.zero_le _) ?_
  refine k201 hP c4 (fun k5 g5 w5 => ?_)
  have f5 : fr mM σ4 (mit P k5 (ms0 P σ4)) := fr_trans (fr_trans (show fr mM σ4 (mcr σ4) from fr_trans fr_cc fr_tk) fr_op) (fr_it k5 _)
  have c5 : CI P (pk v 3) (mit P k5 (ms0 P σ4)) := CI_fr c4 f5 (fun c j k => by unfold mM at k; omega)
  clear g5 w5
  generalize mit P k5 (ms0 P σ4) = σ5 at f5 c5 ⊢
  have h5 : gI σ5 53 (-1) = 0 := (fr_I f5 53 (-1) (by unfold mM; omega)).trans g4
  have x5 : TXb σ5 [] := TXb_fr x4 f5 (by unfold mM; omega) (fun j => by unfold mM; omega)
  refine ⟨_, rfl, h5, noR_L _, ?_⟩
  refine j_pop2 d_lwS_37 rfl ?_
  refine j_aload_n (a := α 0) d_lwS_38 rfl ?_
  refine j_M (st := []) mf_207 [vR 0] hlt d_lwS_39 rfl rfl (Nat.le_of_ble_eq_true rfl) (Nat.le_of_ble_eq_true rfl) (Nat.le_of_ble_eq_true rfl) (Nat.le_of_ble_eq_true rfl) h5 rfl (Nat.zero_le _) ?_
  refine k207 hP c5 (fun σ6 r6 l6 s6 c6 f6 => ⟨_, rfl, (fr_I f6 53 (-1) (by omega)).trans h5, noR_L _, ?_⟩)
  have h6 : gI σ6 53 (-1) = 0 := (fr_I f6 53 (-1) (by omega)).trans h5
  have x6 : TXb σ6 [] := TXb_fr x5 f6 (by omega) (fun j => by omega)
  refine j_pop2 d_lwS_42 rfl ?_
  refine j_aload_n (a := α 0) d_lwS_43 rfl ?_
  refine j_M (st := []) mf_201 [vR 0] hlt d_lwS_44 rfl rfl (Nat.le_of_ble_eq_true rfl) (Nat.le_of_ble_eq_true rfl) (Nat.le_of_ble_eq_true rfl) (Nat.le_of_ble_eq_true rfl) h6 rfl (Nat.zero_le _) ?_
  refine k201 hP c6 (fun k7 g7 w7 => ?_)
  have f7 : fr mM σ6 (mit P k7 (ms0 P σ6)) := fr_trans (fr_trans (show fr mM σ6 (mcr σ6) from fr_trans fr_cc fr_tk) fr_op) (fr_it k7 _)
  have c7 : CI P (pk v 3) (mit P k7 (ms0 P σ6)) := CI_fr c6 f7 (fun c j k => by unfold mM at k; omega)
  have z7 := w7.2.1
  clear g7 w7
  generalize mit P k7 (ms0 P σ6) = σ7 at f7 c7 z7 ⊢
  have h7 : gI σ7 53 (-1) = 0 := (fr_I f7 53 (-1) (by unfold mM; omega)).trans h6
  have x7 : TXb σ7 [] := TXb_fr x6 f7 (by unfold mM; omega) (fun j => by unfold mM; omega)
  have r7 : RB 12 σ7 P := RB_fr r6 f7 (fun j => by unfold mM; omega) (fun j => by unfold mM; omega)
  have l7 : gI σ7 12 2 = pk v 3 := (fr_I f7 12 2 (by unfold mM; omega)).trans l6
  have s7 : gI σ7 0 10 = 1 := (fr_I f7 0 10 (by unfold mM; omega)).trans s6
  refine ⟨_, rfl, h7, noR_L _, ?_⟩
  refine j_lconst d_lwS_47 ?_
  refine j_lcmp d_lwS_48 ?_
  refine j_if_ge_t (tgt := 54) d_lwS_49 (by decide) lCmp_in ?_ ?_
  · by_cases hn : lCmp (BitVec.ofInt 64 (gI σ7 46 8)) (BitVec.ofNat 64 (0 : Fin 2).val) < 0
    · have := lCmp_lt.mp hn
      rw [oI ⟨by omega, by omega⟩] at this
      have e0 : (BitVec.ofNat 64 (0 : Fin 2).val).toInt = 0 := by decide
      rw [e0] at this
      omega
    · exact Int.not_lt.mp hn
  refine j_iconst d_lwS_54 ?_
  refine j_istore d_lwS_55 (by decide) ?_
  refine sv_loop (P1 := P) (v := v) (lim := pk v 3) (σ0 := σ7) hlt h7 10 (fun t8 σ8 P8 t8' o8 e8 c8 x8 b8 f8 => ?_) 4 0 _ σ7 (by omega) (by omega) (by show 10 + 170 * 4 ≤ t - 0 - 1 - 0 - 0 - 0 - 0 - 0 - 0 - 0; omega) hP (fun g g0 g1 => by omega) c7 x7 (Or.inl rfl) fr_refl
  have h8 : gI σ8 53 (-1) = 0 := (fr_I f8 53 (-1) ptM_53).trans h7
  rw [List.append_nil]
  refine j_tailS (x := 214) (L1 := [some (vR 0), some (vI v), some (vL (BitVec.ofInt 64 (FN P zs (pk v 3)))), none, some (vL (BitVec.ofInt 64 (tot P))), none, some (vL (BitVec.ofInt 64 rr)), none, some (vL (BitVec.ofInt 64 (cn (fun t => dcl (ugF P t)) (20 + mny P 4 (-1)).toNat))), none, some (vI 4)]) mf2_214 hlt (fun q => rfl) h8 ?_
  refine k214 t8' hv o8 e8 c8 b8 hP ((fr_I f8 0 10 (by unfold ptM txM sbM2 sbM rM fgM; omega)).trans s7) ⟨RB_fr r7 f8 (fun j => by unfold ptM txM sbM2 sbM rM fgM; omega) (fun j => by unfold ptM txM sbM2 sbM rM fgM; omega), (fr_I f8 12 2 (by unfold ptM txM sbM2 sbM rM fgM; omega)).trans l7⟩ hZ hY hr (fun σ9 c9 f9 => ⟨1, rfl, ?_, ?_⟩)
  · exact (fr_I f9 53 (-1) (by unfold clq fgM; omega)).trans h8
  · exact hq σ9 ⟨c9, TXb_fr x8 f9 (by unfold clq fgM; omega) (fun j => by unfold clq fgM; omega), (fr_I f9 53 (-1) (by unfold clq fgM; omega)).trans h8⟩
end JSV
