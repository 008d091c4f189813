/-! the class's machine: a run -/
def mM : Nat → Int → Prop := fun c _ => 46 ≤ c ∧ c ≤ 52
theorem fr_wr {a p : Int} {s : St} : fr mM s (mwr a p s) := by
  unfold mwr
  by_cases h : p = 0
  · rw [if_pos h]; exact fr_sI fr_refl (by unfold mM; omega)
  · rw [if_neg h]; exact fr_sL (fr_sI fr_refl (by unfold mM; omega)) (by unfold mM; omega)
theorem fr_tk {c n : Int} {s : St} : fr mM s (mtk c n s) := fr_sI (fr_upI (fr_upI fr_refl (fun j => by unfold mM; omega)) (fun j => by unfold mM; omega)) (by unfold mM; omega)
theorem fr_op {P : Pg} {f : Int} {s : St} : fr mM s (mop P f s) := fr_sI (fr_sI (fr_trans (fr_sI (fr_sI fr_refl (by unfold mM; omega)) (by unfold mM; omega)) fr_tk) (by unfold mM; omega)) (by unfold mM; omega)
theorem fr_s46 {s : St} {j v : Int} : fr mM s (sI s 46 j v) := fr_sI fr_refl (by unfold mM; omega)
theorem fr_ex1 {P : Pg} {n l r : Int} {s : St} : fr mM s (mex1 P n l r s) := by
  unfold mex1
  repeat' split
  · exact fr_wr
  · exact fr_wr
  · exact fr_s46
  · exact fr_wr
  · exact fr_s46
  · exact fr_wr
  · exact fr_trans fr_s46 (fr_trans fr_tk fr_wr)
  · exact fr_wr
  · exact fr_s46
  · exact fr_wr
  · exact fr_trans fr_op fr_wr
  · exact fr_refl
theorem fr_st {P : Pg} {s : St} : fr mM s (mst P s) := by
  unfold mst
  split
  · exact fr_trans (fr_sI fr_refl (by unfold mM; omega)) (fr_trans fr_s46 fr_ex1)
  · unfold mcl
    split
    · exact fr_trans fr_s46 fr_wr
    · exact fr_s46
theorem fr_it {P : Pg} : ∀ (k : Nat) (s : St), fr mM s (mit P k s)
  | 0, _ => fr_refl
  | k + 1, s => fr_trans fr_st (fr_it k (mst P s))
theorem wr_46 {a p : Int} {s : St} {j : Int} : gI (mwr a p s) 46 j = gI s 46 j := by rw [mwr_ne (by decide)]
theorem ex1_46 {P : Pg} {n l r : Int} {s : St} : gI (mex1 P n l r s) 46 8 = gI s 46 8 ∧ gI (mex1 P n l r s) 46 6 ≤ gI s 46 6 + 1 := by
  have z : gI s 46 6 ≤ gI s 46 6 + 1 := by omega
  have fl : gI (mfl s) 46 8 = gI s 46 8 ∧ gI (mfl s) 46 6 ≤ gI s 46 6 + 1 := ⟨rfl, z⟩
  unfold mex1
  repeat' split
  · rw [wr_46, wr_46]; exact ⟨rfl, z⟩
  · rw [wr_46, wr_46]; exact ⟨rfl, z⟩
  · exact fl
  · rw [wr_46, wr_46]; exact ⟨rfl, z⟩
  · exact fl
  · rw [wr_46, wr_46]; exact ⟨rfl, z⟩
  · rw [wr_46, wr_46, mtk_46, mtk_46, if_neg (by decide), if_neg (by decide)]; exact ⟨rfl, z⟩
  · rw [wr_46, wr_46]; exact ⟨rfl, z⟩
  · exact fl
  · rw [wr_46, wr_46]; exact ⟨rfl, z⟩
  · rw [wr_46, wr_46, mop_46, mop_46, if_neg (by decide), if_neg (by decide), if_pos rfl]; exact ⟨rfl, Int.le_refl _⟩
  · exact ⟨rfl, z⟩
theorem st_46 {P : Pg} {s : St} : gI (mst P s) 46 6 - 2 * gI (mst P s) 46 8 + 1 ≤ gI s 46 6 - 2 * gI s 46 8 := by
  unfold mst
  split
  · unfold mex
    obtain ⟨h1, h2⟩ := ex1_46 (P := P) (n := gI s 51 (gI s 46 6 - 1)) (l := madr (vv P (gI s 51 (gI s 46 6 - 1))) (sI s 51 (gI s 46 6 - 1) (gI s 51 (gI s 46 6 - 1) + 1))) (r := madr (ww P (gI s 51 (gI s 46 6 - 1))) (sI s 51 (gI s 46 6 - 1) (gI s 51 (gI s 46 6 - 1) + 1))) (s := sI (sI s 51 (gI s 46 6 - 1) (gI s 51 (gI s 46 6 - 1) + 1)) 46 8 (gI (sI s 51 (gI s 46 6 - 1) (gI s 51 (gI s 46 6 - 1) + 1)) 46 8 + 1))
    have e8 : gI (sI (sI s 51 (gI s 46 6 - 1) (gI s 51 (gI s 46 6 - 1) + 1)) 46 8 (gI (sI s 51 (gI s 46 6 - 1) (gI s 51 (gI s 46 6 - 1) + 1)) 46 8 + 1)) 46 8 = gI s 46 8 + 1 := rfl
    have e6 : gI (sI (sI s 51 (gI s 46 6 - 1) (gI s 51 (gI s 46 6 - 1) + 1)) 46 8 (gI (sI s 51 (gI s 46 6 - 1) (gI s 51 (gI s 46 6 - 1) + 1)) 46 8 + 1)) 46 6 = gI s 46 6 := rfl
    omega
  · unfold mcl
    have e8 : gI (sI s 46 6 (gI s 46 6 - 1)) 46 8 = gI s 46 8 := rfl
    have e6 : gI (sI s 46 6 (gI s 46 6 - 1)) 46 6 = gI s 46 6 - 1 := rfl
    split
    · rw [wr_46, wr_46, e8, e6]; omega
    · rw [e8, e6]; omega
theorem mcr_46 {s : St} : gI (mcr s) 46 6 = 0 ∧ (gI (mcr s) 46 7 = 5 ∧ (gI (mcr s) 46 8 = 0 ∧ (gI (mcr s) 46 9 = 0 ∧ gI (mcr s) 46 10 = 0))) := ⟨rfl, rfl, rfl, rfl, rfl⟩
theorem mcr_47 {s : St} {j : Int} (h0 : 1 ≤ j) (h1 : j < 5) : gI (mcr s) 47 j = 0 ∧ gI (mcr s) 48 j = j - 1 := by
  have e : ∀ τ : St, gI τ 46 7 = 1 → gI (mtk 0 4 τ) 47 j = 0 ∧ gI (mtk 0 4 τ) 48 j = j - 1 := fun τ h => by
    rw [mtk_47, mtk_48, h]
    show (if 1 ≤ j ∧ j < 1 + 4 then 0 else _) = 0 ∧ (if 1 ≤ j ∧ j < 1 + 4 then 0 + (j - 1) else _) = j - 1
    rw [if_pos ⟨h0, by omega⟩, if_pos ⟨h0, by omega⟩]
    exact ⟨rfl, by omega⟩
  exact e _ rfl
theorem W_0 {P : Pg} (hz : okZ P) (s : St) : WFM P (ms0 P s) := by
  obtain ⟨h6, h7, h8, h9, h10⟩ := mcr_46 (s := s)
  have hs0 := stt_rng hz (f := 0) (by omega) (by omega)
  have hz0 := okZ_at hz (f := 0) (by omega) (by omega)
  have hss := stt_succ P (f := 0) (by omega) (by omega)
  unfold ms0 WFM
  rw [mop_46, mop_46, mop_46, mop_46, mop_46, mop_47, mop_48, mop_50, mop_51, mop_52, h6, h7]
  simp only [show (6 : Int) = 6 from rfl, if_true, show ¬ ((7 : Int) = 6) by decide, show ¬ ((8 : Int) = 6) by decide, show ¬ ((8 : Int) = 7) by decide, show ¬ ((9 : Int) = 6) by decide, show ¬ ((9 : Int) = 7) by decide, show ¬ ((10 : Int) = 6) by decide, show ¬ ((10 : Int) = 7) by decide, if_false, h8, h9, h10]
  refine ⟨by omega, by omega, by omega, by omega, fun a a0 a1 => ?_, fun a k a0 a1 a2 k0 k1 => ?_, fun i i0 i1 => ?_, fun i i0 i1 => by omega⟩
  · by_cases q : 5 ≤ a ∧ a < 5 + 4
    · simp only [if_pos q]; omega
    · obtain ⟨e1, e2⟩ := mcr_47 (s := s) (j := a) (by omega) (by omega)
      simp only [if_neg q]; rw [e1, e2]; omega
  · exfalso
    by_cases q : 5 ≤ a ∧ a < 5 + 4
    · simp only [if_pos q] at a2; omega
    · obtain ⟨e1, e2⟩ := mcr_47 (s := s) (j := a) (by omega) (by omega)
      simp only [if_neg q] at a2; rw [e2] at a2; omega
  · have e : i = 0 := by omega
    subst e
    simp only [if_true]
    exact ⟨⟨by omega, by omega⟩, ⟨by omega, by omega⟩, by omega, by omega⟩
section CM2
variable {t : Nat} {σ : St} {Q : Res → St → Prop} {P : Pg}
theorem RN_m {s s' : St} (h : RN 5 s P) (g : fr mM s s') : RN 5 s' P := RN_fr h g (fun j => by unfold mM; omega) (fun j => by unfold mM; omega) (fun j => by unfold mM; omega) (fun j => by unfold mM; omega) (by unfold mM; omega)
theorem pll {s0 : St} (hP : okP P) (hq : ∀ k, ¬ mgo (mit P k s0) → (∀ i, i < k → mgo (mit P i s0)) → WFM P (mit P k s0) → Q (.inl none) (mit P k s0)) :
    ∀ (d : Nat) (u : Int) (k : Nat) (s1 : St) (a4 : Option AV), u + d = 402 → 0 ≤ u → s1 = mit P k s0 → (∀ i, i < k → mgo (mit P i s0)) → WFM P s1 → RN 5 s1 P → u + gI s1 46 6 ≤ 2 * gI s1 46 8 + 1 → wp t 63 23 [some (vR 46), some (vR 5), some (vI 401), some (vI u), a4] [] s1 Q
  | 0, u, k, s1, a4, hd, u0, he, hg, hW, hN, hu => by
    have h1 := hW.1
    have h2 := hW.2.1
    omega
  | d + 1, u, k, s1, a4, hd, u0, he, hg, hW, hN, hu => by
    have h1 := hW.1
    have h2 := hW.2.1
    have fin : ¬ mgo s1 → ∀ a2 a3 a4 : Option AV, wp t 63 120 [some (vR 46), some (vR 5), a2, a3, a4] [] s1 Q := fun hn a2 a3 a4 => by
      rw [x63_120]
      rw [he] at hn hW ⊢
      exact hq k hn hg hW
    rw [x63_23]
    refine ⟨⟨⟨by omega, by omega⟩, ⟨by omega, by omega⟩⟩, fun g1 => ?_, fun g1 => fin (fun k => by have := k.1; have := k.2; omega) _ _ _⟩
    rw [x63_28]
    refine ⟨⟨by omega, by omega⟩, fun g2 => ?_, fun g2 => fin (fun k => g2 k.1) _ _ _⟩
    rw [x63_35]
    refine ⟨⟨by omega, by omega⟩, fun g3 => ?_, fun g3 => fin (fun k => g3 k.2) _ _ _⟩
    have go : mgo s1 := ⟨g2, g3⟩
    have hs := hW.2.2.2.2.2.2.1 (gI s1 46 6 - 1) (by omega) (by omega)
    have hst := stt_rng hP.1 hs.1.1 hs.1.2
    have hss := stt_succ P hs.1.1 hs.1.2
    have ht := tot_rng hP.1
    have r51 : rdI s1 51 (gI s1 46 6 - 1) = gI s1 51 (gI s1 46 6 - 1) := rdI_in (n := 6) rfl (by omega) (by omega)
    have r50 : rdI s1 50 (gI s1 46 6 - 1) = gI s1 50 (gI s1 46 6 - 1) := rdI_in (n := 6) rfl (by omega) (by omega)
    have w51 : ∀ v, wrI s1 51 (gI s1 46 6 - 1) v = sI s1 51 (gI s1 46 6 - 1) v := fun v => wrI_in (n := 6) rfl (by omega) (by omega)
    have hWn := W_st hP hW go
    have hNn : RN 5 (mst P s1) P := RN_m hN fr_st
    have h46 := st_46 (P := P) (s := s1)
    have nxt : ∀ a4 : Option AV, wp t 63 23 [some (vR 46), some (vR 5), some (vI 401), some (vI (u + 1)), a4] [] (mst P s1) Q := fun a4 =>
      pll hP hq d (u + 1) (k + 1) (mst P s1) a4 (by omega) (by omega) (by rw [mit_succ, he]) (fun i hi => by
        by_cases q : i = k
        · rw [q, ← he]; exact go
        · exact hg i (by omega)) hWn hNn (by omega)
    simp only [x63_45, k96 (show lc 51 = 101 from rfl), r51, x63_58, k96 (show lc 50 = 101 from rfl), r50, x63_76, e89 hN hs.1.1 hs.1.2, x63_79, aft_l, aft_r, optL_s, optL_n, xgo_n, xgo_s, List.cons_append, List.nil_append, List.append_nil, true_and, and_true, Nat.sub_zero, Nat.zero_le, true_implies, false_implies, implies_true, not_true_eq_false, not_false_eq_true, true_or, or_true]
    refine ⟨⟨by omega, by omega⟩, ⟨by omega, by omega⟩, ⟨⟨by omega, by omega⟩, ⟨by omega, by omega⟩⟩, fun g4 => ?_, fun g4 => ?_⟩
    · have em : mst P s1 = mex P (gI s1 51 (gI s1 46 6 - 1)) (sI s1 51 (gI s1 46 6 - 1) (gI s1 51 (gI s1 46 6 - 1) + 1)) := if_pos g4
      have w1 : WFM P (sI s1 51 (gI s1 46 6 - 1) (gI s1 51 (gI s1 46 6 - 1) + 1)) := by
        have := WF_nx hW (i := gI s1 46 6 - 1) (v := gI s1 51 (gI s1 46 6 - 1) + 1) rfl (by omega)
        unfold WFM
        rw [gI_row, gI_rne (by decide), gI_rne (by decide), gI_rne (by decide), gI_rne (by decide), gI_rne (by decide)]
        exact this
      have hN1 : RN 5 (sI s1 51 (gI s1 46 6 - 1) (gI s1 51 (gI s1 46 6 - 1) + 1)) P := RN_m hN (fr_sI fr_refl (by unfold mM; omega))
      have hn1 : stt P (gI (sI s1 51 (gI s1 46 6 - 1) (gI s1 51 (gI s1 46 6 - 1) + 1)) 50 (gI (sI s1 51 (gI s1 46 6 - 1) (gI s1 51 (gI s1 46 6 - 1) + 1)) 46 6 - 1)) < gI (sI s1 51 (gI s1 46 6 - 1) (gI s1 51 (gI s1 46 6 - 1) + 1)) 51 (gI (sI s1 51 (gI s1 46 6 - 1) (gI s1 51 (gI s1 46 6 - 1) + 1)) 46 6 - 1) := by
        rw [gI_rne (by decide), gI_rne (by decide), gI_sI, if_pos ⟨rfl, rfl⟩]; omega
      simp only [x63_82, k98 (show lc 51 = 101 from rfl), w51, x63_99, e67 hP hN1 w1 go (show 0 ≤ gI s1 51 (gI s1 46 6 - 1) by omega) (show gI s1 51 (gI s1 46 6 - 1) < tot P by omega) hn1, x63_106, x63_114, aft_l, aft_r, optL_s, optL_n, xgo_n, xgo_s, List.cons_append, List.nil_append, List.append_nil, true_and, and_true, Nat.sub_zero, Nat.zero_le, true_implies, false_implies, implies_true, not_true_eq_false, not_false_eq_true, true_or, or_true]
      rw [← em]
      exact ⟨⟨by omega, by omega⟩, nxt _⟩
    · have em : mst P s1 = mcl P s1 := if_neg g4
      simp only [x63_109, e66 hP hN hW g2, x63_114, aft_l, aft_r, optL_s, optL_n, xgo_n, xgo_s, List.cons_append, List.nil_append, List.append_nil, true_and, and_true, Nat.sub_zero, Nat.zero_le, true_implies, false_implies, implies_true, not_true_eq_false, not_false_eq_true, true_or, or_true]
      rw [← em]
      exact nxt _
/-- Machine.clear -/
def mcc (s : St) : St := upL (sI (sI (sI (sI (sI s 46 6 0) 46 7 1) 46 8 0) 46 9 0) 46 10 0) 49 (fun j => if 0 ≤ j ∧ j < (ln 49 : Int) then BitVec.ofNat 64 0 else gL s 49 j)
theorem e62 : Call t 62 [vR 46] σ Q ↔ Q (.inl none) (mcc σ) := Call_iff (fun Q hq => by
  rw [x62_0]
  refine k100 (show lc 49 = 102 from rfl) ?_
  simp only [x62_33, aft_l, aft_r, optL_s, optL_n, xgo_n, xgo_s, List.cons_append, List.nil_append, List.append_nil, true_and, and_true, Nat.sub_zero, Nat.zero_le, true_implies, false_implies, implies_true, not_true_eq_false, not_false_eq_true, true_or, or_true]
  exact hq)
theorem fr_cc {s : St} : fr mM s (mcc s) := fr_upL (fr_sI (fr_sI (fr_sI (fr_sI (fr_sI fr_refl (by unfold mM; omega)) (by unfold mM; omega)) (by unfold mM; omega)) (by unfold mM; omega)) (by unfold mM; omega)) (fun j => by unfold mM; omega)
/-- Machine.play -/
theorem c63 (hP : okP P) (hN : RN 5 σ P) (hq : ∀ k, ¬ mgo (mit P k (ms0 P σ)) → (∀ i, i < k → mgo (mit P i (ms0 P σ))) → WFM P (mit P k (ms0 P σ)) → Q (.inl none) (mit P k (ms0 P σ))) : Call t 63 [vR 46, vR 5] σ Q := by
  obtain ⟨h6, h7, h8, h9, h10⟩ := mcr_46 (s := σ)
  have e1 : mtk 0 4 (mcc σ) = mcr σ := rfl
  have c7 : gI (mcc σ) 46 7 = 1 := rfl
  have e64' := fun Q => e64 (t := 0) (Q := Q) (σ := mcc σ) (c := 0) (n := 4) (by omega) (by rw [c7]; omega)
  rw [c7, e1] at e64'
  have hN1 : RN 5 (mcr σ) P := RN_m hN (fr_trans fr_cc fr_tk)
  have e65' := fun Q => e65 (t := 0) (Q := Q) (σ := mcr σ) hP.1 hN1 (f := 0) (by omega) (by omega) (by omega) (by omega) (by omega)
  have hW := W_0 hP.1 σ
  simp only [x63_0, e62, x63_4, e64', x63_10, e65', x63_17, aft_l, aft_r, optL_s, optL_n, xgo_n, xgo_s, List.cons_append, List.nil_append, List.append_nil, true_and, and_true, Nat.sub_zero, Nat.zero_le, true_implies, false_implies, implies_true, not_true_eq_false, not_false_eq_true, true_or, or_true]
  refine pll (s0 := ms0 P σ) hP hq 402 0 0 (ms0 P σ) _ (by omega) (by omega) rfl (fun i hi => absurd hi (Nat.not_lt_zero i)) hW (RN_m hN1 fr_op) ?_
  unfold ms0
  rw [mop_46, mop_46, if_pos rfl, if_neg (by decide), if_neg (by decide), h6, h8]
  decide
end CM2

