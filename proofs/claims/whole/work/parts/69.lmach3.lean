/-! the law's machine: the run -/
section LM3
variable {t : Nat} {σ s : St} {Q : Res → St → Prop} {P : Pg} {φ : Int → Int}
/-- closes -/
theorem LR_cl (hP : okP P) (hLP : LPr σ P) (h : LR P φ s σ) (hB : LBd σ) (hW : WFM P s) (hD : 0 < gI s 46 6) (hq : ∀ σ', LE P (mcl P s) σ' → gI σ' 53 37 = gI σ 53 37 → fr lmM σ σ' → Q (.inl none) σ') : Call t 266 [vR 53] σ Q := by
  obtain ⟨w1, w2, w3, w4, w5, w6, w7, w8⟩ := hW
  have h1 := h.1
  have hG := h.2.2.2.2.2.1
  have top := hG (gI s 46 6 - 1) (by omega) (by omega)
  have wtop := w7 (gI s 46 6 - 1) (by omega) (by omega)
  have hdt : dmL σ (gI σ 74 (gI s 46 6 - 1) + 1) := Or.inr (Or.inl ⟨by omega, by omega⟩)
  have hpv := LR_pv h hdt
  rw [top.2.2 1 (by omega) (by omega)] at hpv
  have hst : LR P φ (sI s 46 6 (gI s 46 6 - 1)) (sI σ 53 36 (gI s 46 6 - 1)) := by
    refine LR_cnt h ?_ ?_ ?_ ?_ ?_ (fun c hc => gI_rne hc) rfl (fun c hc => gI_rne hc) rfl
    · simp only [gI_sI, gI_sI, gL_sI, gD_sI, gI_sL, gL_sL, gD_sL, gI_sD, gL_sD, gD_sD, Nat.reduceEqDiff, Int.reduceEq, reduceCtorEq, false_and, and_false, and_self, if_true, if_false, not_false_eq_true, not_true_eq_false]; exact ⟨⟨trivial, h1.1.2⟩, h1.2⟩
    · simp only [gI_sI, gI_sI, gL_sI, gD_sI, gI_sL, gL_sL, gD_sL, gI_sD, gL_sD, gD_sD, Nat.reduceEqDiff, Int.reduceEq, reduceCtorEq, false_and, and_false, and_self, if_true, if_false, not_false_eq_true, not_true_eq_false]; omega
    · simp only [gI_sI, gI_sI, gL_sI, gD_sI, gI_sL, gL_sL, gD_sL, gI_sD, gL_sD, gD_sD, Nat.reduceEqDiff, Int.reduceEq, reduceCtorEq, false_and, and_false, and_self, if_true, if_false, not_false_eq_true, not_true_eq_false]
    · simp only [gI_sI, gI_sI, gL_sI, gD_sI, gI_sL, gL_sL, gD_sL, gI_sD, gL_sD, gD_sD, Nat.reduceEqDiff, Int.reduceEq, reduceCtorEq, false_and, and_false, and_self, if_true, if_false, not_false_eq_true, not_true_eq_false]
    · simp only [gI_sI, gI_sI, gL_sI, gD_sI, gI_sL, gL_sL, gD_sL, gI_sD, gL_sD, gD_sD, Nat.reduceEqDiff, Int.reduceEq, reduceCtorEq, false_and, and_false, and_self, if_true, if_false, not_false_eq_true, not_true_eq_false]
  have hB1 : LBd (sI σ 53 36 (gI s 46 6 - 1)) := LB_fr hB (by simp only [gI_sI, gI_sI, gL_sI, gD_sI, gI_sL, gL_sL, gD_sL, gI_sD, gL_sD, gD_sD, Nat.reduceEqDiff, Int.reduceEq, reduceCtorEq, false_and, and_false, and_self, if_true, if_false, not_false_eq_true, not_true_eq_false]) (by simp only [gI_sI, gI_sI, gL_sI, gD_sI, gI_sL, gL_sL, gD_sL, gI_sD, gL_sD, gD_sD, Nat.reduceEqDiff, Int.reduceEq, reduceCtorEq, false_and, and_false, and_self, if_true, if_false, not_false_eq_true, not_true_eq_false])
  have ed : dmL (sI σ 53 36 (gI s 46 6 - 1)) = dmL σ := dm_eq (by simp only [gI_sI, gI_sI, gL_sI, gD_sI, gI_sL, gL_sL, gD_sL, gI_sD, gL_sD, gD_sD, Nat.reduceEqDiff, Int.reduceEq, reduceCtorEq, false_and, and_false, and_self, if_true, if_false, not_false_eq_true, not_true_eq_false]) (by simp only [gI_sI, gI_sI, gL_sI, gD_sI, gI_sL, gL_sL, gD_sL, gI_sD, gL_sD, gD_sD, Nat.reduceEqDiff, Int.reduceEq, reduceCtorEq, false_and, and_false, and_self, if_true, if_false, not_false_eq_true, not_true_eq_false])
  have e36 : gI (sI σ 53 36 (gI s 46 6 - 1)) 53 36 = gI s 46 6 - 1 := by rw [gI_sI, if_pos ⟨rfl, rfl⟩]
  have e37 : gI (sI σ 53 36 (gI s 46 6 - 1)) 53 37 = gI σ 53 37 := by simp only [gI_sI, gI_sI, gL_sI, gD_sI, gI_sL, gL_sL, gD_sL, gI_sD, gL_sD, gD_sD, Nat.reduceEqDiff, Int.reduceEq, reduceCtorEq, false_and, and_false, and_self, if_true, if_false, not_false_eq_true, not_true_eq_false]
  have hf1 : fr lmM σ (sI σ 53 36 (gI s 46 6 - 1)) := fr_sI fr_refl (by unfold lmM; omega)
  have e6 : gI (sI s 46 6 (gI s 46 6 - 1)) 46 6 = gI s 46 6 - 1 := by rw [gI_sI, if_pos ⟨rfl, rfl⟩]
  have dr := dm_rng hB hdt
  unfold mcl at hq
  rw [x266_0, h1.1.1, e36]
  refine ⟨by omega, dr, ⟨by omega, by omega⟩, fun z => ?_, fun z => ?_⟩
  · rw [if_neg (by omega)] at hq
    rw [x266_36]; exact hq _ (LE_of hst hB1) e37 hf1
  · rw [if_pos (by omega)] at hq
    have wpr := w7 (gI s 46 6 - 1 - 1) (by omega) (by omega)
    have wst := w8 (gI s 46 6 - 1 - 1) (by omega) (by omega)
    have pre := hG (gI s 46 6 - 1 - 1) (by omega) (by omega)
    have hss := stt_succ P wpr.1.1 wpr.1.2
    have hsr := stt_rng hP.1 wpr.1.1 wpr.1.2
    have hpl := plc_of hP.1 wpr.1.1 wpr.1.2 (k := gI s 51 (gI s 46 6 - 1 - 1) - 1 - stt P (gI s 50 (gI s 46 6 - 1 - 1))) (by omega) (by omega)
    rw [show stt P (gI s 50 (gI s 46 6 - 1 - 1)) + (gI s 51 (gI s 46 6 - 1 - 1) - 1 - stt P (gI s 50 (gI s 46 6 - 1 - 1))) = gI s 51 (gI s 46 6 - 1 - 1) - 1 by omega] at hpl
    have n0 : 0 ≤ gI s 51 (gI s 46 6 - 1 - 1) - 1 := by omega
    have n1 : gI s 51 (gI s 46 6 - 1 - 1) - 1 < tot P := by omega
    have hpr := plc_rng hP.1 n0 n1
    obtain ⟨hk, ⟨hv, hw, hn⟩, h5⟩ := hP.2.1 _ n0 n1
    have e72 : gI (sI σ 53 36 (gI s 46 6 - 1)) 72 = gI σ 72 := gI_rne (by decide)
    have e73 : gI (sI σ 53 36 (gI s 46 6 - 1)) 73 = gI σ 73 := gI_rne (by decide)
    have e55 : gI (sI σ 53 36 (gI s 46 6 - 1)) 55 = gI σ 55 := gI_rne (by decide)
    have ep : 12 * gI s 50 (gI s 46 6 - 1 - 1) + (gI s 51 (gI s 46 6 - 1 - 1) - stt P (gI s 50 (gI s 46 6 - 1 - 1))) - 1 = plc P (gI s 51 (gI s 46 6 - 1 - 1) - 1) := by rw [hpl]; omega
    have hv47 : gI s 47 (madr (4 + 4 * gI s 50 (gI s 46 6 - 1) + 1) s) = gI s 47 (gI s 52 (gI s 46 6 - 1) + 1) := by
      unfold madr
      rw [if_neg (by omega), show (4 + 4 * gI s 50 (gI s 46 6 - 1) + 1 - 4) % 4 = 1 by omega]
    rw [hv47] at hq
    rw [x266_37, e36, e72, e73, e55, pre.1.1, pre.1.2, ep, LP_vv hLP hP.1 n0 n1]
    refine ⟨by omega, by omega, by omega, LR_at hst hv.1 hv.2 (by rw [e6]; omega) (fun a da ea => ?_)⟩
    simp only [x266_77, aft_l, aft_r, optL_s, optL_n, xgo_n, xgo_s, List.cons_append, List.nil_append, List.append_nil, true_and, and_true, Nat.sub_zero, Nat.zero_le, true_implies, false_implies, implies_true, not_true_eq_false, not_false_eq_true, true_or, or_true]
    refine LR_as hst hB1 da ea (by rw [pv_eq ed]; exact hpv) (fun σ' k1 k2 k3 => ?_)
    simp only [x266_81, aft_l, aft_r, optL_s, optL_n, xgo_n, xgo_s, List.cons_append, List.nil_append, List.append_nil, true_and, and_true, Nat.sub_zero, Nat.zero_le, true_implies, false_implies, implies_true, not_true_eq_false, not_false_eq_true, true_or, or_true]
    exact hq σ' k1 (k2.trans e37) (fr_trans hf1 k3)
theorem fgl {σ0 : St} (hq : ∀ σ', (∀ a, 0 ≤ a → a < 44 → gL σ' 75 a = BitVec.ofNat 64 0) → gI σ' 53 39 = 0 → gI σ' 53 38 = 0 → fr (fun c j => c = 75 ∨ (c = 53 ∧ (j = 38 ∨ j = 39))) σ0 σ' → Q (.inl none) σ') :
    ∀ (d : Nat) (i : Int) (σ1 : St), 0 ≤ i → i + d = 44 → (∀ a, 0 ≤ a → a < i → gL σ1 75 a = BitVec.ofNat 64 0) → fr (fun c j => c = 75 ∨ (c = 53 ∧ (j = 38 ∨ j = 39))) σ0 σ1 → wp t 259 2 [some (vR 53), some (vI i)] [] σ1 Q
  | 0, i, σ1, i0, hd, g1, g2 => by
    rw [x259_2]
    refine ⟨⟨by omega, by omega⟩, fun a => by omega, fun _ => ?_⟩
    rw [x259_21]
    exact hq _ (fun a a0 a1 => g1 a a0 (by omega)) (by simp only [gI_sI, gI_sI, gL_sI, gD_sI, gI_sL, gL_sL, gD_sL, gI_sD, gL_sD, gD_sD, Nat.reduceEqDiff, Int.reduceEq, reduceCtorEq, false_and, and_false, and_self, if_true, if_false, not_false_eq_true, not_true_eq_false]) (by simp only [gI_sI, gI_sI, gL_sI, gD_sI, gI_sL, gL_sL, gD_sL, gI_sD, gL_sD, gD_sD, Nat.reduceEqDiff, Int.reduceEq, reduceCtorEq, false_and, and_false, and_self, if_true, if_false, not_false_eq_true, not_true_eq_false]) (fr_sI (fr_sI g2 (Or.inr ⟨rfl, Or.inr rfl⟩)) (Or.inr ⟨rfl, Or.inl rfl⟩))
  | d + 1, i, σ1, i0, hd, g1, g2 => by
    rw [x259_2]
    refine ⟨⟨by omega, by omega⟩, fun _ => ?_, fun a => by omega⟩
    rw [x259_8]
    refine ⟨by omega, fgl hq d (i + 1) _ (by omega) (by omega) (fun a a0 a1 => ?_) (fr_sL g2 (Or.inl rfl))⟩
    rw [gL_sL]
    by_cases q : a = i
    · rw [if_pos ⟨rfl, q⟩]
    · rw [if_neg (fun k => q k.2)]; exact g1 a a0 (by omega)
/-- forgets -/
theorem c259 (hq : ∀ σ', (∀ a, 0 ≤ a → a < 44 → gL σ' 75 a = BitVec.ofNat 64 0) → gI σ' 53 39 = 0 → gI σ' 53 38 = 0 → fr (fun c j => c = 75 ∨ (c = 53 ∧ (j = 38 ∨ j = 39))) σ σ' → Q (.inl none) σ') : Call t 259 [vR 53] σ Q := by
  rw [x259_0]
  exact fgl hq 44 0 σ (by omega) (by omega) (fun a a0 a1 => by omega) fr_refl
theorem LR_nx (h : LR P φ s σ) {D n X : Int} (hD : gI s 46 6 = D) (hn : gI s 51 (D - 1) = n) (hX : gI s 46 8 = X) : LR P φ (sI (sI s 51 (D - 1) (n + 1)) 46 8 (X + 1)) (sI (sI σ 73 (D - 1) (n - stt P (gI s 50 (D - 1)) + 1)) 53 40 (X + 1)) := by
  obtain ⟨h1, h2, h3, h4, h5, h6, h7⟩ := h
  have ed : dmL (sI (sI σ 73 (D - 1) (n - stt P (gI s 50 (D - 1)) + 1)) 53 40 (X + 1)) = dmL σ := dm_eq (by simp only [gI_sI, gI_sI, gL_sI, gD_sI, gI_sL, gL_sL, gD_sL, gI_sD, gL_sD, gD_sD, Nat.reduceEqDiff, Int.reduceEq, reduceCtorEq, false_and, and_false, and_self, if_true, if_false, not_false_eq_true, not_true_eq_false]) (by simp only [gI_sI, gI_sI, gL_sI, gD_sI, gI_sL, gL_sL, gD_sL, gI_sD, gL_sD, gD_sD, Nat.reduceEqDiff, Int.reduceEq, reduceCtorEq, false_and, and_false, and_self, if_true, if_false, not_false_eq_true, not_true_eq_false])
  have ep := pv_eq (φ := φ) ed
  have c6 : gI (sI (sI s 51 (D - 1) (n + 1)) 46 8 (X + 1)) 46 6 = gI s 46 6 := by simp only [gI_sI, gI_sI, gL_sI, gD_sI, gI_sL, gL_sL, gD_sL, gI_sD, gL_sD, gD_sD, Nat.reduceEqDiff, Int.reduceEq, reduceCtorEq, false_and, and_false, and_self, if_true, if_false, not_false_eq_true, not_true_eq_false]
  unfold LR
  rw [ed, ep, c6]
  refine ⟨?_, ?_, h3, ?_, h5, fun i i0 i1 => ?_, h7⟩
  · simp only [gI_sI, gI_sI, gL_sI, gD_sI, gI_sL, gL_sL, gD_sL, gI_sD, gL_sD, gD_sD, Nat.reduceEqDiff, Int.reduceEq, reduceCtorEq, false_and, and_false, and_self, if_true, if_false, not_false_eq_true, not_true_eq_false]
    exact ⟨⟨h1.1.1, trivial⟩, h1.2⟩
  · rw [gI_rne (d := 71) (by decide), gI_rne (d := 71) (by decide), gI_rne (d := 70) (by decide), gI_rne (d := 70) (by decide), gI_rne (d := 48) (by decide), gI_rne (d := 48) (by decide), gI_rne (d := 47) (by decide), gI_rne (d := 47) (by decide), show gI (sI (sI s 51 (D - 1) (n + 1)) 46 8 (X + 1)) 46 7 = gI s 46 7 by simp only [gI_sI, gI_sI, gL_sI, gD_sI, gI_sL, gL_sL, gD_sL, gI_sD, gL_sD, gD_sD, Nat.reduceEqDiff, Int.reduceEq, reduceCtorEq, false_and, and_false, and_self, if_true, if_false, not_false_eq_true, not_true_eq_false]]
    exact h2
  · rw [gI_rne (d := 48) (by decide), gI_rne (d := 48) (by decide)]; exact h4
  · obtain ⟨⟨p1, p2⟩, p3, p4⟩ := h6 i i0 i1
    rw [gI_rne (d := 72) (by decide), gI_rne (d := 72) (by decide), gI_rne (d := 74) (by decide), gI_rne (d := 74) (by decide), gI_rne (d := 50) (by decide), gI_rne (d := 50) (by decide), gI_rne (d := 52) (by decide), gI_rne (d := 52) (by decide), gI_rne (d := 73) (by decide), gI_rne (d := 51) (by decide), gI_row, gI_row, show gI (sI (sI σ 73 (D - 1) (n - stt P (gI s 50 (D - 1)) + 1)) 53 40 (X + 1)) 53 37 = gI σ 53 37 by simp only [gI_sI, gI_sI, gL_sI, gD_sI, gI_sL, gL_sL, gD_sL, gI_sD, gL_sD, gD_sD, Nat.reduceEqDiff, Int.reduceEq, reduceCtorEq, false_and, and_false, and_self, if_true, if_false, not_false_eq_true, not_true_eq_false]]
    refine ⟨⟨p1, ?_⟩, p3, p4⟩
    show (if i = D - 1 then n - stt P (gI s 50 (D - 1)) + 1 else gI σ 73 i) = (if i = D - 1 then n + 1 else gI s 51 i) - stt P (gI s 50 i)
    by_cases q : i = D - 1
    · rw [if_pos q, if_pos q, q]; omega
    · rw [if_neg q, if_neg q]; exact p2
theorem rnl (hP : okP P) {k : Nat} {s0 : St} (hk : ¬ mgo (mit P k s0)) (hi : ∀ i, i < k → mgo (mit P i s0)) (hW : ∀ i, i ≤ k → WFM P (mit P i s0)) {σ0 : St}
    (hq : ∀ σ', LE P (mit P k s0) σ' → fr lmM σ0 σ' → Q (.inl (some (vI (gI (mit P k s0) 46 8)))) σ') :
    ∀ (d : Nat) (i : Nat) (σ1 : St) (a1 a2 : Option AV), i + d = k → LPr σ1 P → LE P (mit P i s0) σ1 → gI σ1 53 37 ≤ 1 + gI (mit P i s0) 46 8 → fr lmM σ0 σ1 → wp t 267 56 [some (vR 53), a1, a2] [] σ1 Q
  | 0, i, σ1, a1, a2, hd, hLP, ⟨⟨φ, h⟩, hB⟩, hF, hf => by
    have e : i = k := by omega
    subst e
    have w := hW i (Nat.le_refl _)
    have h1 := h.1
    have ex : wp t 267 162 [some (vR 53), a1, a2] [] σ1 Q := by
      rw [x267_162, h1.1.2]; exact hq σ1 ⟨⟨φ, h⟩, hB⟩ hf
    have w1 := w.1
    have w2 := w.2.1
    rw [x267_56, h1.1.1]
    refine ⟨⟨by omega, by omega⟩, fun a => ?_, fun _ => ex⟩
    rw [x267_63, h1.1.2]
    exact ⟨⟨by omega, by omega⟩, fun b => absurd ⟨a, b⟩ hk, fun _ => ex⟩
  | d + 1, i, σ1, a1, a2, hd, hLP, ⟨⟨φ, h⟩, hB⟩, hF, hf => by
    have hg := hi i (by omega)
    have w := hW i (by omega)
    have ih := fun σ' a1 a2 => rnl hP hk hi hW hq d (i + 1) σ' a1 a2 (by omega)
    rw [mit_succ] at ih
    generalize mit P i s0 = s at *
    have h1 := h.1
    have w' := w
    obtain ⟨w1, w2, w3, w4, w5, w6, w7, w8⟩ := w
    have wtop := w7 (gI s 46 6 - 1) (by have := hg.1; omega) (by omega)
    have top := h.2.2.2.2.2.1 (gI s 46 6 - 1) (by have := hg.1; omega) (by omega)
    have hg1 := hg.1
    have hg2 := hg.2
    have hss := stt_succ P wtop.1.1 wtop.1.2
    have hz := okZ_at hP.1 wtop.1.1 wtop.1.2
    have hsr := stt_rng hP.1 wtop.1.1 wtop.1.2
    rw [x267_56, h1.1.1]
    refine ⟨⟨by omega, by omega⟩, fun _ => ?_, fun b => absurd hg1 b⟩
    rw [x267_63, h1.1.2]
    refine ⟨⟨by omega, by omega⟩, fun _ => ?_, fun b => absurd hg2 b⟩
    rw [x267_73, h1.1.1, top.1.1, top.1.2, LP_z hLP wtop.1.1 wtop.1.2]
    unfold mst at ih
    refine ⟨by omega, by omega, by omega, ⟨⟨by omega, by omega⟩, ⟨by omega, by omega⟩⟩, fun a => ?_, fun a => ?_⟩
    · rw [if_neg (by omega)] at ih
      rw [x267_105]
      refine LR_cl hP hLP h hB w' hg1 (fun σ2 k1 k2 k3 => ?_)
      simp only [x267_109, aft_l, aft_r, optL_s, optL_n, xgo_n, xgo_s, List.cons_append, List.nil_append, List.append_nil, true_and, and_true, Nat.sub_zero, Nat.zero_le, true_implies, false_implies, implies_true, not_true_eq_false, not_false_eq_true, true_or, or_true]
      have m8 : gI (mcl P s) 46 8 = gI s 46 8 := by
        unfold mcl
        split
        · rw [mwr_ne (by decide)]; simp only [gI_sI, gI_sI, gL_sI, gD_sI, gI_sL, gL_sL, gD_sL, gI_sD, gL_sD, gD_sD, Nat.reduceEqDiff, Int.reduceEq, reduceCtorEq, false_and, and_false, and_self, if_true, if_false, not_false_eq_true, not_true_eq_false]
        · simp only [gI_sI, gI_sI, gL_sI, gD_sI, gI_sL, gL_sL, gD_sL, gI_sD, gL_sD, gD_sD, Nat.reduceEqDiff, Int.reduceEq, reduceCtorEq, false_and, and_false, and_self, if_true, if_false, not_false_eq_true, not_true_eq_false]
      exact ih σ2 _ _ (LP_fr hLP k3 (fun c j k => by unfold lmM at k; omega)) k1 (by rw [m8, k2]; exact hF) (fr_trans hf k3)
    · rw [if_pos (by omega)] at ih
      have n0 : 0 ≤ gI s 51 (gI s 46 6 - 1) := by omega
      have n1 : gI s 51 (gI s 46 6 - 1) < tot P := by omega
      have hpl := plc_of hP.1 wtop.1.1 wtop.1.2 (k := gI s 51 (gI s 46 6 - 1) - stt P (gI s 50 (gI s 46 6 - 1))) (by omega) (by omega)
      rw [show stt P (gI s 50 (gI s 46 6 - 1)) + (gI s 51 (gI s 46 6 - 1) - stt P (gI s 50 (gI s 46 6 - 1))) = gI s 51 (gI s 46 6 - 1) by omega] at hpl
      have hst := LR_nx h (D := gI s 46 6) rfl (n := gI s 51 (gI s 46 6 - 1)) rfl (X := gI s 46 8) rfl
      have f2 : fr lmM σ1 (sI (sI σ1 73 (gI s 46 6 - 1) (gI s 51 (gI s 46 6 - 1) - stt P (gI s 50 (gI s 46 6 - 1)) + 1)) 53 40 (gI s 46 8 + 1)) := fr_sI (fr_sI fr_refl (by unfold lmM; omega)) (by unfold lmM; omega)
      have e40 : gI (sI σ1 73 (gI s 46 6 - 1) (gI s 51 (gI s 46 6 - 1) - stt P (gI s 50 (gI s 46 6 - 1)) + 1)) 53 40 = gI s 46 8 := by rw [gI_rne (by decide)]; exact h1.1.2
      have e37 : gI (sI (sI σ1 73 (gI s 46 6 - 1) (gI s 51 (gI s 46 6 - 1) - stt P (gI s 50 (gI s 46 6 - 1)) + 1)) 53 40 (gI s 46 8 + 1)) 53 37 = gI σ1 53 37 := by simp only [gI_sI, gI_sI, gL_sI, gD_sI, gI_sL, gL_sL, gD_sL, gI_sD, gL_sD, gD_sD, Nat.reduceEqDiff, Int.reduceEq, reduceCtorEq, false_and, and_false, and_self, if_true, if_false, not_false_eq_true, not_true_eq_false]
      have e38 : gI (sI (sI σ1 73 (gI s 46 6 - 1) (gI s 51 (gI s 46 6 - 1) - stt P (gI s 50 (gI s 46 6 - 1)) + 1)) 53 40 (gI s 46 8 + 1)) 53 38 = gI s 46 10 := by
        rw [← h1.2.2]; simp only [gI_sI, gI_sI, gL_sI, gD_sI, gI_sL, gL_sL, gD_sL, gI_sD, gL_sD, gD_sD, Nat.reduceEqDiff, Int.reduceEq, reduceCtorEq, false_and, and_false, and_self, if_true, if_false, not_false_eq_true, not_true_eq_false]
      have s6 : gI (sI (sI s 51 (gI s 46 6 - 1) (gI s 51 (gI s 46 6 - 1) + 1)) 46 8 (gI s 46 8 + 1)) 46 6 = gI s 46 6 := by simp only [gI_sI, gI_sI, gL_sI, gD_sI, gI_sL, gL_sL, gD_sL, gI_sD, gL_sD, gD_sD, Nat.reduceEqDiff, Int.reduceEq, reduceCtorEq, false_and, and_false, and_self, if_true, if_false, not_false_eq_true, not_true_eq_false]
      have s7 : gI (sI (sI s 51 (gI s 46 6 - 1) (gI s 51 (gI s 46 6 - 1) + 1)) 46 8 (gI s 46 8 + 1)) 46 7 = gI s 46 7 := by simp only [gI_sI, gI_sI, gL_sI, gD_sI, gI_sL, gL_sL, gD_sL, gI_sD, gL_sD, gD_sD, Nat.reduceEqDiff, Int.reduceEq, reduceCtorEq, false_and, and_false, and_self, if_true, if_false, not_false_eq_true, not_true_eq_false]
      have s8 : gI (sI (sI s 51 (gI s 46 6 - 1) (gI s 51 (gI s 46 6 - 1) + 1)) 46 8 (gI s 46 8 + 1)) 46 8 = gI s 46 8 + 1 := by simp only [gI_sI, gI_sI, gL_sI, gD_sI, gI_sL, gL_sL, gD_sL, gI_sD, gL_sD, gD_sD, Nat.reduceEqDiff, Int.reduceEq, reduceCtorEq, false_and, and_false, and_self, if_true, if_false, not_false_eq_true, not_true_eq_false]
      rw [x267_112, h1.1.1, top.1.2, e40, ← hpl]
      refine ⟨by omega, by omega, by omega, LR_ex hP (LP_fr hLP f2 (fun c j k => by unfold lmM at k; omega)) hst (LB_fr hB e37 (by rw [e38, h1.2.2])) n0 n1 (by rw [s6]; omega) (by rw [s8]; omega) (by rw [s7]; omega) (by rw [e37]; omega) (by rw [e38]; omega) (fun σ2 k1 k2 k3 => ?_)⟩
      simp only [x267_159, aft_l, aft_r, optL_s, optL_n, xgo_n, xgo_s, List.cons_append, List.nil_append, List.append_nil, true_and, and_true, Nat.sub_zero, Nat.zero_le, true_implies, false_implies, implies_true, not_true_eq_false, not_false_eq_true, true_or, or_true]
      have em : mex1 P (gI s 51 (gI s 46 6 - 1)) (madr (vv P (gI s 51 (gI s 46 6 - 1))) (sI (sI s 51 (gI s 46 6 - 1) (gI s 51 (gI s 46 6 - 1) + 1)) 46 8 (gI s 46 8 + 1))) (madr (ww P (gI s 51 (gI s 46 6 - 1))) (sI (sI s 51 (gI s 46 6 - 1) (gI s 51 (gI s 46 6 - 1) + 1)) 46 8 (gI s 46 8 + 1))) (sI (sI s 51 (gI s 46 6 - 1) (gI s 51 (gI s 46 6 - 1) + 1)) 46 8 (gI s 46 8 + 1)) = mex P (gI s 51 (gI s 46 6 - 1)) (sI s 51 (gI s 46 6 - 1) (gI s 51 (gI s 46 6 - 1) + 1)) := by
        unfold mex
        rw [madr_46 (by omega), madr_46 (by omega), gI_rne (d := 46) (by decide)]
      rw [em] at k1
      have m8 : gI (mex P (gI s 51 (gI s 46 6 - 1)) (sI s 51 (gI s 46 6 - 1) (gI s 51 (gI s 46 6 - 1) + 1))) 46 8 = gI s 46 8 + 1 := by
        rw [← em, ex1_46.1, s8]
      refine ih σ2 _ _ (LP_fr hLP (fr_trans f2 k3) (fun c j k => by unfold lmM at k; omega)) k1 ?_ (fr_trans hf (fr_trans f2 k3))
      rw [m8]; omega
end LM3
