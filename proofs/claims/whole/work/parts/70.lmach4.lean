/-! the law's machine: its start -/
section LM4
variable {t : Nat} {σ s : St} {Q : Res → St → Prop} {P : Pg}
theorem LR_0 {σ1 : St} (h36 : gI σ1 53 36 = 0) (h37 : gI σ1 53 37 = 0) (h38 : gI σ1 53 38 = 0) (h39 : gI σ1 53 39 = 0) (h40 : gI σ1 53 40 = 0) (hm : ∀ a, 0 ≤ a → a < 4 → gI σ1 70 a = 0 ∧ gI σ1 71 a = a) (hs : ∀ a, 0 ≤ a → a < 44 → gL σ1 75 a = BitVec.ofNat 64 0) : LR P (fun a => 1 + a) (mcr s) σ1 := by
  obtain ⟨m6, m7, m8, m9, m10⟩ := mcr_46 (s := s)
  have dm : ∀ a, dmL σ1 a → 0 ≤ a ∧ a < 4 := fun a ha => by unfold dmL at ha; rw [h37, h38] at ha; omega
  have e47 : ∀ a, 0 ≤ a → a < 4 → gI (mcr s) 47 (1 + a) = 0 := fun a a0 a1 => by
    unfold mcr
    rw [mtk_47]
    show (if (1 : Int) ≤ 1 + a ∧ 1 + a < 1 + 4 then (0 : Int) else _) = 0
    rw [if_pos (by omega)]
  have e48 : ∀ a, 0 ≤ a → a < 4 → gI (mcr s) 48 (1 + a) = a := fun a a0 a1 => by
    unfold mcr
    rw [mtk_48]
    show (if (1 : Int) ≤ 1 + a ∧ 1 + a < 1 + 4 then (0 : Int) + (1 + a - 1) else _) = a
    rw [if_pos (by omega)]; omega
  refine ⟨⟨⟨h36.trans m6.symm, h40.trans m8.symm⟩, h39.trans m9.symm, h38.trans m10.symm⟩, fun a ha => ?_, fun a b _ _ e => by have : 1 + a = 1 + b := e; omega, fun a k ha c1 => ?_, fun j _ _ => rfl, fun i i0 i1 => by omega, fun a a0 a1 => ?_⟩
  · have k := dm a ha
    show (1 ≤ 1 + a ∧ 1 + a < gI (mcr s) 46 7) ∧ ((gI σ1 71 a = gI (mcr s) 48 (1 + a) ∧ (0 ≤ gI σ1 71 a ∧ gI σ1 71 a < 44)) ∧ pvL _ σ1 (gI σ1 70 a) (gI (mcr s) 47 (1 + a)))
    rw [m7, (hm a k.1 k.2).1, (hm a k.1 k.2).2, e47 a k.1 k.2, e48 a k.1 k.2]
    exact ⟨⟨by omega, by omega⟩, ⟨rfl, by omega⟩, Or.inl ⟨rfl, rfl⟩⟩
  · have k' := dm a ha
    have c1 : 20 ≤ gI (mcr s) 48 (1 + a) := c1
    rw [e48 a k'.1 k'.2] at c1
    omega
  · rw [hs a a0 a1]
    show _ = (if 0 ≤ a ∧ a < (44 : Int) then BitVec.ofNat 64 0 else gL s 49 a)
    rw [if_pos ⟨a0, a1⟩]
theorem gll {σ0 : St} (hq : ∀ σ' a1, (∀ a, 0 ≤ a → a < 4 → gI σ' 70 a = 0 ∧ gI σ' 71 a = a) → fr (fun c _ => c = 70 ∨ c = 71) σ0 σ' → wp t 267 36 [some (vR 53), a1, none] [] σ' Q) :
    ∀ (d : Nat) (i : Int) (σ1 : St), 0 ≤ i → i + d = 4 → (∀ a, 0 ≤ a → a < i → gI σ1 70 a = 0 ∧ gI σ1 71 a = a) → fr (fun c _ => c = 70 ∨ c = 71) σ0 σ1 → wp t 267 11 [some (vR 53), some (vI i), none] [] σ1 Q
  | 0, i, σ1, i0, hd, g1, g2 => by
    rw [x267_11]
    exact ⟨⟨by omega, by omega⟩, fun a => by omega, fun _ => hq σ1 _ (fun a a0 a1 => g1 a a0 (by omega)) g2⟩
  | d + 1, i, σ1, i0, hd, g1, g2 => by
    rw [x267_11]
    refine ⟨⟨by omega, by omega⟩, fun _ => ?_, fun a => by omega⟩
    rw [x267_16]
    refine ⟨by omega, by omega, gll hq d (i + 1) _ (by omega) (by omega) (fun a a0 a1 => ?_) (fr_sI (fr_sI g2 (Or.inl rfl)) (Or.inr rfl))⟩
    rw [gI_rne (by decide), gI_row, gI_row]
    show (if a = i then (0 : Int) else gI σ1 70 a) = 0 ∧ (if a = i then i else gI (sI σ1 70 i 0) 71 a) = a
    by_cases q : a = i
    · rw [if_pos q, if_pos q]; exact ⟨rfl, q.symm⟩
    · rw [if_neg q, if_neg q, gI_rne (by decide)]; exact g1 a a0 (by omega)
def lrM : Nat → Int → Prop := fun c j => lmM c j ∨ (c = 53 ∧ j = 0)
/-- run -/
theorem c267 (hP : okP P) (hLP : LPr σ P) {k : Nat} (hk : ¬ mgo (mit P k (ms0 P s))) (hi : ∀ i, i < k → mgo (mit P i (ms0 P s))) (hq : ∀ σ', LE P (mit P k (ms0 P s)) σ' → gI σ' 53 0 = 0 → fr lrM σ σ' → Q (.inl (some (vI (gI (mit P k (ms0 P s)) 46 8)))) σ') : Call t 267 [vR 53] σ Q := by
  have hW : ∀ i, i ≤ k → WFM P (mit P i (ms0 P s)) := fun i => by
    induction i with
    | zero => intro _; exact W_0 hP.1 s
    | succ i ih =>
      intro h
      rw [mit_succ]
      exact W_st hP (ih (by omega)) (hi i (by omega))
  rw [x267_0]
  refine c259 (fun σ1 a1 a2 a3 a4 => ?_)
  simp only [x267_9, aft_l, aft_r, optL_s, optL_n, xgo_n, xgo_s, List.cons_append, List.nil_append, List.append_nil, true_and, and_true, Nat.sub_zero, Nat.zero_le, true_implies, false_implies, implies_true, not_true_eq_false, not_false_eq_true, true_or, or_true]
  refine gll (σ0 := σ1) (fun σ2 b1 b2 b3 => ?_) 4 0 σ1 (by omega) (by omega) (fun a a0 a1 => by omega) fr_refl
  have f1 : fr lrM σ σ1 := fr_trans (fr_sI (v := 0) fr_refl (Or.inr ⟨rfl, rfl⟩)) (fr_mono a4 (fun c j h => by unfold lrM lmM; omega))
  have f2 : fr lrM σ (sI (sI (sI σ2 53 36 0) 53 37 0) 53 40 0) := fr_sI (fr_sI (fr_sI (fr_trans f1 (fr_mono b3 (fun c j h => by unfold lrM lmM; omega))) (by unfold lrM lmM; omega)) (by unfold lrM lmM; omega)) (by unfold lrM lmM; omega)
  have e38 : gI (sI (sI (sI σ2 53 36 0) 53 37 0) 53 40 0) 53 38 = 0 := by
    simp only [gI_sI, gI_sI, gL_sI, gD_sI, gI_sL, gL_sL, gD_sL, gI_sD, gL_sD, gD_sD, Nat.reduceEqDiff, Int.reduceEq, reduceCtorEq, false_and, and_false, and_self, if_true, if_false, not_false_eq_true, not_true_eq_false]
    exact (fr_I b3 _ _ (by omega)).trans a3
  have e39 : gI (sI (sI (sI σ2 53 36 0) 53 37 0) 53 40 0) 53 39 = 0 := by
    simp only [gI_sI, gI_sI, gL_sI, gD_sI, gI_sL, gL_sL, gD_sL, gI_sD, gL_sD, gD_sD, Nat.reduceEqDiff, Int.reduceEq, reduceCtorEq, false_and, and_false, and_self, if_true, if_false, not_false_eq_true, not_true_eq_false]
    exact (fr_I b3 _ _ (by omega)).trans a2
  have e37 : gI (sI (sI (sI σ2 53 36 0) 53 37 0) 53 40 0) 53 37 = 0 := by simp only [gI_sI, gI_sI, gL_sI, gD_sI, gI_sL, gL_sL, gD_sL, gI_sD, gL_sD, gD_sD, Nat.reduceEqDiff, Int.reduceEq, reduceCtorEq, false_and, and_false, and_self, if_true, if_false, not_false_eq_true, not_true_eq_false]
  have hL0 : LR P (fun a => 1 + a) (mcr s) (sI (sI (sI σ2 53 36 0) 53 37 0) 53 40 0) := LR_0 (by simp only [gI_sI, gI_sI, gL_sI, gD_sI, gI_sL, gL_sL, gD_sL, gI_sD, gL_sD, gD_sD, Nat.reduceEqDiff, Int.reduceEq, reduceCtorEq, false_and, and_false, and_self, if_true, if_false, not_false_eq_true, not_true_eq_false]) e37 e38 e39 (by simp only [gI_sI, gI_sI, gL_sI, gD_sI, gI_sL, gL_sL, gD_sL, gI_sD, gL_sD, gD_sD, Nat.reduceEqDiff, Int.reduceEq, reduceCtorEq, false_and, and_false, and_self, if_true, if_false, not_false_eq_true, not_true_eq_false]) (fun a a0 a1 => by
    rw [gI_rne (d := 70) (by decide), gI_rne (d := 70) (by decide), gI_rne (d := 70) (by decide), gI_rne (d := 71) (by decide), gI_rne (d := 71) (by decide), gI_rne (d := 71) (by decide)]
    exact b2 a a0 a1) (fun a a0 a1' => by
    show gL σ2 75 a = _
    rw [fr_L b3 75 a (by omega)]; exact a1 a a0 a1')
  have hB0 : LBd (sI (sI (sI σ2 53 36 0) 53 37 0) 53 40 0) := by unfold LBd; rw [e37, e38]; omega
  obtain ⟨m6, m7, m8, m9, m10⟩ := mcr_46 (s := s)
  rw [x267_36]
  refine LR_op hP hL0 hB0 (by rw [e37]; omega) (by rw [m7]; omega) (f := 0) (by omega) (by rw [m6]; omega) (fun σ3 g1 g2 g3 g4 g5 => ?_)
  simp only [aft_l, aft_r, optL_s, optL_n, xgo_n, xgo_s, List.cons_append, List.nil_append, List.append_nil, true_and, and_true, Nat.sub_zero, Nat.zero_le, true_implies, false_implies, implies_true, not_true_eq_false, not_false_eq_true, true_or, or_true]
  have hLE : LE P (mit P 0 (ms0 P s)) σ3 := ⟨⟨_, g1⟩, by unfold LBd; rw [g2, g3, e37, e38]; omega⟩
  have f3 : fr lrM σ σ3 := fr_trans f2 (fr_mono g5 (fun c j h => Or.inl h))
  have e30 : gI σ3 53 0 = 0 := by
    rw [fr_I g5 _ _ (by unfold lmM; omega)]
    simp only [gI_sI, gI_sI, gL_sI, gD_sI, gI_sL, gL_sL, gD_sL, gI_sD, gL_sD, gD_sD, Nat.reduceEqDiff, Int.reduceEq, reduceCtorEq, false_and, and_false, and_self, if_true, if_false, not_false_eq_true, not_true_eq_false]
    rw [fr_I b3 _ _ (by omega), fr_I a4 _ _ (by omega), gI_sI, if_pos ⟨rfl, rfl⟩]
  have m08 : gI (mit P 0 (ms0 P s)) 46 8 = 0 := by
    show gI (mop P 0 (mcr s)) 46 8 = 0
    rw [mop_46, if_neg (by omega), if_neg (by omega)]; exact m8
  exact rnl hP hk hi hW (σ0 := σ3) (fun σ' k1 k2 => hq σ' k1 ((fr_I k2 _ _ (by unfold lmM; omega)).trans e30) (fr_trans f3 (fr_mono k2 (fun c j h => Or.inl h)))) k 0 σ3 _ _ (by omega) (LP_fr hLP f3 (fun c j h => by unfold lrM lmM at h; omega)) hLE (by rw [m08, g2, e37]; omega) fr_refl
/-- observed -/
theorem c268 {v : Int} (hv : inR v) (h0 : ¬ (0 ≤ v ∧ v < 20) → Q (.inl (some (vL (BitVec.ofInt 64 0)))) (sI σ 53 0 1)) (h1 : (0 ≤ v ∧ v < 20) → Q (.inl (some (vL (gL σ 75 v)))) (sI σ 53 0 0)) : Call t 268 [vR 53, vI v] σ Q := by
  simp only [x268_0, x268_4, e180 hv, eq_true (b2i_in _), b2i_0, aft_l, aft_r, optL_s, optL_n, xgo_n, xgo_s, List.cons_append, List.nil_append, List.append_nil, true_and, and_true, Nat.sub_zero, Nat.zero_le, true_implies, false_implies, implies_true, not_true_eq_false, not_false_eq_true, true_or, or_true]
  by_cases q : 0 ≤ v ∧ v < 20
  · rw [dcl_t q]
    refine ⟨fun a => (by cases a), fun _ => ?_⟩
    rw [x268_14]
    exact ⟨by omega, h1 q⟩
  · rw [dcl_f q]
    refine ⟨fun _ => ?_, fun a => absurd rfl a⟩
    simp only [x268_7, x268_12, e175, (show inR (0 : Int) = True from eq_true ⟨by decide, by decide⟩), aft_l, aft_r, optL_s, optL_n, xgo_n, xgo_s, List.cons_append, List.nil_append, List.append_nil, true_and, and_true, Nat.sub_zero, Nat.zero_le, true_implies, false_implies, implies_true, not_true_eq_false, not_false_eq_true, true_or, or_true]
    exact h0 q
/-- fieldObserved -/
theorem c269 (hLP : LPr σ P) (hP : okP P) {b f : Int} (hb : inR b) (hf : inR f) (h0 : ¬ ((0 ≤ b ∧ b < mny P 4 (-1)) ∧ (0 ≤ f ∧ f < 3)) → Q (.inl (some (vL (BitVec.ofInt 64 0)))) (sI σ 53 0 1)) (h1 : ((0 ≤ b ∧ b < mny P 4 (-1)) ∧ (0 ≤ f ∧ f < 3)) → Q (.inl (some (vL (gL σ 75 (20 + 3 * b + f))))) (sI σ 53 0 0)) : Call t 269 [vR 53, vI b, vI f] σ Q := by
  have hm := m8_rng hP
  simp only [x269_0, x269_6, e230 hLP hP hb hf, eq_true (b2i_in _), b2i_0, aft_l, aft_r, optL_s, optL_n, xgo_n, xgo_s, List.cons_append, List.nil_append, List.append_nil, true_and, and_true, Nat.sub_zero, Nat.zero_le, true_implies, false_implies, implies_true, not_true_eq_false, not_false_eq_true, true_or, or_true]
  by_cases q : (0 ≤ b ∧ b < mny P 4 (-1)) ∧ (0 ≤ f ∧ f < 3)
  · rw [dcl_t q]
    refine ⟨fun a => (by cases a), fun _ => ?_⟩
    rw [x269_16]
    exact ⟨by omega, h1 q⟩
  · rw [dcl_f q]
    refine ⟨fun _ => ?_, fun a => absurd rfl a⟩
    simp only [x269_9, x269_14, e175, (show inR (0 : Int) = True from eq_true ⟨by decide, by decide⟩), aft_l, aft_r, optL_s, optL_n, xgo_n, xgo_s, List.cons_append, List.nil_append, List.append_nil, true_and, and_true, Nat.sub_zero, Nat.zero_le, true_implies, false_implies, implies_true, not_true_eq_false, not_false_eq_true, true_or, or_true]
    exact h0 q
theorem c270 (hq : Q (.inl (some (vI (gI σ 53 39)))) (sI σ 53 0 0)) : Call t 270 [vR 53] σ Q := by
  rw [x270_0, gI_sI, if_neg (by omega)]; exact hq
theorem c271 (hq : Q (.inl (some (vI (gI σ 53 38)))) (sI σ 53 0 0)) : Call t 271 [vR 53] σ Q := by
  rw [x271_0, gI_sI, if_neg (by omega)]; exact hq
end LM4
