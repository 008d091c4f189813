/-! the class: measures, the run, its program -/
theorem pT_len {N : Int → Int} {f0 len : Int} : ∀ (d : Nat) (p : Int) (L : List St4), (pT N f0 len d p L).2.length ≤ L.length + d
  | 0, p, L => Nat.le_refl _
  | d + 1, p, L => by
    unfold pT
    generalize pS N f0 p = r
    obtain ⟨q, o⟩ := r
    cases o with
    | none => show L.length ≤ _; omega
    | some s =>
      have h1 : (L ++ [s]).length = L.length + 1 := by rw [List.length_append]; rfl
      show (if q = len then (-1, L ++ [s]) else if N q = 59 then pT N f0 len d (q + 1) (L ++ [s]) else (q, L ++ [s])).2.length ≤ _
      split
      · show (L ++ [s]).length ≤ _; omega
      · split
        · have := pT_len (N := N) (f0 := f0) (len := len) d (q + 1) (L ++ [s]); omega
        · show (L ++ [s]).length ≤ _; omega
/-- the two texts -/
def TX (σ : St) : Prop := (0 ≤ gI σ 53 8 ∧ gI σ 53 8 ≤ 80) ∧ (gI σ 1 1 = gI σ 53 8 ∧ ((∀ p, p < gI σ 53 8 → gI σ 2 p = gI σ 59 p) ∧ ∀ i, 0 ≤ i → i < gI σ 53 8 → 33 ≤ gI σ 59 i ∧ gI σ 59 i ≤ 126))
theorem TX_1 {σ : St} (h : TX σ) : tx1 σ := ⟨by rw [h.2.1]; exact h.1, fun i i0 i1 => by rw [h.2.1] at i1; rw [h.2.2.1 i i1]; exact h.2.2.2 i i0 i1⟩
section CE
variable {t : Nat} {σ : St} {Q : Res → St → Prop} {P : Pg} {lim : Int} {xs ys : List Int}
theorem cpr (hP : okP P) (hI : INr 19 σ P lim xs) (hU : UNr σ P) (h : CI P lim σ) (hq : ∀ a3, wp t 154 82 [some (vR 0), some (vI (sm (ptN P xs lim) 20)), some (vI (sm (unN P) 20)), a3] [] σ Q) :
    ∀ (d : Nat) (i : Nat), i + d = 20 → wp t 154 35 [some (vR 0), some (vI (sm (ptN P xs lim) i)), some (vI (sm (unN P) i)), some (vI i)] [] σ Q
  | 0, i, hd => by
    have e : i = 20 := by omega
    subst e
    rw [x154_35]
    exact ⟨⟨by omega, by omega⟩, fun a => by omega, fun _ => hq _⟩
  | d + 1, i, hd => by
    have hm := m8_rng hP
    have ih := cpr hP hI hU h hq d (i + 1) (by omega)
    rw [x154_35]
    refine ⟨⟨by omega, by omega⟩, fun _ => ?_, fun a => by omega⟩
    simp only [x154_41, e58_19 (show (0 : Int) ≤ i by omega) (show (i : Int) < 44 by omega), x154_50, e174, x154_53, e87' h hP, x154_68, wS_of (INr_SW_19 hI (show (0 : Int) ≤ i by omega) (show (i : Int) < 44 by omega)), aft_l, aft_r, optL_s, optL_n, xgo_n, xgo_s, List.cons_append, List.nil_append, List.append_nil, true_and, and_true, Nat.sub_zero, Nat.zero_le, true_implies, false_implies, implies_true, not_true_eq_false, not_false_eq_true, true_or, or_true]
    refine c118 hU (by omega) (by omega) (by omega) (fun l hl => ?_)
    simp only [x154_71, e174, x154_74, wS_of hl, aft_l, aft_r, optL_s, optL_n, xgo_n, xgo_s, List.cons_append, List.nil_append, List.append_nil, true_and, and_true, Nat.sub_zero, Nat.zero_le, true_implies, false_implies, implies_true, not_true_eq_false, not_false_eq_true, true_or, or_true]
    exact ih
theorem c154 (ht : 1 ≤ t) (hP : okP P) (hl : 0 ≤ lim ∧ lim ≤ 2) (hC : isC P lim xs) (h : CI P lim σ) (h0 : sm (unN P) 20 = 0 → ∀ σ', CI P lim σ' → fr clq σ σ' → Q (.inr 5) σ')
    (h1 : sm (unN P) 20 ≠ 0 → ∀ σ', CI P lim σ' → fr clq σ σ' → Q (.inl (some (vD (FP.ddiv (dbl (sm (ptN P xs lim) 20)) (dbl (sm (unN P) 20)))))) σ') : Call t 154 [vR 0] σ Q := by
  have rA := sm_rng (ptN_rng P xs lim) 20
  have rB := sm_rng (unN_rng P) 20
  simp only [x154_0, e79 h, x154_15, aft_l, aft_r, optL_s, optL_n, xgo_n, xgo_s, List.cons_append, List.nil_append, List.append_nil, true_and, and_true, Nat.sub_zero, Nat.zero_le, true_implies, false_implies, implies_true, not_true_eq_false, not_false_eq_true, true_or, or_true]
  refine s19 hP hl hC h (fun σ1 g1 g2 g3 => ?_)
  simp only [x154_18, aft_l, aft_r, optL_s, optL_n, xgo_n, xgo_s, List.cons_append, List.nil_append, List.append_nil, true_and, and_true, Nat.sub_zero, Nat.zero_le, true_implies, false_implies, implies_true, not_true_eq_false, not_false_eq_true, true_or, or_true]
  refine s41 hP g2 (fun σ2 k1 k2 k3 => ?_)
  have hf : fr clq σ σ2 := fr_trans (fr_mono g3 (fun c j k => by unfold clq; omega)) (fr_mono k3 (fun c j k => by unfold clq; omega))
  simp only [x154_29, aft_l, aft_r, optL_s, optL_n, xgo_n, xgo_s, List.cons_append, List.nil_append, List.append_nil, true_and, and_true, Nat.sub_zero, Nat.zero_le, true_implies, false_implies, implies_true, not_true_eq_false, not_false_eq_true, true_or, or_true]
  refine cpr hP (INr_fr_19 g1 k3 (fun c j z => by omega)) k1 k2 (fun a3 => ?_) 20 0 (by omega)
  rw [x154_82]
  refine ⟨⟨by omega, by omega⟩, fun a => ?_, fun a => ?_⟩
  · rw [x154_86]; exact ⟨ht, h0 a σ2 k2 hf⟩
  · rw [x154_97]; exact ⟨n64_div rA.1 (by omega) (by omega) (by omega), h1 a σ2 k2 hf⟩
/-- the class's answers are forgotten -/
def fgM : Nat → Int → Prop := fun c j => (c = 19 ∧ j = 8) ∨ (c = 30 ∧ j = 8) ∨ (c = 41 ∧ j = 2) ∨ (c = 46 ∧ 6 ≤ j ∧ j ≤ 10) ∨ c = 49
theorem c158 (hB : RB 5 σ P) (hN : RN 5 σ P) (h2 : gI σ 5 2 = lim) (h20 : GE 20 σ) (h31 : GE 31 σ) (hq : ∀ σ', CI P lim σ' → (gI σ' 19 8 = 1 ∧ (gI σ' 30 8 = 1 ∧ gI σ' 41 2 = 1)) → (∀ a, 0 ≤ a → a < 44 → gL σ' 49 a = BitVec.ofNat 64 0) → gI σ' 46 9 = 0 → gI σ' 46 10 = 0 → fr fgM σ σ' → Q (.inl none) σ') : Call t 158 [vR 0] σ Q := by
  simp only [x158_0, x41_0_19, x158_7, x41_0_30, x158_14, x108_0, x158_21, e62, x158_28, aft_l, aft_r, optL_s, optL_n, xgo_n, xgo_s, List.cons_append, List.nil_append, List.append_nil, true_and, and_true, Nat.sub_zero, Nat.zero_le, true_implies, false_implies, implies_true, not_true_eq_false, not_false_eq_true, true_or, or_true]
  have hf : fr fgM σ (mcc (sI (sI (sI σ 19 8 1) 30 8 1) 41 2 1)) := by
    unfold mcc
    refine fr_upL (fr_sI (fr_sI (fr_sI (fr_sI (fr_sI (fr_sI (fr_sI (fr_sI fr_refl (by unfold fgM; omega)) (by unfold fgM; omega)) (by unfold fgM; omega)) (by unfold fgM; omega)) (by unfold fgM; omega)) (by unfold fgM; omega)) (by unfold fgM; omega)) (by unfold fgM; omega)) (fun j => by unfold fgM; omega)
  refine hq _ ⟨⟨RB_fr hB hf (fun j => by unfold fgM; omega) (fun j => by unfold fgM; omega), RN_fr hN hf (fun j => by unfold fgM; omega) (fun j => by unfold fgM; omega) (fun j => by unfold fgM; omega) (fun j => by unfold fgM; omega) (by unfold fgM; omega), (fr_I hf _ _ (by unfold fgM; omega)).trans h2⟩, ⟨GE_fr h20 hf (fun j => by unfold fgM; omega), Or.inl rfl⟩, ⟨GE_fr h31 hf (fun j => by unfold fgM; omega), Or.inl rfl⟩, Or.inl rfl⟩ ⟨rfl, rfl, rfl⟩ (fun a a0 a1 => ?_) rfl rfl hf
  unfold mcc
  rw [gL_upL, if_pos rfl, if_pos ⟨a0, by show a < (44 : Int); exact a1⟩]
/-- appendCharacter -/
theorem c121 (ht : 2 ≤ t) (hl : 0 ≤ gI σ 1 1 ∧ gI σ 1 1 ≤ 80) {c : Int} (hc : inR c) (h1 : ¬ (33 ≤ c ∧ c ≤ 126) → Q (.inr 1) σ) (h2 : (33 ≤ c ∧ c ≤ 126) → gI σ 1 1 = 80 → Q (.inr 2) σ)
    (h3 : (33 ≤ c ∧ c ≤ 126) → gI σ 1 1 < 80 → Q (.inl (some (vI (gI σ 1 1 + 1)))) (sI (sI σ 2 (gI σ 1 1) c) 1 1 (gI σ 1 1 + 1))) : Call t 121 [vR 0, vI c] σ Q := by
  rw [x121_0]
  refine ⟨hc, fun a => ?_, fun a => ?_⟩
  · rw [x121_12]; exact ⟨by omega, h1 (by omega)⟩
  · rw [x121_6]
    refine ⟨hc, fun b => ?_, fun b => ?_⟩
    · rw [x121_12]; exact ⟨by omega, h1 (by omega)⟩
    · simp only [x121_22, x0_0, aft_l, aft_r, optL_s, optL_n, xgo_n, xgo_s, List.cons_append, List.nil_append, List.append_nil, true_and, and_true, Nat.sub_zero, Nat.zero_le, true_implies, false_implies, implies_true, not_true_eq_false, not_false_eq_true, true_or, or_true]
      refine ⟨⟨by omega, by omega⟩, fun d => ?_, fun d => ?_⟩
      · have fin := h3 (by omega) d
        have e1 : gI (sI σ 2 (gI σ 1 1) c) 1 1 = gI σ 1 1 := by rw [gI_rne (by decide)]
        simp only [x0_13, x0_14, x121_29, (show inR (0 : Int) = True from eq_true ⟨by decide, by decide⟩), Int.reduceEq, x121_42, x1_0, k98 (show lc 2 = 101 from rfl), wrI_in (σ := σ) (r := 2) (n := 80) rfl hl.1 d, x1_12, e1, x121_50, aft_l, aft_r, optL_s, optL_n, xgo_n, xgo_s, List.cons_append, List.nil_append, List.append_nil, true_and, and_true, Nat.sub_zero, Nat.zero_le, true_implies, false_implies, implies_true, not_true_eq_false, not_false_eq_true, true_or, or_true]
        refine ⟨⟨by omega, by omega⟩, ?_⟩
        rw [gI_sI, if_pos ⟨rfl, rfl⟩]
        exact fin
      · simp only [x0_9, x0_14, x121_29, (show inR (1 : Int) = True from eq_true ⟨by decide, by decide⟩), Int.reduceEq, x121_32, aft_l, aft_r, optL_s, optL_n, xgo_n, xgo_s, List.cons_append, List.nil_append, List.append_nil, true_and, and_true, Nat.sub_zero, Nat.zero_le, true_implies, false_implies, implies_true, not_true_eq_false, not_false_eq_true, true_or, or_true]
        exact ⟨by omega, h2 (by omega) (by omega)⟩
end CE

