/-! the law's loop: cases 8 -/
theorem FRr_fr2 {M : Nat → Int → Prop} {P : Pg} {lim : Int} {xs : List Int} {σ σ' : St} (h : FRr P lim xs σ) (g : fr M σ σ') (hM : ∀ c j, M c j → ¬ (60 ≤ c ∧ c ≤ 69) ∧ ¬ (c = 53 ∧ (j = 16 ∨ j = 23 ∨ j = 28))) : FRr P lim xs σ' := by
  obtain ⟨h1, h2, h3, h4, N, tm, h5, h6⟩ := h
  have n : ∀ c j, ((60 ≤ c ∧ c ≤ 69) ∨ (c = 53 ∧ (j = 16 ∨ j = 23 ∨ j = 28))) → ¬ M c j := fun c j a b => by have := hM c j b; omega
  refine ⟨h1, LX_fr h2 g (n _ _ (by omega)) (fun j => n _ _ (by omega)) (fun j => n _ _ (by omega)), fun c u => ?_, FRK_fr h4 g (fun j => n _ _ (by omega)) (fun j => n _ _ (by omega)) (n _ _ (by omega)), N, tm, LU_fr h5 g (fun j => n _ _ (by omega)) (fun j => n _ _ (by omega)) (n _ _ (by omega)), h6⟩
  rw [Gc_fr g (fun j => n _ _ (by omega))]; exact h3 c u
section LO9
variable {t : Nat} {σ : St} {Q : Res → St → Prop} {P PS : Pg} {lim lS : Int} {xs ys : List Int}
/-- save -/
theorem op_1897 {i : Int} {a6 a7 a8 : Option AV} (h : JV P lim PS lS σ) (ht : 4 ≤ t) (hq : HQ t i σ Q) : wp t 305 1897 [some (vR 79), some (vR 0), some (vR 53), some (vR 77), some (vR 78), some (vI i), a6, a7, a8] [] σ Q := by
  obtain ⟨⟨⟨hP, hl⟩, hPS, hlS⟩, hCI, ⟨xs, hC, hLQ⟩, hTX, hF, hS, hM⟩ := h
  rw [x305_1897]
  refine c156 hP hCI (fun σ1 g1 g2 g3 g4 g5 => ?_)
  simp only [x305_1901, aft_l, aft_r, optL_s, optL_n, xgo_n, xgo_s, List.cons_append, List.nil_append, List.append_nil, true_and, and_true, Nat.sub_zero, Nat.zero_le, true_implies, false_implies, implies_true, not_true_eq_false, not_false_eq_true, true_or, or_true]
  refine c276 (P := P) (lim := lim) (LP_fr hLQ.1 g5 (fun c j k => by omega)) ((fr_I g5 _ _ (by omega)).trans hLQ.2.1) (fun σ2 k1 k2 k3 k4 k5 k6 => ?_)
  simp only [x305_1905, aft_l, aft_r, optL_s, optL_n, xgo_n, xgo_s, List.cons_append, List.nil_append, List.append_nil, true_and, and_true, Nat.sub_zero, Nat.zero_le, true_implies, false_implies, implies_true, not_true_eq_false, not_false_eq_true, true_or, or_true]
  have f : fr (fun c j => (12 ≤ c ∧ c ≤ 18) ∨ (c = 0 ∧ j = 10) ∨ (c = 53 ∧ (j = 0 ∨ j = 6 ∨ j = 42 ∨ j = 43 ∨ j = 44)) ∨ (54 ≤ c ∧ c ≤ 58) ∨ c = 76) σ σ2 := fr_trans (fr_mono g5 (fun c j k => by omega)) (fr_mono k6 (fun c j k => by unfold pM at k; omega))
  have k6' : fr (fun c _ => 53 ≤ c) σ1 σ2 := fr_mono k6 (fun c j k => by unfold pM at k; omega)
  have e53 : ∀ j, j ≠ 0 → j ≠ 6 → j ≠ 42 → j ≠ 43 → j ≠ 44 → gI σ2 53 j = gI σ 53 j := fun j _ _ _ _ _ => fr_I f 53 j (by omega)
  refine hq σ2 P lim P lim _ _ _ _ ⟨⟨⟨hP, hl⟩, hP, hl⟩, CI_fr g4 k6' (fun c j k => by omega), ⟨xs, hC, k1, k2, ?_⟩, ?_, ?_, ?_, ?_⟩ (funext fun j => fr_I f 79 j (by omega)) (by omega)
  · rw [e53 19 (by omega) (by omega) (by omega) (by omega) (by omega)]
    rcases hLQ.2.2 with z | ⟨z1, z2⟩
    · exact Or.inl z
    · exact Or.inr ⟨z1, FRr_fr2 z2 f (fun c j k => by omega)⟩
  · unfold TX
    rw [e53 8 (by omega) (by omega) (by omega) (by omega) (by omega), fr_I f 1 1 (by omega)]
    exact ⟨hTX.1, hTX.2.1, fun p hp => by rw [fr_I f 2 p (by omega), fr_I f 59 p (by omega)]; exact hTX.2.2.1 p hp, fun j j0 j1 => by rw [fr_I f 59 j (by omega)]; exact hTX.2.2.2 j j0 j1⟩
  · unfold FJ
    rw [e53 10 (by omega) (by omega) (by omega) (by omega) (by omega), fr_I f 0 9 (by omega)]; exact hF
  · exact ⟨⟨by rw [k4, fr_I k6' 0 10 (by omega)]; exact g3, Or.inr k4⟩, fun _ => ⟨RB_fr g1 k6' (fun j => by omega) (fun j => by omega), (fr_I k6' 12 2 (by omega)).trans g2, k3⟩⟩
  · unfold MJ
    rw [e53 38 (by omega) (by omega) (by omega) (by omega) (by omega), e53 39 (by omega) (by omega) (by omega) (by omega) (by omega), fr_I f 46 9 (by omega), fr_I f 46 10 (by omega)]
    exact ⟨fun a a0 a1 => by rw [fr_L f 49 a (by omega), fr_L f 75 a (by omega)]; exact hM.1 a a0 a1, hM.2⟩
end LO9
