/-! the law's loop: cases 12 -/
section LO13
variable {t : Nat} {σ : St} {Q : Res → St → Prop} {P PS : Pg} {lim lS : Int} {xs ys : List Int}
/-- restore -/
theorem op_1908 {i : Int} {a6 a7 a8 : Option AV} (h : JV P lim PS lS σ) (ht : 4 ≤ t) (hq : HQ t i σ Q) : wp t 305 1908 [some (vR 79), some (vR 0), some (vR 53), some (vR 77), some (vR 78), some (vI i), a6, a7, a8] [] σ Q := by
  obtain ⟨h00, hCI, ⟨xs, hC, hLQ⟩, hTX, hF, hS, hM⟩ := id h
  have hPS := h00.2.1
  rw [x305_1908]
  refine ⟨by omega, ?_⟩
  rw [x304_0]
  refine ⟨by omega, c157 (PS := PS) (lS := lS) (by omega) hPS hCI (by rw [hS.1.1]; exact hS.1.2) (fun e => ⟨(hS.2 (by rw [← hS.1.1]; exact e)).1, (hS.2 (by rw [← hS.1.1]; exact e)).2.1⟩) (fun e => ?_) (fun e σ1 g1 g2 g3 g4 g5 => ?_)⟩
  · have e42 : gI σ 53 42 = 0 := hS.1.1.symm.trans e
    simp only [show hd 304 1 2 = some (8, 1) from rfl, xgo_s, lk2, x304_8, x305_1912, aft_l, aft_r, optL_s, optL_n, xgo_n, xgo_s, List.cons_append, List.nil_append, List.append_nil, true_and, and_true, Nat.sub_zero, Nat.zero_le, true_implies, false_implies, implies_true, not_true_eq_false, not_false_eq_true, true_or, or_true]
    refine c277 (PS := PS) (lS := lS) (Or.inl e42) (fun k => by omega) (fun _ => ?_) (fun k => by omega)
    obtain ⟨r1, r2⟩ := fin_0 (v := 1) h
    have k0 : gI (sI σ 53 0 1) 53 0 = 1 := by rw [gI_sI, if_pos ⟨rfl, rfl⟩]
    simp only [x305_1918, e174, k0, x305_1922, aft_l, aft_r, optL_s, optL_n, xgo_n, xgo_s, List.cons_append, List.nil_append, List.append_nil, true_and, and_true, Nat.sub_zero, Nat.zero_le, true_implies, false_implies, implies_true, not_true_eq_false, not_false_eq_true, true_or, or_true]
    refine ⟨⟨⟨by decide, by decide⟩, ⟨by decide, by decide⟩⟩, ?_⟩
    rw [x305_1929]
    exact hq _ _ _ _ _ _ _ _ _ r1 r2 (by omega)
  · have e42 : gI σ 53 42 = 1 := hS.1.1.symm.trans e
    obtain ⟨s1, s2, s3⟩ := hS.2 e42
    have f1 : fr (fun c _ => c < 53) σ σ1 := fr_mono g5 (fun c j k => by unfold fgM at k; omega)
    simp only [x304_4, x304_10, x305_1912, aft_l, aft_r, optL_s, optL_n, xgo_n, xgo_s, List.cons_append, List.nil_append, List.append_nil, true_and, and_true, Nat.sub_zero, Nat.zero_le, true_implies, false_implies, implies_true, not_true_eq_false, not_false_eq_true, true_or, or_true]
    refine c277 (PS := PS) (lS := lS) (Or.inr ((fr_I f1 _ _ (by omega)).trans e42)) (fun _ => SV_fr s3 f1 (fun j => by omega)) (fun k => by rw [fr_I f1 53 42 (by omega)] at k; omega) (fun _ σ2 k1 k2 k3 k4 k5 k6 k7 k8 k9 => ?_)
    have f2 : fr (fun c _ => 53 ≤ c) σ1 σ2 := fr_mono k9 (fun c j k => by unfold pM at k; omega)
    have f : fr (fun c j => (c = 19 ∧ j = 8) ∨ (c = 30 ∧ j = 8) ∨ (c = 41 ∧ j = 2) ∨ (c = 46 ∧ 6 ≤ j ∧ j ≤ 10) ∨ c = 49 ∨ (5 ≤ c ∧ c ≤ 11) ∨ (54 ≤ c ∧ c ≤ 58) ∨ c = 75 ∨ c = 76 ∨ (c = 53 ∧ (j = 0 ∨ j = 6 ∨ j = 19 ∨ j = 38 ∨ j = 39 ∨ j = 43 ∨ j = 44))) σ σ2 := fr_trans (fr_mono g5 (fun c j k => by unfold fgM at k; omega)) (fr_mono k9 (fun c j k => by unfold pM at k; omega))
    obtain ⟨zs, hZ⟩ := isC_ex hPS lS
    simp only [x305_1918, e174, k5, x305_1922, aft_l, aft_r, optL_s, optL_n, xgo_n, xgo_s, List.cons_append, List.nil_append, List.append_nil, true_and, and_true, Nat.sub_zero, Nat.zero_le, true_implies, false_implies, implies_true, not_true_eq_false, not_false_eq_true, true_or, or_true]
    refine ⟨⟨⟨by decide, by decide⟩, ⟨by decide, by decide⟩⟩, ?_⟩
    rw [x305_1929]
    refine hq σ2 PS lS PS lS _ _ _ _ ⟨⟨h00.2, h00.2⟩, CI_fr g1 f2 (fun c j k => by omega), ⟨zs, hZ, k1, k2, Or.inl k4⟩, ?_, ?_, ?_, ?_⟩ (funext fun j => fr_I f 79 j (by omega)) (by omega)
    · unfold TX
      rw [fr_I f 53 8 (by omega), fr_I f 1 1 (by omega)]
      exact ⟨hTX.1, hTX.2.1, fun p hp => by rw [fr_I f 2 p (by omega), fr_I f 59 p (by omega)]; exact hTX.2.2.1 p hp, fun j j0 j1 => by rw [fr_I f 59 j (by omega)]; exact hTX.2.2.2 j j0 j1⟩
    · unfold FJ
      rw [fr_I f 53 10 (by omega), fr_I f 0 9 (by omega)]; exact hF
    · unfold SJ
      rw [fr_I f 53 42 (by omega), fr_I f 0 10 (by omega), fr_I f 12 2 (by omega)]
      exact ⟨hS.1, fun _ => ⟨RB_fr s1 f (fun j => by omega) (fun j => by omega), s2, k3⟩⟩
    · unfold MJ
      rw [k7, k8, fr_I f2 46 9 (by omega), fr_I f2 46 10 (by omega)]
      exact ⟨fun a a0 a1 => by rw [fr_L f2 49 a (by omega), k6 a a0 a1]; exact g2 a a0 a1, ⟨g3, by omega⟩, ⟨g4, by omega⟩⟩
end LO13
