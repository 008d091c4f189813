/-! the law's loop: cases 10 -/
section LO11
variable {t : Nat} {σ : St} {Q : Res → St → Prop} {P PS : Pg} {lim lS : Int} {xs ys : List Int}
/-- setLimit -/
theorem op_471 {i : Int} {a6 a7 a8 : Option AV} (h : JV P lim PS lS σ) (hi : 0 ≤ i) (hlen : i + 3 < gI σ 79 (-1)) (hn : ∀ j, 0 ≤ j → j < gI σ 79 (-1) → inR (gI σ 79 j)) (ht : 4 ≤ t) (hq : HQ t i σ Q) : wp t 305 471 [some (vR 79), some (vR 0), some (vR 53), some (vR 77), some (vR 78), some (vI i), a6, a7, a8] [] σ Q := by
  obtain ⟨h00, hCI, ⟨xs, hC, hLQ⟩, hTX, hF, hS, hM⟩ := id h
  have hP := h00.1.1
  have hlim := h00.1.2
  have n1 := hn (i + 1) (by omega) (by omega)
  generalize hv : gI σ 79 (i + 1) = l at n1
  rw [x305_471, hv]
  refine ⟨by omega, by omega, ?_⟩
  rw [x283_0]
  refine ⟨by omega, c128 (by omega) hCI n1 (fun a => ?_) (fun a hCI' => ?_)⟩
  · simp only [show hd 283 4 1 = some (13, 3) from rfl, xgo_s, lk4, x283_13, x305_482, hv, aft_l, aft_r, optL_s, optL_n, xgo_n, xgo_s, List.cons_append, List.nil_append, List.append_nil, true_and, and_true, Nat.sub_zero, Nat.zero_le, true_implies, false_implies, implies_true, not_true_eq_false, not_false_eq_true, true_or, or_true]
    refine ⟨by omega, c205 n1 hLQ.2.1 (fun _ => ?_) (fun d => absurd d a)⟩
    simp only [aft_l, aft_r, optL_s, optL_n, xgo_n, xgo_s, List.cons_append, List.nil_append, List.append_nil, true_and, and_true, Nat.sub_zero, Nat.zero_le, true_implies, false_implies, implies_true, not_true_eq_false, not_false_eq_true, true_or, or_true]
    obtain ⟨r1, r2⟩ := fin_0 (v := 1) h
    exact KI_494 (z := 1) ⟨by decide, by decide⟩ ⟨by decide, by decide⟩ (by rw [gI_sI, if_pos ⟨rfl, rfl⟩]) (fun k => by cases k) (fun b6 b7 b8 => hq _ _ _ _ _ _ _ _ _ r1 r2 (by omega))
  · have e6 : gI (sL (sI (sI σ 5 2 l) 19 8 1) 77 0 (BitVec.ofInt 64 lim)) 53 6 = lim := by
      show gI (sI (sI σ 5 2 l) 19 8 1) 53 6 = _
      rw [gI_rne (by decide), gI_rne (by decide)]; exact hLQ.2.1
    have e79 : gI (sL (sI (sI σ 5 2 l) 19 8 1) 77 0 (BitVec.ofInt 64 lim)) 79 = gI σ 79 := by
      show gI (sI (sI σ 5 2 l) 19 8 1) 79 = _
      rw [gI_rne (by decide), gI_rne (by decide)]
    simp only [x283_7, x283_15, x305_482, e79, hv, aft_l, aft_r, optL_s, optL_n, xgo_n, xgo_s, List.cons_append, List.nil_append, List.append_nil, true_and, and_true, Nat.sub_zero, Nat.zero_le, true_implies, false_implies, implies_true, not_true_eq_false, not_false_eq_true, true_or, or_true]
    refine ⟨⟨by omega, by omega⟩, by omega, by omega, c205 n1 e6 (fun d => absurd a d) (fun _ => ?_)⟩
    simp only [aft_l, aft_r, optL_s, optL_n, xgo_n, xgo_s, List.cons_append, List.nil_append, List.append_nil, true_and, and_true, Nat.sub_zero, Nat.zero_le, true_implies, false_implies, implies_true, not_true_eq_false, not_false_eq_true, true_or, or_true]
    have f0 : fr (fun c j => c = 77 ∨ (c = 53 ∧ (j = 0 ∨ j = 6 ∨ j = 19))) (sI (sI σ 5 2 l) 19 8 1) (sI (sI (sI (sL (sI (sI σ 5 2 l) 19 8 1) 77 0 (BitVec.ofInt 64 lim)) 53 0 0) 53 6 l) 53 19 0) := fr_sI (fr_sI (fr_sI (fr_sL fr_refl (by omega)) (by omega)) (by omega)) (by omega)
    have f : fr (fun c j => (c = 5 ∧ j = 2) ∨ (c = 19 ∧ j = 8) ∨ c = 77 ∨ (c = 53 ∧ (j = 0 ∨ j = 6 ∨ j = 19))) σ (sI (sI (sI (sL (sI (sI σ 5 2 l) 19 8 1) 77 0 (BitVec.ofInt 64 lim)) 53 0 0) 53 6 l) 53 19 0) := fr_trans (fr_sI (fr_sI fr_refl (by omega)) (by omega)) (fr_mono f0 (fun c j k => by omega))
    have k6 : gI (sI (sI (sI (sL (sI (sI σ 5 2 l) 19 8 1) 77 0 (BitVec.ofInt 64 lim)) 53 0 0) 53 6 l) 53 19 0) 53 6 = l := by simp only [gI_sI, gI_sI, gL_sI, gD_sI, gI_sL, gL_sL, gD_sL, gI_sD, gL_sD, gD_sD, Nat.reduceEqDiff, Int.reduceEq, reduceCtorEq, false_and, and_false, and_self, if_true, if_false, not_false_eq_true, not_true_eq_false]
    have k19 : gI (sI (sI (sI (sL (sI (sI σ 5 2 l) 19 8 1) 77 0 (BitVec.ofInt 64 lim)) 53 0 0) 53 6 l) 53 19 0) 53 19 = 0 := by simp only [gI_sI, gI_sI, gL_sI, gD_sI, gI_sL, gL_sL, gD_sL, gI_sD, gL_sD, gD_sD, Nat.reduceEqDiff, Int.reduceEq, reduceCtorEq, false_and, and_false, and_self, if_true, if_false, not_false_eq_true, not_true_eq_false]
    have k0 : gI (sI (sI (sI (sL (sI (sI σ 5 2 l) 19 8 1) 77 0 (BitVec.ofInt 64 lim)) 53 0 0) 53 6 l) 53 19 0) 53 0 = 0 := by simp only [gI_sI, gI_sI, gL_sI, gD_sI, gI_sL, gL_sL, gD_sL, gI_sD, gL_sD, gD_sD, Nat.reduceEqDiff, Int.reduceEq, reduceCtorEq, false_and, and_false, and_self, if_true, if_false, not_false_eq_true, not_true_eq_false]
    have kL : gL (sI (sI (sI (sL (sI (sI σ 5 2 l) 19 8 1) 77 0 (BitVec.ofInt 64 lim)) 53 0 0) 53 6 l) 53 19 0) 77 0 = BitVec.ofInt 64 lim := by
      show gL (sL (sI (sI σ 5 2 l) 19 8 1) 77 0 (BitVec.ofInt 64 lim)) 77 0 = _
      rw [gL_sL, if_pos ⟨rfl, rfl⟩]
    generalize sI (sI (sI (sL (sI (sI σ 5 2 l) 19 8 1) 77 0 (BitVec.ofInt 64 lim)) 53 0 0) 53 6 l) 53 19 0 = σ2 at f0 f k6 k19 k0 kL ⊢
    obtain ⟨zs, hZ⟩ := isC_ex hP l
    refine KI_494 (z := 0) ⟨by decide, by decide⟩ ⟨by omega, by omega⟩ k0 (fun _ => kL) (fun b6 b7 b8 => hq σ2 P l PS lS _ _ _ _ ⟨⟨⟨hP, a⟩, h00.2⟩, CI_fr hCI' f0 (fun c j k => by omega), ⟨zs, hZ, LP_fr hLQ.1 f (fun c j k => by omega), k6, Or.inl k19⟩, ?_, ?_, ?_, ?_⟩ (funext fun j => fr_I f 79 j (by omega)) (by omega))
    · unfold TX
      rw [fr_I f 53 8 (by omega), fr_I f 1 1 (by omega)]
      exact ⟨hTX.1, hTX.2.1, fun p hp => by rw [fr_I f 2 p (by omega), fr_I f 59 p (by omega)]; exact hTX.2.2.1 p hp, fun j j0 j1 => by rw [fr_I f 59 j (by omega)]; exact hTX.2.2.2 j j0 j1⟩
    · unfold FJ
      rw [fr_I f 53 10 (by omega), fr_I f 0 9 (by omega)]; exact hF
    · unfold SJ
      rw [fr_I f 53 42 (by omega), fr_I f 0 10 (by omega), fr_I f 12 2 (by omega)]
      exact ⟨hS.1, fun e => ⟨RB_fr (hS.2 e).1 f (fun j => by omega) (fun j => by omega), (hS.2 e).2.1, SV_fr (hS.2 e).2.2 f (fun j => by omega)⟩⟩
    · unfold MJ
      rw [fr_I f 53 38 (by omega), fr_I f 53 39 (by omega), fr_I f 46 9 (by omega), fr_I f 46 10 (by omega)]
      exact ⟨fun a a0 a1 => by rw [fr_L f 49 a (by omega), fr_L f 75 a (by omega)]; exact hM.1 a a0 a1, hM.2⟩
end LO11
