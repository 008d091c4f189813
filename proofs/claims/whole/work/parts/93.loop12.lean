/-! the law's loop: cases 11 -/
section LO12
variable {t : Nat} {σ : St} {Q : Res → St → Prop} {P PS : Pg} {lim lS : Int} {xs ys : List Int}
theorem fr_ms {k : Nat} {s : St} : fr mM s (mit P k (ms0 P s)) := by
  refine fr_trans (fr_trans ?_ (fr_op (f := 0))) (fr_it k _)
  show fr mM s (mtk 0 4 (mcc s))
  refine fr_trans ?_ fr_tk
  unfold mcc
  exact fr_upL (fr_trans fr_s46 (fr_trans fr_s46 (fr_trans fr_s46 (fr_trans fr_s46 fr_s46)))) (fun j => by unfold mM; omega)
/-- run -/
theorem op_1605 {i : Int} {a6 a7 a8 : Option AV} (h : JV P lim PS lS σ) (ht : 4 ≤ t) (hq : HQ t i σ Q) : wp t 305 1605 [some (vR 79), some (vR 0), some (vR 53), some (vR 77), some (vR 78), some (vI i), a6, a7, a8] [] σ Q := by
  obtain ⟨h00, hCI, ⟨xs, hC, hLQ⟩, hTX, hF, hS, hM⟩ := id h
  have hP := h00.1.1
  rw [x305_1605]
  refine c149 hP hCI (fun k g1 g2 g3 => ?_)
  have fm : fr mM σ (mit P k (ms0 P σ)) := fr_ms
  have hLP1 : LPr (mit P k (ms0 P σ)) P := LP_fr hLQ.1 fm (fun c j z => by unfold mM at z; omega)
  simp only [x305_1609, aft_l, aft_r, optL_s, optL_n, xgo_n, xgo_s, List.cons_append, List.nil_append, List.append_nil, true_and, and_true, Nat.sub_zero, Nat.zero_le, true_implies, false_implies, implies_true, not_true_eq_false, not_false_eq_true, true_or, or_true]
  refine c267 (s := σ) hP hLP1 g1 g2 (fun σ2 k1 k2 k3 => ?_)
  obtain ⟨⟨φ, k1⟩, kB⟩ := k1
  obtain ⟨w1, w2, w3, w4, w5⟩ := g3
  simp only [x305_1613, aft_l, aft_r, optL_s, optL_n, xgo_n, xgo_s, List.cons_append, List.nil_append, List.append_nil, true_and, and_true, Nat.sub_zero, Nat.zero_le, true_implies, false_implies, implies_true, not_true_eq_false, not_false_eq_true, true_or, or_true]
  have f : fr (fun c j => (46 ≤ c ∧ c ≤ 52) ∨ (70 ≤ c ∧ c ≤ 75) ∨ (c = 53 ∧ (j = 0 ∨ (36 ≤ j ∧ j ≤ 40)))) σ σ2 := fr_trans (fr_mono fm (fun c j z => by unfold mM at z; omega)) (fr_mono k3 (fun c j z => by unfold lrM lmM at z; omega))
  have f2 : fr (fun c _ => 53 ≤ c) (mit P k (ms0 P σ)) σ2 := fr_mono k3 (fun c j z => by unfold lrM lmM at z; omega)
  refine ⟨⟨⟨by omega, by omega⟩, ⟨by omega, by omega⟩⟩, hq σ2 P lim PS lS _ _ _ _ ⟨h00, CI_fr hCI f (fun c j z => by omega), ⟨xs, hC, LQ_fr hLQ f (fun c j z => by omega)⟩, ?_, ?_, ?_, ?_⟩ (funext fun j => fr_I f 79 j (by omega)) (by omega)⟩
  · unfold TX
    rw [fr_I f 53 8 (by omega), fr_I f 1 1 (by omega)]
    exact ⟨hTX.1, hTX.2.1, fun p hp => by rw [fr_I f 2 p (by omega), fr_I f 59 p (by omega)]; exact hTX.2.2.1 p hp, fun j j0 j1 => by rw [fr_I f 59 j (by omega)]; exact hTX.2.2.2 j j0 j1⟩
  · unfold FJ
    rw [fr_I f 53 10 (by omega), fr_I f 0 9 (by omega)]; exact hF
  · unfold SJ
    rw [fr_I f 53 42 (by omega), fr_I f 0 10 (by omega), fr_I f 12 2 (by omega)]
    exact ⟨hS.1, fun e => ⟨RB_fr (hS.2 e).1 f (fun j => by omega) (fun j => by omega), (hS.2 e).2.1, SV_fr (hS.2 e).2.2 f (fun j => by omega)⟩⟩
  · unfold MJ
    rw [k1.1.2.1, k1.1.2.2, fr_I f2 46 9 (by omega), fr_I f2 46 10 (by omega)]
    exact ⟨fun a a0 a1 => by rw [fr_L f2 49 a (by omega)]; exact (k1.2.2.2.2.2.2 a a0 a1).symm, ⟨rfl, by omega⟩, ⟨rfl, by omega⟩⟩
end LO12
