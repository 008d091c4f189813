/-! the law's loop: cases 9 -/
section LO10
variable {t : Nat} {σ : St} {Q : Res → St → Prop} {P PS : Pg} {lim lS : Int} {xs ys : List Int}
/-- appendCharacter -/
theorem op_208 {i : Int} {a6 a7 a8 : Option AV} (h : JV P lim PS lS σ) (hi : 0 ≤ i) (hlen : i + 3 < gI σ 79 (-1)) (hn : ∀ j, 0 ≤ j → j < gI σ 79 (-1) → inR (gI σ 79 j)) (ht : 4 ≤ t) (hq : HQ t i σ Q) : wp t 305 208 [some (vR 79), some (vR 0), some (vR 53), some (vR 77), some (vR 78), some (vI i), a6, a7, a8] [] σ Q := by
  obtain ⟨h00, hCI, ⟨xs, hC, hLQ⟩, hTX, hF, hS, hM⟩ := id h
  have n1 := hn (i + 1) (by omega) (by omega)
  generalize hv : gI σ 79 (i + 1) = c at n1
  have e1 := hTX.2.1
  have hl := hTX.1
  rw [x305_208, hv]
  refine ⟨by omega, by omega, ?_⟩
  rw [x279_0]
  refine ⟨by omega, c121 (by omega) (by rw [e1]; exact hl) n1 (fun a => ?_) (fun a b => ?_) (fun a b => ?_)⟩
  · simp only [show hd 279 4 1 = some (13, 3) from rfl, xgo_s, lk4, x279_13, x305_219, hv, aft_l, aft_r, optL_s, optL_n, xgo_n, xgo_s, List.cons_append, List.nil_append, List.append_nil, true_and, and_true, Nat.sub_zero, Nat.zero_le, true_implies, false_implies, implies_true, not_true_eq_false, not_false_eq_true, true_or, or_true]
    refine ⟨by omega, c186 hl n1 (fun _ => ?_) (fun d _ => absurd d a) (fun d _ => absurd d a)⟩
    simp only [aft_l, aft_r, optL_s, optL_n, xgo_n, xgo_s, List.cons_append, List.nil_append, List.append_nil, true_and, and_true, Nat.sub_zero, Nat.zero_le, true_implies, false_implies, implies_true, not_true_eq_false, not_false_eq_true, true_or, or_true]
    obtain ⟨r1, r2⟩ := fin_0 (v := 1) h
    exact KI_231 (z := 1) ⟨by decide, by decide⟩ ⟨by decide, by decide⟩ (by rw [gI_sI, if_pos ⟨rfl, rfl⟩]) (fun k => by cases k) (fun b6 b7 b8 => hq _ _ _ _ _ _ _ _ _ r1 r2 (by omega))
  · simp only [show hd 279 4 2 = some (16, 3) from rfl, xgo_s, lk4, x279_16, x305_219, hv, aft_l, aft_r, optL_s, optL_n, xgo_n, xgo_s, List.cons_append, List.nil_append, List.append_nil, true_and, and_true, Nat.sub_zero, Nat.zero_le, true_implies, false_implies, implies_true, not_true_eq_false, not_false_eq_true, true_or, or_true]
    refine ⟨by omega, c186 hl n1 (fun d => absurd a d) (fun _ _ => ?_) (fun _ d => by omega)⟩
    simp only [aft_l, aft_r, optL_s, optL_n, xgo_n, xgo_s, List.cons_append, List.nil_append, List.append_nil, true_and, and_true, Nat.sub_zero, Nat.zero_le, true_implies, false_implies, implies_true, not_true_eq_false, not_false_eq_true, true_or, or_true]
    obtain ⟨r1, r2⟩ := fin_0 (v := 2) h
    exact KI_231 (z := 2) ⟨by decide, by decide⟩ ⟨by decide, by decide⟩ (by rw [gI_sI, if_pos ⟨rfl, rfl⟩]) (fun k => by cases k) (fun b6 b7 b8 => hq _ _ _ _ _ _ _ _ _ r1 r2 (by omega))
  · rw [e1] at b ⊢
    generalize hN : gI σ 53 8 = N at *
    have e8 : gI (sL (sI (sI σ 2 N c) 1 1 (N + 1)) 77 0 (BitVec.ofInt 64 (N + 1))) 53 8 = N := hN
    have e79 : gI (sL (sI (sI σ 2 N c) 1 1 (N + 1)) 77 0 (BitVec.ofInt 64 (N + 1))) 79 = gI σ 79 := funext fun j => by
      show gI (sI (sI σ 2 N c) 1 1 (N + 1)) 79 j = _
      rw [gI_rne (by decide), gI_rne (by decide)]
    simp only [x279_7, x279_18, x305_219, e79, hv, aft_l, aft_r, optL_s, optL_n, xgo_n, xgo_s, List.cons_append, List.nil_append, List.append_nil, true_and, and_true, Nat.sub_zero, Nat.zero_le, true_implies, false_implies, implies_true, not_true_eq_false, not_false_eq_true, true_or, or_true]
    refine ⟨⟨by omega, by omega⟩, by omega, by omega, c186 (by rw [e8]; exact hl) n1 (fun d => absurd a d) (fun _ d => by omega) (fun _ _ => ?_)⟩
    rw [e8]
    simp only [aft_l, aft_r, optL_s, optL_n, xgo_n, xgo_s, List.cons_append, List.nil_append, List.append_nil, true_and, and_true, Nat.sub_zero, Nat.zero_le, true_implies, false_implies, implies_true, not_true_eq_false, not_false_eq_true, true_or, or_true]
    have f : fr (fun c j => c = 1 ∨ c = 2 ∨ c = 59 ∨ c = 77 ∨ (c = 53 ∧ (j = 0 ∨ j = 8))) σ (sI (sI (sI (sL (sI (sI σ 2 N c) 1 1 (N + 1)) 77 0 (BitVec.ofInt 64 (N + 1))) 53 0 0) 59 N c) 53 8 (N + 1)) := fr_sI (fr_sI (fr_sI (fr_sL (fr_sI (fr_sI fr_refl (by omega)) (by omega)) (by omega)) (by omega)) (by omega)) (by omega)
    have k8 : gI (sI (sI (sI (sL (sI (sI σ 2 N c) 1 1 (N + 1)) 77 0 (BitVec.ofInt 64 (N + 1))) 53 0 0) 59 N c) 53 8 (N + 1)) 53 8 = N + 1 := by rw [gI_sI, if_pos ⟨rfl, rfl⟩]
    have k0 : gI (sI (sI (sI (sL (sI (sI σ 2 N c) 1 1 (N + 1)) 77 0 (BitVec.ofInt 64 (N + 1))) 53 0 0) 59 N c) 53 8 (N + 1)) 53 0 = 0 := by simp only [gI_sI, gI_sI, gL_sI, gD_sI, gI_sL, gL_sL, gD_sL, gI_sD, gL_sD, gD_sD, Nat.reduceEqDiff, Int.reduceEq, reduceCtorEq, false_and, and_false, and_self, if_true, if_false, not_false_eq_true, not_true_eq_false]
    have k1 : gI (sI (sI (sI (sL (sI (sI σ 2 N c) 1 1 (N + 1)) 77 0 (BitVec.ofInt 64 (N + 1))) 53 0 0) 59 N c) 53 8 (N + 1)) 1 1 = N + 1 := by
      rw [gI_rne (by decide), gI_rne (by decide), gI_rne (by decide)]
      show gI (sI (sI σ 2 N c) 1 1 (N + 1)) 1 1 = _
      rw [gI_sI, if_pos ⟨rfl, rfl⟩]
    have k2 : gI (sI (sI (sI (sL (sI (sI σ 2 N c) 1 1 (N + 1)) 77 0 (BitVec.ofInt 64 (N + 1))) 53 0 0) 59 N c) 53 8 (N + 1)) 2 = fun j => if j = N then c else gI σ 2 j := by
      rw [gI_rne (by decide), gI_rne (by decide), gI_rne (by decide)]
      show gI (sI (sI σ 2 N c) 1 1 (N + 1)) 2 = _
      rw [gI_rne (by decide), gI_row]
    have k59 : gI (sI (sI (sI (sL (sI (sI σ 2 N c) 1 1 (N + 1)) 77 0 (BitVec.ofInt 64 (N + 1))) 53 0 0) 59 N c) 53 8 (N + 1)) 59 = fun j => if j = N then c else gI σ 59 j := by
      rw [gI_rne (by decide), gI_row, gI_rne (by decide)]
      show (fun j => if j = N then c else gI (sI (sI σ 2 N c) 1 1 (N + 1)) 59 j) = _
      rw [gI_rne (by decide), gI_rne (by decide)]
    have kL : gL (sI (sI (sI (sL (sI (sI σ 2 N c) 1 1 (N + 1)) 77 0 (BitVec.ofInt 64 (N + 1))) 53 0 0) 59 N c) 53 8 (N + 1)) 77 0 = BitVec.ofInt 64 (N + 1) := by
      show gL (sL (sI (sI σ 2 N c) 1 1 (N + 1)) 77 0 (BitVec.ofInt 64 (N + 1))) 77 0 = _
      rw [gL_sL, if_pos ⟨rfl, rfl⟩]
    generalize sI (sI (sI (sL (sI (sI σ 2 N c) 1 1 (N + 1)) 77 0 (BitVec.ofInt 64 (N + 1))) 53 0 0) 59 N c) 53 8 (N + 1) = σ2 at f k8 k0 k1 k2 k59 kL ⊢
    refine KI_231 (z := 0) ⟨by decide, by decide⟩ ⟨by omega, by omega⟩ k0 (fun _ => kL) (fun b6 b7 b8 => hq σ2 P lim PS lS _ _ _ _ ⟨h00, CI_fr hCI f (fun c j k => by omega), ⟨xs, hC, LQ_fr hLQ f (fun c j k => by omega)⟩, ?_, ?_, ?_, ?_⟩ (funext fun j => fr_I f 79 j (by omega)) (by omega))
    · unfold TX
      rw [k8, k1, k2, k59]
      refine ⟨by omega, rfl, fun p hp => ?_, fun j j0 j1 => ?_⟩
      · show (if p = N then c else gI σ 2 p) = (if p = N then c else gI σ 59 p)
        by_cases q : p = N
        · rw [if_pos q, if_pos q]
        · rw [if_neg q, if_neg q]; exact hTX.2.2.1 p (by omega)
      · show 33 ≤ (if j = N then c else gI σ 59 j) ∧ (if j = N then c else gI σ 59 j) ≤ 126
        by_cases q : j = N
        · rw [if_pos q]; exact a
        · rw [if_neg q]; exact hTX.2.2.2 j j0 (by omega)
    · unfold FJ
      rw [fr_I f 53 10 (by omega), fr_I f 0 9 (by omega)]; exact hF
    · unfold SJ
      rw [fr_I f 53 42 (by omega), fr_I f 0 10 (by omega), fr_I f 12 2 (by omega)]
      exact ⟨hS.1, fun e => ⟨RB_fr (hS.2 e).1 f (fun j => by omega) (fun j => by omega), (hS.2 e).2.1, SV_fr (hS.2 e).2.2 f (fun j => by omega)⟩⟩
    · unfold MJ
      rw [fr_I f 53 38 (by omega), fr_I f 53 39 (by omega), fr_I f 46 9 (by omega), fr_I f 46 10 (by omega)]
      exact ⟨fun a a0 a1 => by rw [fr_L f 49 a (by omega), fr_L f 75 a (by omega)]; exact hM.1 a a0 a1, hM.2⟩
end LO10
