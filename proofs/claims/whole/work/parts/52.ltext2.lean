/-! the law's reader: a statement, a body -/
section LTX2
variable {t : Nat} {σ : St} {Q : Res → St → Prop}
theorem e192 (h : tx2 σ) (hs : 0 ≤ gI σ 58 4 ∧ gI σ 58 4 ≤ 1000) {f p : Int} (hf : 0 ≤ f ∧ f ≤ 3) (p0 : 0 ≤ p ∧ p ≤ 90) : Call t 192 [vR 53, vI f] (sI σ 53 9 p) Q ↔ rsL σ Q (pSt (LH σ) (4 + 4 * f) p) := by
  have hf' : 4 ≤ 4 + 4 * f ∧ 4 + 4 * f ≤ 16 := by omega
  have rv := vn_rng (c := LH σ p) hf'
  have rw2 := vn_rng (c := LH σ (p + 1 + 1)) hf'
  have iN : inR (vn (LH σ p) (4 + 4 * f)) = True := eq_true ⟨by omega, by omega⟩
  have iW : inR (vn (LH σ (p + 1 + 1)) (4 + 4 * f)) = True := eq_true ⟨by omega, by omega⟩
  have hs' : ∀ q, gI (sI σ 53 9 q) 58 4 = gI σ 58 4 := fun q => by rw [gI_sI, if_neg (by omega)]
  unfold pSt pOp
  by_cases q : vn (LH σ p) (4 + 4 * f) < 0
  · rw [if_pos q]
    simp only [x192_0, e189 h (show 0 ≤ p ∧ p ≤ 1000 by omega) hf, q, x192_5, (show inR (-1 : Int) = True from eq_true ⟨by decide, by decide⟩), Int.reduceLT, Int.reduceNeg, x192_19, aft_l, aft_r, optL_s, optL_n, xgo_n, xgo_s, List.cons_append, List.nil_append, List.append_nil, true_and, and_true, Nat.sub_zero, Nat.zero_le, true_implies, false_implies, implies_true, not_true_eq_false, not_false_eq_true, true_or, or_true]
    exact Iff.rfl
  · rw [if_neg q]
    simp only [x192_0, e189 h (show 0 ≤ p ∧ p ≤ 1000 by omega) hf, q, x192_5, iN, x192_10, e188 h (show 0 ≤ p + 1 ∧ p + 1 ≤ 1000 by omega), (show inR (61 : Int) = True from eq_true ⟨by decide, by decide⟩), (show inR (0 : Int) = True from eq_true ⟨by decide, by decide⟩), (show inR (1 : Int) = True from eq_true ⟨by decide, by decide⟩), x192_16, Int.reduceEq, x192_19, aft_l, aft_r, optL_s, optL_n, xgo_n, xgo_s, List.cons_append, List.nil_append, List.append_nil, true_and, and_true, Nat.sub_zero, Nat.zero_le, true_implies, false_implies, implies_true, not_true_eq_false, not_false_eq_true, true_or, or_true]
    by_cases b : LH σ (p + 1) = 61
    · rw [if_pos b]
      simp only [b, x192_21, e189 h (show 0 ≤ p + 1 + 1 ∧ p + 1 + 1 ≤ 1000 by omega) hf, aft_l, aft_r, optL_s, optL_n, xgo_n, xgo_s, List.cons_append, List.nil_append, List.append_nil, true_and, and_true, Nat.sub_zero, Nat.zero_le, true_implies, false_implies, implies_true, not_true_eq_false, not_false_eq_true, true_or, or_true]
      by_cases c : vn (LH σ (p + 1 + 1)) (4 + 4 * f) < 0
      · rw [if_pos c]
        simp only [c, x192_26, (show inR (-1 : Int) = True from eq_true ⟨by decide, by decide⟩), Int.reduceLT, Int.reduceNeg, x192_31, aft_l, aft_r, optL_s, optL_n, xgo_n, xgo_s, List.cons_append, List.nil_append, List.append_nil, true_and, and_true, Nat.sub_zero, Nat.zero_le, true_implies, false_implies, implies_true, not_true_eq_false, not_false_eq_true, true_or, or_true]
        exact Iff.rfl
      · rw [if_neg c]
        simp only [c, x192_26, iW, x192_33, e191 (τ := sI σ 53 9 (p + 1 + 1 + 1)) (k := 3) (by decide) (by rw [hs']; exact hs), x192_41, aft_l, aft_r, optL_s, optL_n, xgo_n, xgo_s, List.cons_append, List.nil_append, List.append_nil, true_and, and_true, Nat.sub_zero, Nat.zero_le, true_implies, false_implies, implies_true, not_true_eq_false, not_false_eq_true, true_or, or_true]
        exact Iff.rfl
    · rw [if_neg b]
      simp only [b, aft_l, aft_r, optL_s, optL_n, xgo_n, xgo_s, List.cons_append, List.nil_append, List.append_nil, true_and, and_true, Nat.sub_zero, Nat.zero_le, true_implies, false_implies, implies_true, not_true_eq_false, not_false_eq_true, true_or, or_true]
      exact Iff.rfl
theorem e193 (h : tx2 σ) (hs : 0 ≤ gI σ 58 4 ∧ gI σ 58 4 ≤ 1000) {f v p : Int} (hf : 0 ≤ f ∧ f ≤ 3) (p0 : 0 ≤ p ∧ p ≤ 90) : Call t 193 [vR 53, vI f, vI v] (sI σ 53 9 p) Q ↔ rsL σ Q (pCl (LH σ) (4 + 4 * f) v p) := by
  have hf' : 4 ≤ 4 + 4 * f ∧ 4 + 4 * f ≤ 16 := by omega
  have rc := LH_rng h (p := p) (by omega)
  have rv := vn_rng (c := LH σ (p + 1 + 1)) hf'
  have i1 : inR (LH σ p - 48) = True := eq_true ⟨by omega, by omega⟩
  have iN : inR (vn (LH σ (p + 1 + 1)) (4 + 4 * f)) = True := eq_true ⟨by omega, by omega⟩
  have hs' : ∀ q, gI (sI σ 53 9 q) 58 4 = gI σ 58 4 := fun q => by rw [gI_sI, if_neg (by omega)]
  unfold pCl
  by_cases a : 48 ≤ LH σ p ∧ LH σ p ≤ 51
  · have a' : 48 ≤ LH σ p ∧ LH σ p ≤ 48 + 3 := by omega
    have a2 : ¬ (LH σ p - 48 < 0) := by omega
    rw [if_pos a]
    simp only [x193_0, e190 h (show 0 ≤ p ∧ p ≤ 1000 by omega) (show 0 ≤ (3 : Int) ∧ (3 : Int) ≤ 9 by omega), a', x193_5, i1, a2, x193_10, e188 h (show 0 ≤ p + 1 ∧ p + 1 ≤ 1000 by omega), x193_16, (show inR (40 : Int) = True from eq_true ⟨by decide, by decide⟩), (show inR (0 : Int) = True from eq_true ⟨by decide, by decide⟩), (show inR (1 : Int) = True from eq_true ⟨by decide, by decide⟩), Int.reduceEq, x193_19, and_self, aft_l, aft_r, optL_s, optL_n, xgo_n, xgo_s, List.cons_append, List.nil_append, List.append_nil, true_and, and_true, Nat.sub_zero, Nat.zero_le, true_implies, false_implies, implies_true, not_true_eq_false, not_false_eq_true, true_or, or_true]
    by_cases b : LH σ (p + 1) = 40
    · rw [if_pos b]
      simp only [b, x193_21, e189 h (show 0 ≤ p + 1 + 1 ∧ p + 1 + 1 ≤ 1000 by omega) hf, aft_l, aft_r, optL_s, optL_n, xgo_n, xgo_s, List.cons_append, List.nil_append, List.append_nil, true_and, and_true, Nat.sub_zero, Nat.zero_le, true_implies, false_implies, implies_true, not_true_eq_false, not_false_eq_true, true_or, or_true]
      by_cases c : vn (LH σ (p + 1 + 1)) (4 + 4 * f) < 0
      · rw [if_pos c]
        simp only [c, x193_26, (show inR (-1 : Int) = True from eq_true ⟨by decide, by decide⟩), Int.reduceLT, Int.reduceNeg, x193_42, aft_l, aft_r, optL_s, optL_n, xgo_n, xgo_s, List.cons_append, List.nil_append, List.append_nil, true_and, and_true, Nat.sub_zero, Nat.zero_le, true_implies, false_implies, implies_true, not_true_eq_false, not_false_eq_true, true_or, or_true]
        exact Iff.rfl
      · rw [if_neg c]
        simp only [c, x193_26, iN, x193_33, e188 h (show 0 ≤ p + 1 + 1 + 1 ∧ p + 1 + 1 + 1 ≤ 1000 by omega), (show inR (41 : Int) = True from eq_true ⟨by decide, by decide⟩), (show inR (0 : Int) = True from eq_true ⟨by decide, by decide⟩), (show inR (1 : Int) = True from eq_true ⟨by decide, by decide⟩), aft_l, aft_r, optL_s, optL_n, xgo_n, xgo_s, List.cons_append, List.nil_append, List.append_nil, true_and, and_true, Nat.sub_zero, Nat.zero_le, true_implies, false_implies, implies_true, not_true_eq_false, not_false_eq_true, true_or, or_true]
        by_cases d : LH σ (p + 1 + 1 + 1) = 41
        · rw [if_pos d]
          simp only [d, x193_39, (show inR (0 : Int) = True from eq_true ⟨by decide, by decide⟩), (show inR (1 : Int) = True from eq_true ⟨by decide, by decide⟩), Int.reduceEq, x193_44, e191 (τ := sI σ 53 9 (p + 1 + 1 + 1 + 1)) (k := 6) (by decide) (by rw [hs']; exact hs), x193_54, aft_l, aft_r, optL_s, optL_n, xgo_n, xgo_s, List.cons_append, List.nil_append, List.append_nil, true_and, and_true, Nat.sub_zero, Nat.zero_le, true_implies, false_implies, implies_true, not_true_eq_false, not_false_eq_true, true_or, or_true]
          exact Iff.rfl
        · rw [if_neg d]
          simp only [d, x193_39, (show inR (0 : Int) = True from eq_true ⟨by decide, by decide⟩), (show inR (1 : Int) = True from eq_true ⟨by decide, by decide⟩), Int.reduceEq, x193_42, aft_l, aft_r, optL_s, optL_n, xgo_n, xgo_s, List.cons_append, List.nil_append, List.append_nil, true_and, and_true, Nat.sub_zero, Nat.zero_le, true_implies, false_implies, implies_true, not_true_eq_false, not_false_eq_true, true_or, or_true]
          exact Iff.rfl
    · rw [if_neg b]
      simp only [b, aft_l, aft_r, optL_s, optL_n, xgo_n, xgo_s, List.cons_append, List.nil_append, List.append_nil, true_and, and_true, Nat.sub_zero, Nat.zero_le, true_implies, false_implies, implies_true, not_true_eq_false, not_false_eq_true, true_or, or_true]
      exact Iff.rfl
  · have a' : ¬ (48 ≤ LH σ p ∧ LH σ p ≤ 48 + 3) := by omega
    rw [if_neg a]
    simp only [x193_0, e190 h (show 0 ≤ p ∧ p ≤ 1000 by omega) (show 0 ≤ (3 : Int) ∧ (3 : Int) ≤ 9 by omega), a', x193_5, (show inR (-1 : Int) = True from eq_true ⟨by decide, by decide⟩), Int.reduceLT, Int.reduceNeg, x193_19, aft_l, aft_r, optL_s, optL_n, xgo_n, xgo_s, List.cons_append, List.nil_append, List.append_nil, true_and, and_true, Nat.sub_zero, Nat.zero_le, true_implies, false_implies, implies_true, not_true_eq_false, not_false_eq_true, true_or, or_true]
    exact Iff.rfl
/-- takesStatement -/
theorem e194 (h : tx2 σ) (hs : 0 ≤ gI σ 58 4 ∧ gI σ 58 4 ≤ 1000) {f p : Int} (hf : 0 ≤ f ∧ f ≤ 3) (p0 : 0 ≤ p ∧ p ≤ 81) : Call t 194 [vR 53, vI f] (sI σ 53 9 p) Q ↔ rsL σ Q (pS (LH σ) (4 + 4 * f) p) := by
  have hf' : 4 ≤ 4 + 4 * f ∧ 4 + 4 * f ≤ 16 := by omega
  have rv := vn_rng (c := LH σ p) hf'
  have iN : inR (vn (LH σ p) (4 + 4 * f)) = True := eq_true ⟨by omega, by omega⟩
  have hs' : ∀ q, gI (sI σ 53 9 q) 58 4 = gI σ 58 4 := fun q => by rw [gI_sI, if_neg (by omega)]
  simp only [x194_0, e188 h (show 0 ≤ p ∧ p ≤ 1000 by omega), (show inR (42 : Int) = True from eq_true ⟨by decide, by decide⟩), (show inR (0 : Int) = True from eq_true ⟨by decide, by decide⟩), (show inR (1 : Int) = True from eq_true ⟨by decide, by decide⟩), x194_6, Int.reduceEq, aft_l, aft_r, optL_s, optL_n, xgo_n, xgo_s, List.cons_append, List.nil_append, List.append_nil, true_and, and_true, Nat.sub_zero, Nat.zero_le, true_implies, false_implies, implies_true, not_true_eq_false, not_false_eq_true, true_or, or_true]
  unfold pS
  by_cases a : LH σ p = 42
  · rw [if_pos a]
    simp only [a, x194_9, e192 h hs hf (show 0 ≤ p + 1 ∧ p + 1 ≤ 90 by omega), aft_l, aft_r, optL_s, optL_n, xgo_n, xgo_s, List.cons_append, List.nil_append, List.append_nil, true_and, and_true, Nat.sub_zero, Nat.zero_le, true_implies, false_implies, implies_true, not_true_eq_false, not_false_eq_true, true_or, or_true]
    refine rsL_iff (fun τ => ?_) (fun τ => ?_) _
    · simp only [aft_l, optL_s, x194_14, aft_l, aft_r, optL_s, optL_n, xgo_n, xgo_s, List.cons_append, List.nil_append, List.append_nil, true_and, and_true, Nat.sub_zero, Nat.zero_le, true_implies, false_implies, implies_true, not_true_eq_false, not_false_eq_true, true_or, or_true]
    · simp only [aft_l, optL_s, x194_14, aft_l, aft_r, optL_s, optL_n, xgo_n, xgo_s, List.cons_append, List.nil_append, List.append_nil, true_and, and_true, Nat.sub_zero, Nat.zero_le, true_implies, false_implies, implies_true, not_true_eq_false, not_false_eq_true, true_or, or_true]
  · rw [if_neg a]
    simp only [a, x194_15, e189 h (show 0 ≤ p ∧ p ≤ 1000 by omega) hf, aft_l, aft_r, optL_s, optL_n, xgo_n, xgo_s, List.cons_append, List.nil_append, List.append_nil, true_and, and_true, Nat.sub_zero, Nat.zero_le, true_implies, false_implies, implies_true, not_true_eq_false, not_false_eq_true, true_or, or_true]
    by_cases c : vn (LH σ p) (4 + 4 * f) < 0
    · rw [if_pos c]
      simp only [c, x194_20, (show inR (-1 : Int) = True from eq_true ⟨by decide, by decide⟩), Int.reduceLT, Int.reduceNeg, x194_34, aft_l, aft_r, optL_s, optL_n, xgo_n, xgo_s, List.cons_append, List.nil_append, List.append_nil, true_and, and_true, Nat.sub_zero, Nat.zero_le, true_implies, false_implies, implies_true, not_true_eq_false, not_false_eq_true, true_or, or_true]
      exact Iff.rfl
    · rw [if_neg c]
      simp only [c, x194_20, iN, x194_25, e188 h (show 0 ≤ p + 1 ∧ p + 1 ≤ 1000 by omega), (show inR (61 : Int) = True from eq_true ⟨by decide, by decide⟩), (show inR (0 : Int) = True from eq_true ⟨by decide, by decide⟩), (show inR (1 : Int) = True from eq_true ⟨by decide, by decide⟩), x194_31, Int.reduceEq, aft_l, aft_r, optL_s, optL_n, xgo_n, xgo_s, List.cons_append, List.nil_append, List.append_nil, true_and, and_true, Nat.sub_zero, Nat.zero_le, true_implies, false_implies, implies_true, not_true_eq_false, not_false_eq_true, true_or, or_true]
      by_cases d : LH σ (p + 1) = 61
      · rw [if_pos d]
        simp only [d, aft_l, aft_r, optL_s, optL_n, xgo_n, xgo_s, List.cons_append, List.nil_append, List.append_nil, true_and, and_true, Nat.sub_zero, Nat.zero_le, true_implies, false_implies, implies_true, not_true_eq_false, not_false_eq_true, true_or, or_true]
        generalize vn (LH σ p) (4 + 4 * f) = v
        have op : ∀ k q : Int, 0 ≤ k ∧ k ≤ 4 → k ≠ 1 → (0 ≤ q ∧ q ≤ 90) → ∀ a3 a4 a5 : Option AV, (wp t 194 118 [some (vR 53), some (vI f), some (vI v), a3, a4, a5] [vI k] (sI σ 53 9 q) Q ↔ rsL σ Q (pOp (LH σ) (4 + 4 * f) k v q)) := fun k q hk hk1 q0 a3 a4 a5 => by
          have rw2 := vn_rng (c := LH σ q) hf'
          have iW : inR (vn (LH σ q) (4 + 4 * f)) = True := eq_true ⟨by omega, by omega⟩
          have ik : inR k = True := eq_true ⟨by omega, by omega⟩
          unfold pOp
          by_cases c : vn (LH σ q) (4 + 4 * f) < 0
          · rw [if_pos c]
            simp only [x194_118, e189 h (show 0 ≤ q ∧ q ≤ 1000 by omega) hf, c, x194_124, (show inR (-1 : Int) = True from eq_true ⟨by decide, by decide⟩), Int.reduceLT, Int.reduceNeg, x194_131, aft_l, aft_r, optL_s, optL_n, xgo_n, xgo_s, List.cons_append, List.nil_append, List.append_nil, true_and, and_true, Nat.sub_zero, Nat.zero_le, true_implies, false_implies, implies_true, not_true_eq_false, not_false_eq_true, true_or, or_true]
            exact Iff.rfl
          · rw [if_neg c]
            simp only [x194_118, e189 h (show 0 ≤ q ∧ q ≤ 1000 by omega) hf, c, x194_124, iW, x194_133, ik, hk1, x194_166, e191 (τ := sI σ 53 9 (q + 1)) (k := k) (show inR k from ⟨by omega, by omega⟩) (by rw [hs']; exact hs), x194_176, aft_l, aft_r, optL_s, optL_n, xgo_n, xgo_s, List.cons_append, List.nil_append, List.append_nil, true_and, and_true, Nat.sub_zero, Nat.zero_le, true_implies, false_implies, implies_true, not_true_eq_false, not_false_eq_true, true_or, or_true]
            exact Iff.rfl
        unfold pRt
        simp only [x194_36, e188 h (show 0 ≤ p + 1 + 1 ∧ p + 1 + 1 ≤ 1000 by omega), (show inR (110 : Int) = True from eq_true ⟨by decide, by decide⟩), (show inR (0 : Int) = True from eq_true ⟨by decide, by decide⟩), (show inR (1 : Int) = True from eq_true ⟨by decide, by decide⟩), x194_42, Int.reduceEq, aft_l, aft_r, optL_s, optL_n, xgo_n, xgo_s, List.cons_append, List.nil_append, List.append_nil, true_and, and_true, Nat.sub_zero, Nat.zero_le, true_implies, false_implies, implies_true, not_true_eq_false, not_false_eq_true, true_or, or_true]
        by_cases d2 : LH σ (p + 1 + 1) = 110
        · rw [if_neg (by omega), if_neg (by omega), if_pos d2]
          simp only [d2, x194_45, e188 h (show 0 ≤ p + 1 + 1 + 1 ∧ p + 1 + 1 + 1 ≤ 1000 by omega), (show inR (101 : Int) = True from eq_true ⟨by decide, by decide⟩), (show inR (0 : Int) = True from eq_true ⟨by decide, by decide⟩), (show inR (1 : Int) = True from eq_true ⟨by decide, by decide⟩), x194_51, Int.reduceEq, aft_l, aft_r, optL_s, optL_n, xgo_n, xgo_s, List.cons_append, List.nil_append, List.append_nil, true_and, and_true, Nat.sub_zero, Nat.zero_le, true_implies, false_implies, implies_true, not_true_eq_false, not_false_eq_true, true_or, or_true]
          by_cases d3 : LH σ (p + 1 + 1 + 1) = 101
          · rw [if_pos d3]
            simp only [d3, x194_54, e188 h (show 0 ≤ p + 1 + 1 + 1 + 1 ∧ p + 1 + 1 + 1 + 1 ≤ 1000 by omega), (show inR (119 : Int) = True from eq_true ⟨by decide, by decide⟩), (show inR (0 : Int) = True from eq_true ⟨by decide, by decide⟩), (show inR (1 : Int) = True from eq_true ⟨by decide, by decide⟩), x194_60, Int.reduceEq, aft_l, aft_r, optL_s, optL_n, xgo_n, xgo_s, List.cons_append, List.nil_append, List.append_nil, true_and, and_true, Nat.sub_zero, Nat.zero_le, true_implies, false_implies, implies_true, not_true_eq_false, not_false_eq_true, true_or, or_true]
            by_cases d4 : LH σ (p + 1 + 1 + 1 + 1) = 119
            · rw [if_pos d4]
              simp only [d4, x194_65, e191 (τ := sI σ 53 9 (p + 1 + 1 + 1 + 1 + 1)) (k := 4) (by decide) (by rw [hs']; exact hs), x194_73, aft_l, aft_r, optL_s, optL_n, xgo_n, xgo_s, List.cons_append, List.nil_append, List.append_nil, true_and, and_true, Nat.sub_zero, Nat.zero_le, true_implies, false_implies, implies_true, not_true_eq_false, not_false_eq_true, true_or, or_true]
              exact Iff.rfl
            · rw [if_neg d4]
              simp only [d4, x194_63, aft_l, aft_r, optL_s, optL_n, xgo_n, xgo_s, List.cons_append, List.nil_append, List.append_nil, true_and, and_true, Nat.sub_zero, Nat.zero_le, true_implies, false_implies, implies_true, not_true_eq_false, not_false_eq_true, true_or, or_true]
              exact Iff.rfl
          · rw [if_neg d3]
            simp only [d3, x194_63, aft_l, aft_r, optL_s, optL_n, xgo_n, xgo_s, List.cons_append, List.nil_append, List.append_nil, true_and, and_true, Nat.sub_zero, Nat.zero_le, true_implies, false_implies, implies_true, not_true_eq_false, not_false_eq_true, true_or, or_true]
            exact Iff.rfl
        simp only [d2, x194_75, e188 h (show 0 ≤ p + 1 + 1 ∧ p + 1 + 1 ≤ 1000 by omega), (show inR (102 : Int) = True from eq_true ⟨by decide, by decide⟩), (show inR (0 : Int) = True from eq_true ⟨by decide, by decide⟩), (show inR (1 : Int) = True from eq_true ⟨by decide, by decide⟩), x194_81, Int.reduceEq, aft_l, aft_r, optL_s, optL_n, xgo_n, xgo_s, List.cons_append, List.nil_append, List.append_nil, true_and, and_true, Nat.sub_zero, Nat.zero_le, true_implies, false_implies, implies_true, not_true_eq_false, not_false_eq_true, true_or, or_true]
        by_cases d5 : LH σ (p + 1 + 1) = 102
        · rw [if_neg (by omega), if_neg (by omega), if_neg (show ¬ False by exact fun h => h), if_pos d5]
          simp only [d5, x194_84, e193 h hs hf (show 0 ≤ p + 1 + 1 + 1 ∧ p + 1 + 1 + 1 ≤ 90 by omega), aft_l, aft_r, optL_s, optL_n, xgo_n, xgo_s, List.cons_append, List.nil_append, List.append_nil, true_and, and_true, Nat.sub_zero, Nat.zero_le, true_implies, false_implies, implies_true, not_true_eq_false, not_false_eq_true, true_or, or_true]
          refine rsL_iff (fun τ => ?_) (fun τ => ?_) _
          · simp only [aft_l, optL_s, x194_90, aft_l, aft_r, optL_s, optL_n, xgo_n, xgo_s, List.cons_append, List.nil_append, List.append_nil, true_and, and_true, Nat.sub_zero, Nat.zero_le, true_implies, false_implies, implies_true, not_true_eq_false, not_false_eq_true, true_or, or_true]
          · simp only [aft_l, optL_s, x194_90, aft_l, aft_r, optL_s, optL_n, xgo_n, xgo_s, List.cons_append, List.nil_append, List.append_nil, true_and, and_true, Nat.sub_zero, Nat.zero_le, true_implies, false_implies, implies_true, not_true_eq_false, not_false_eq_true, true_or, or_true]
        simp only [d5, x194_91, e188 h (show 0 ≤ p + 1 + 1 ∧ p + 1 + 1 ≤ 1000 by omega), (show inR (38 : Int) = True from eq_true ⟨by decide, by decide⟩), (show inR (0 : Int) = True from eq_true ⟨by decide, by decide⟩), (show inR (1 : Int) = True from eq_true ⟨by decide, by decide⟩), x194_97, Int.reduceEq, if_false, aft_l, aft_r, optL_s, optL_n, xgo_n, xgo_s, List.cons_append, List.nil_append, List.append_nil, true_and, and_true, Nat.sub_zero, Nat.zero_le, true_implies, false_implies, implies_true, not_true_eq_false, not_false_eq_true, true_or, or_true]
        by_cases d0 : LH σ (p + 1 + 1) = 38
        · rw [if_pos d0]
          simp only [d0, x194_100, aft_l, aft_r, optL_s, optL_n, xgo_n, xgo_s, List.cons_append, List.nil_append, List.append_nil, true_and, and_true, Nat.sub_zero, Nat.zero_le, true_implies, false_implies, implies_true, not_true_eq_false, not_false_eq_true, true_or, or_true]
          exact op 0 (p + 1 + 1 + 1) (by omega) (by omega) (by omega) _ _ _
        rw [if_neg d0]
        simp only [d0, x194_104, e188 h (show 0 ≤ p + 1 + 1 ∧ p + 1 + 1 ≤ 1000 by omega), (show inR (42 : Int) = True from eq_true ⟨by decide, by decide⟩), (show inR (0 : Int) = True from eq_true ⟨by decide, by decide⟩), (show inR (1 : Int) = True from eq_true ⟨by decide, by decide⟩), x194_110, Int.reduceEq, aft_l, aft_r, optL_s, optL_n, xgo_n, xgo_s, List.cons_append, List.nil_append, List.append_nil, true_and, and_true, Nat.sub_zero, Nat.zero_le, true_implies, false_implies, implies_true, not_true_eq_false, not_false_eq_true, true_or, or_true]
        by_cases d1 : LH σ (p + 1 + 1) = 42
        · rw [if_pos d1]
          simp only [d1, x194_113, aft_l, aft_r, optL_s, optL_n, xgo_n, xgo_s, List.cons_append, List.nil_append, List.append_nil, true_and, and_true, Nat.sub_zero, Nat.zero_le, true_implies, false_implies, implies_true, not_true_eq_false, not_false_eq_true, true_or, or_true]
          exact op 2 (p + 1 + 1 + 1) (by omega) (by omega) (by omega) _ _ _
        rw [if_neg d1]
        simp only [d1, x194_117, aft_l, aft_r, optL_s, optL_n, xgo_n, xgo_s, List.cons_append, List.nil_append, List.append_nil, true_and, and_true, Nat.sub_zero, Nat.zero_le, true_implies, false_implies, implies_true, not_true_eq_false, not_false_eq_true, true_or, or_true]
        have rw2 := vn_rng (c := LH σ (p + 1 + 1)) hf'
        have rc := LH_rng h (p := p + 1 + 1 + 1 + 1) (by omega)
        have iW : inR (vn (LH σ (p + 1 + 1)) (4 + 4 * f)) = True := eq_true ⟨by omega, by omega⟩
        unfold pCo
        by_cases c2 : vn (LH σ (p + 1 + 1)) (4 + 4 * f) < 0
        · rw [if_pos c2]
          simp only [x194_118, e189 h (show 0 ≤ p + 1 + 1 ∧ p + 1 + 1 ≤ 1000 by omega) hf, c2, x194_124, (show inR (-1 : Int) = True from eq_true ⟨by decide, by decide⟩), Int.reduceLT, Int.reduceNeg, x194_131, aft_l, aft_r, optL_s, optL_n, xgo_n, xgo_s, List.cons_append, List.nil_append, List.append_nil, true_and, and_true, Nat.sub_zero, Nat.zero_le, true_implies, false_implies, implies_true, not_true_eq_false, not_false_eq_true, true_or, or_true]
          exact Iff.rfl
        · rw [if_neg c2]
          simp only [x194_118, e189 h (show 0 ≤ p + 1 + 1 ∧ p + 1 + 1 ≤ 1000 by omega) hf, c2, x194_124, iW, x194_133, (show inR (1 : Int) = True from eq_true ⟨by decide, by decide⟩), (show inR (0 : Int) = True from eq_true ⟨by decide, by decide⟩), (show inR (43 : Int) = True from eq_true ⟨by decide, by decide⟩), x194_141, e188 h (show 0 ≤ p + 1 + 1 + 1 ∧ p + 1 + 1 + 1 ≤ 1000 by omega), x194_147, Int.reduceEq, aft_l, aft_r, optL_s, optL_n, xgo_n, xgo_s, List.cons_append, List.nil_append, List.append_nil, true_and, and_true, Nat.sub_zero, Nat.zero_le, true_implies, false_implies, implies_true, not_true_eq_false, not_false_eq_true, true_or, or_true]
          by_cases d6 : LH σ (p + 1 + 1 + 1) = 43
          · rw [if_pos d6]
            simp only [d6, x194_150, e190 h (show 0 ≤ p + 1 + 1 + 1 + 1 ∧ p + 1 + 1 + 1 + 1 ≤ 1000 by omega) (show 0 ≤ (2 : Int) ∧ (2 : Int) ≤ 9 by omega), aft_l, aft_r, optL_s, optL_n, xgo_n, xgo_s, List.cons_append, List.nil_append, List.append_nil, true_and, and_true, Nat.sub_zero, Nat.zero_le, true_implies, false_implies, implies_true, not_true_eq_false, not_false_eq_true, true_or, or_true]
            by_cases d7 : 48 ≤ LH σ (p + 1 + 1 + 1 + 1) ∧ LH σ (p + 1 + 1 + 1 + 1) ≤ 50
            · have a' : 48 ≤ LH σ (p + 1 + 1 + 1 + 1) ∧ LH σ (p + 1 + 1 + 1 + 1) ≤ 48 + 2 := by omega
              have a2 : ¬ (LH σ (p + 1 + 1 + 1 + 1) - 48 < 0) := by omega
              have i1 : inR (LH σ (p + 1 + 1 + 1 + 1) - 48) = True := eq_true ⟨by omega, by omega⟩
              rw [if_pos d7]
              simp only [a', x194_157, i1, a2, x194_166, e191 (τ := sI σ 53 9 (p + 1 + 1 + 1 + 1 + 1)) (k := 5) (by decide) (by rw [hs']; exact hs), x194_176, and_self, aft_l, aft_r, optL_s, optL_n, xgo_n, xgo_s, List.cons_append, List.nil_append, List.append_nil, true_and, and_true, Nat.sub_zero, Nat.zero_le, true_implies, false_implies, implies_true, not_true_eq_false, not_false_eq_true, true_or, or_true]
              exact Iff.rfl
            · have a' : ¬ (48 ≤ LH σ (p + 1 + 1 + 1 + 1) ∧ LH σ (p + 1 + 1 + 1 + 1) ≤ 48 + 2) := by omega
              rw [if_neg d7]
              simp only [a', x194_157, (show inR (-1 : Int) = True from eq_true ⟨by decide, by decide⟩), Int.reduceLT, Int.reduceNeg, x194_164, aft_l, aft_r, optL_s, optL_n, xgo_n, xgo_s, List.cons_append, List.nil_append, List.append_nil, true_and, and_true, Nat.sub_zero, Nat.zero_le, true_implies, false_implies, implies_true, not_true_eq_false, not_false_eq_true, true_or, or_true]
              exact Iff.rfl
          · rw [if_neg d6]
            simp only [d6, x194_166, e191 (τ := sI σ 53 9 (p + 1 + 1 + 1)) (k := 1) (by decide) (by rw [hs']; exact hs), x194_176, aft_l, aft_r, optL_s, optL_n, xgo_n, xgo_s, List.cons_append, List.nil_append, List.append_nil, true_and, and_true, Nat.sub_zero, Nat.zero_le, true_implies, false_implies, implies_true, not_true_eq_false, not_false_eq_true, true_or, or_true]
            exact Iff.rfl
      · rw [if_neg d]
        simp only [d, x194_34, aft_l, aft_r, optL_s, optL_n, xgo_n, xgo_s, List.cons_append, List.nil_append, List.append_nil, true_and, and_true, Nat.sub_zero, Nat.zero_le, true_implies, false_implies, implies_true, not_true_eq_false, not_false_eq_true, true_or, or_true]
        exact Iff.rfl
def LD (τ : St) (L : List St4) : Prop := gI τ 58 4 = L.length ∧ (gI τ 53 12 = cq 4 L ∧ (gI τ 53 13 = cq 6 L ∧ ∀ i : Nat, i < L.length → i < 12 → gI τ 54 (48 + i) = (L.getD i s0).1 ∧ (gI τ 55 (48 + i) = (L.getD i s0).2.1 ∧ (gI τ 56 (48 + i) = (L.getD i s0).2.2.1 ∧ gI τ 57 (48 + i) = (L.getD i s0).2.2.2))))
theorem LD_9 {τ : St} {L : List St4} {q : Int} (h : LD τ L) : LD (sI τ 53 9 q) L := by
  obtain ⟨h1, h2, h3, h4⟩ := h
  unfold LD
  rw [gI_rne (by decide), gI_sI, if_neg (by omega), gI_sI, if_neg (by omega), gI_rne (by decide), gI_rne (by decide), gI_rne (by decide), gI_rne (by decide)]
  exact ⟨h1, h2, h3, h4⟩
theorem LD_add {τ : St} {L : List St4} {s : St4} (h : LD τ L) : LD (ladd s τ) (L ++ [s]) := by
  obtain ⟨h1, h2, h3, h4⟩ := h
  unfold ladd
  refine ⟨?_, ?_, ?_, fun i i0 i1 => ?_⟩
  · rw [gI_rne (by decide), gI_rne (by decide), gI_sI, if_pos ⟨rfl, rfl⟩, h1, List.length_append, List.length_singleton]; omega
  · rw [gI_sI, if_neg (by omega), gI_sI, if_pos ⟨rfl, rfl⟩, h2, cq_app]
  · rw [gI_sI, if_pos ⟨rfl, rfl⟩, h3, cq_app]
  · rw [gI_rne (by decide), gI_rne (by decide), gI_rne (by decide), gI_rne (by decide), gI_rne (by decide), gI_rne (by decide), gI_rne (by decide), gI_rne (by decide), gI_rne (by decide), gI_rne (by decide), gI_rne (by decide), gI_rne (by decide)]
    rw [List.length_append, List.length_singleton] at i0
    unfold lput
    by_cases q : i = L.length
    · rw [if_pos (by omega), q, h1, gl_last]
      simp only [gI_sI, gL_sI, gD_sI, gI_sL, gL_sL, gD_sL, gI_sD, gL_sD, gD_sD, Nat.reduceEqDiff, Int.reduceEq, reduceCtorEq, false_and, and_false, and_self, if_true, if_false, not_false_eq_true, not_true_eq_false, and_self]
    · rw [gl_app (by omega)]
      have := h4 i (by omega) i1
      by_cases q2 : gI τ 58 4 < 12
      · rw [if_pos q2, h1]
        have ne : ¬ ((48 : Int) + (i : Int) = 48 + (L.length : Int)) := by omega
        simp only [gI_sI, gL_sI, gD_sI, gI_sL, gL_sL, gD_sL, gI_sD, gL_sD, gD_sD, Nat.reduceEqDiff, Int.reduceEq, reduceCtorEq, false_and, and_false, and_self, if_true, if_false, not_false_eq_true, not_true_eq_false, ne]
        exact this
      · rw [if_neg q2]; exact this
def rL : Nat → Int → Prop := fun c j => (54 ≤ c ∧ c ≤ 57 ∧ 48 ≤ j) ∨ (c = 58 ∧ j = 4) ∨ (c = 53 ∧ (j = 9 ∨ j = 12 ∨ j = 13))
theorem fr_ladd {s : St4} {τ : St} (h : 0 ≤ gI τ 58 4) : fr rL τ (ladd s τ) := by
  unfold ladd
  refine fr_sI (fr_sI (fr_sI ?_ (by unfold rL; omega)) (by unfold rL; omega)) (by unfold rL; omega)
  unfold lput
  split
  · exact fr_sI (fr_sI (fr_sI (fr_sI fr_refl (by unfold rL; omega)) (by unfold rL; omega)) (by unfold rL; omega)) (by unfold rL; omega)
  · exact fr_refl
def lT (σ : St) (f : Int) : Int × List St4 := if gI σ 53 8 = 0 then (-1, []) else pT (LH σ) (4 + 4 * f) (gI σ 53 8) 80 0 []
theorem LH_fr {σ τ : St} (h : fr rL σ τ) : LH τ = LH σ := funext fun p => by
  unfold LH
  rw [fr_I h 53 8 (by unfold rL; omega), fr_I h 59 p (by unfold rL; omega)]
theorem tx2_fr {M : Nat → Int → Prop} {σ τ : St} (h : tx2 σ) (g : fr M σ τ) (h1 : ¬ M 53 8) (h2 : ∀ j, ¬ M 59 j) : tx2 τ := by
  unfold tx2
  rw [fr_I g 53 8 h1]
  exact ⟨h.1, fun i i0 i1 => by rw [fr_I g 59 i (h2 i)]; exact h.2 i i0 i1⟩
theorem ltl {σ0 : St} {f : Int} (h : tx2 σ0) (hf : 0 ≤ f ∧ f ≤ 3) :
    ∀ (d : Nat) (p : Int) (L : List St4) (τ : St), 4 * (80 - (d : Int)) ≤ p → d ≤ 80 → fr rL σ0 τ → gI τ 53 9 = p → LD τ L → 0 ≤ p → p ≤ gI σ0 53 8 → (L.length : Int) + d ≤ 80 → (∀ σ', LD σ' (pT (LH σ0) (4 + 4 * f) (gI σ0 53 8) d p L).2 → fr rL σ0 σ' → ((pT (LH σ0) (4 + 4 * f) (gI σ0 53 8) d p L).1 = -1 → Q (.inl (some (vI 1))) σ') ∧ ((pT (LH σ0) (4 + 4 * f) (gI σ0 53 8) d p L).1 ≠ -1 → gI σ' 53 9 = (pT (LH σ0) (4 + 4 * f) (gI σ0 53 8) d p L).1 → Q (.inl (some (vI 0))) σ')) → wp t 195 33 [some (vR 53), some (vI f), some (vI 1)] [] τ Q
  | 0, p, L, τ, hd, hd2, hfr, h2, hD, p0, p1, hl, hq => by
    have := h.1
    omega
  | d + 1, p, L, τ, hd, hd2, hfr, h2, hD, p0, p1, hl, hq => by
    have hlen := h.1
    have hN := txN_LH h
    have ht := tx2_fr h hfr (by unfold rL; omega) (fun j => by unfold rL; omega)
    have hs := pS_ok hN (f0 := 4 + 4 * f) (by omega) p0 p1
    have eC := LH_fr hfr
    have e1 : gI τ 53 8 = gI σ0 53 8 := fr_I hfr _ _ (by unfold rL; omega)
    have eτ : sI τ 53 9 p = τ := by rw [← h2]; exact sI_self
    have e4' := e194 (t := 0) (σ := τ) (Q := fun r σ' => aft r (fun vs => wp t 195 42 [some (vR 53), some (vI f), some (vI 1)] (vs ++ []) σ' Q) (fun X => Q (.inr X) σ')) ht (by rw [hD.1]; exact ⟨by omega, by omega⟩) hf (p := p) (by omega)
    rw [eτ, eC] at e4'
    unfold pT at hq
    rw [x195_33]
    refine ⟨by decide, fun h => absurd h (by decide), fun _ => ?_⟩
    rw [x195_37, e4']
    generalize hr : pS (LH σ0) (4 + 4 * f) p = r at hs hq
    obtain ⟨q, o⟩ := r
    obtain ⟨⟨q0, q1⟩, hs⟩ := hs
    have q0 : p ≤ q := q0
    have q1 : q ≤ gI σ0 53 8 := q1
    have hfq : fr rL τ (sI τ 53 9 q) := fr_sI fr_refl (by unfold rL; omega)
    cases o with
    | none =>
      rw [rsL_n]
      simp only [x195_42, (show inR (0 : Int) = True from eq_true ⟨by decide, by decide⟩), Int.reduceEq, x195_45, aft_l, aft_r, optL_s, optL_n, xgo_n, xgo_s, List.cons_append, List.nil_append, List.append_nil, true_and, and_true, Nat.sub_zero, Nat.zero_le, true_implies, false_implies, implies_true, not_true_eq_false, not_false_eq_true, true_or, or_true]
      exact (hq _ (LD_9 hD) (fr_trans hfr hfq)).2 (by show q ≠ -1; omega) g9p
    | some s =>
      have hs := hs s rfl
      have hs2 : p + 3 ≤ q := hs.2
      have hD2 : LD (ladd s (sI τ 53 9 q)) (L ++ [s]) := LD_add (LD_9 hD)
      have hf2 : fr rL σ0 (ladd s (sI τ 53 9 q)) := fr_trans hfr (fr_trans hfq (fr_ladd (by rw [gI_rne (by decide), hD.1]; omega)))
      have g12 : gI (ladd s (sI τ 53 9 q)) 53 9 = q := by
        unfold ladd
        rw [gI_sI, if_neg (by omega), gI_sI, if_neg (by omega), gI_rne (by decide)]
        unfold lput
        split
        · rw [gI_rne (by decide), gI_rne (by decide), gI_rne (by decide), gI_rne (by decide)]; exact g9p
        · exact g9p
      have g11 : gI (ladd s (sI τ 53 9 q)) 53 8 = gI σ0 53 8 := fr_I hf2 _ _ (by unfold rL; omega)
      have hl2 : ((L ++ [s]).length : Int) + d ≤ 80 := by rw [List.length_append, List.length_singleton]; omega
      rw [rsL_s]
      generalize ladd s (sI τ 53 9 q) = τ2 at hD2 hf2 g12 g11
      have ht2 := tx2_fr h hf2 (by unfold rL; omega) (fun j => by unfold rL; omega)
      have eτ2 : sI τ2 53 9 q = τ2 := by rw [← g12]; exact sI_self
      have e9' := e188 (t := 0) (σ := τ2) (Q := fun r σ' => aft r (fun vs => wp t 195 53 [some (vR 53), some (vI f), some (vI 1)] (vs ++ []) σ' Q) (fun X => Q (.inr X) σ')) ht2 (p := q) (c := 59) (by omega)
      rw [eτ2, LH_fr hf2] at e9'
      simp only [x195_42, (show inR (1 : Int) = True from eq_true ⟨by decide, by decide⟩), Int.reduceEq, aft_l, aft_r, optL_s, optL_n, xgo_n, xgo_s, List.cons_append, List.nil_append, List.append_nil, true_and, and_true, Nat.sub_zero, Nat.zero_le, true_implies, false_implies, implies_true, not_true_eq_false, not_false_eq_true, true_or, or_true]
      rw [x195_47, e9']
      refine ⟨by decide, fun b => ?_, fun b => ?_⟩
      · have hne : q < gI σ0 53 8 := txN_lt hN (by omega) (by rw [b]; decide)
        simp only [if_neg (show ¬ q = gI σ0 53 8 by omega), if_pos b] at hq
        simp only [x195_53, aft_l, aft_r, optL_s, optL_n, xgo_n, xgo_s, List.cons_append, List.nil_append, List.append_nil, true_and, and_true, Nat.sub_zero, Nat.zero_le, true_implies, false_implies, implies_true, not_true_eq_false, not_false_eq_true, true_or, or_true]
        have hfq2 : fr rL τ2 (sI τ2 53 9 (q + 1)) := fr_sI fr_refl (by unfold rL; omega)
        exact ltl h hf d (q + 1) (L ++ [s]) _ (by omega) (by omega) (fr_trans hf2 hfq2) g9p (LD_9 hD2) (by omega) (by omega) hl2 hq
      · simp only [x195_53, x195_33, (show inR (0 : Int) = True from eq_true ⟨by decide, by decide⟩), x195_57, g12, g11, aft_l, aft_r, optL_s, optL_n, xgo_n, xgo_s, List.cons_append, List.nil_append, List.append_nil, true_and, and_true, Nat.sub_zero, Nat.zero_le, true_implies, false_implies, implies_true, not_true_eq_false, not_false_eq_true, true_or, or_true]
        refine ⟨⟨⟨by omega, by omega⟩, ⟨by omega, by omega⟩⟩, fun e => ?_, fun e => ?_⟩
        · simp only [if_pos e] at hq
          rw [x195_68, x195_73]
          exact ⟨Or.inr rfl, (hq τ2 hD2 hf2).1 trivial⟩
        · simp only [if_neg e, if_neg b] at hq
          rw [x195_72, x195_73]
          exact ⟨Or.inl rfl, (hq τ2 hD2 hf2).2 (by show q ≠ -1; omega) g12⟩
/-- takesText -/
theorem c195 (h : tx2 σ) {f : Int} (hf : 0 ≤ f ∧ f ≤ 3) (hq : ∀ σ', LD σ' (lT σ f).2 → fr rL σ σ' → ((lT σ f).1 = -1 → Q (.inl (some (vI 1))) σ') ∧ ((lT σ f).1 ≠ -1 → gI σ' 53 9 = (lT σ f).1 → Q (.inl (some (vI 0))) σ')) : Call t 195 [vR 53, vI f] σ Q := by
  have hl := h.1
  have e8 : gI (sI (sI (sI (sI σ 53 9 0) 58 4 0) 53 12 0) 53 13 0) 53 8 = gI σ 53 8 := by
    rw [gI_sI, if_neg (by omega), gI_sI, if_neg (by omega), gI_rne (by decide), gI_sI, if_neg (by omega)]
  have hf0 : fr rL σ (sI (sI (sI (sI σ 53 9 0) 58 4 0) 53 12 0) 53 13 0) := fr_sI (fr_sI (fr_sI (fr_sI fr_refl (by unfold rL; omega)) (by unfold rL; omega)) (by unfold rL; omega)) (by unfold rL; omega)
  have hD0 : LD (sI (sI (sI (sI σ 53 9 0) 58 4 0) 53 12 0) 53 13 0) [] := ⟨by rw [gI_rne (by decide), gI_rne (by decide), gI_sI, if_pos ⟨rfl, rfl⟩]; rfl, by rw [gI_sI, if_neg (by omega), gI_sI, if_pos ⟨rfl, rfl⟩]; rfl, by rw [gI_sI, if_pos ⟨rfl, rfl⟩]; rfl, fun i hi => absurd hi (Nat.not_lt_zero i)⟩
  unfold lT at hq
  rw [x195_0, e8]
  refine ⟨⟨by omega, by omega⟩, fun e => ?_, fun e => ?_⟩
  · rw [if_pos e] at hq
    rw [x195_29]; exact (hq _ hD0 hf0).1 rfl
  · rw [if_neg e] at hq
    rw [x195_31]
    refine ltl (σ0 := σ) h hf 80 0 [] _ (by omega) (by omega) hf0 ?_ hD0 (by omega) (by omega) (by simp) hq
    rw [gI_sI, if_neg (by omega), gI_sI, if_neg (by omega), gI_rne (by decide), gI_sI, if_pos ⟨rfl, rfl⟩]
end LTX2
