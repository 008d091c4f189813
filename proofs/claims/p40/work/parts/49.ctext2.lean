/-! the class's reader: a statement -/
def rsC (σ : St) (Q : Res → St → Prop) (r : Int × Option St4) : Prop := match r with
  | (p, none) => Q (.inl (some (vI 0))) (sI σ 1 2 p)
  | (p, some s) => Q (.inl (some (vI 1))) (dadd s (sI σ 1 2 p))
theorem rsC_iff {σ : St} {Q Q' : Res → St → Prop} (h0 : ∀ τ, Q' (.inl (some (vI 0))) τ ↔ Q (.inl (some (vI 0))) τ) (h1 : ∀ τ, Q' (.inl (some (vI 1))) τ ↔ Q (.inl (some (vI 1))) τ) (r : Int × Option St4) : rsC σ Q' r ↔ rsC σ Q r := by
  obtain ⟨p, o⟩ := r
  cases o with
  | none => exact h0 _
  | some s => exact h1 _
def pSt (N : Int → Int) (f0 p : Int) : Int × Option St4 := if vn (N p) f0 < 0 then (p, none) else if N (p + 1) = 61 then pOp N f0 3 (vn (N p) f0) (p + 1 + 1) else (p + 1, none)
section TX2
variable {t : Nat} {σ : St} {Q : Res → St → Prop}
theorem e6 (h : tx1 σ) (hf : 4 ≤ gI σ 1 3 ∧ gI σ 1 3 ≤ 16) (hs : inR (gI σ 3 1)) {k v p : Int} (p0 : 0 ≤ p ∧ p ≤ 100) (hk : 0 ≤ k ∧ k ≤ 4) (hv : 0 ≤ v ∧ v ≤ 19) : Call t 6 [vR 1, vR 3, vI k, vI v] (sI σ 1 2 p) Q ↔ rsC σ Q (pOp (CH σ) (gI σ 1 3) k v p) := by
  have rv := vn_rng (c := CH σ p) hf
  have iN : inR (vn (CH σ p) (gI σ 1 3)) = True := eq_true ⟨by omega, by omega⟩
  have hs' : ∀ q, gI (sI σ 1 2 q) 3 1 = gI σ 3 1 := fun q => by rw [gI_sI, if_neg (by omega)]
  unfold pOp
  by_cases q : vn (CH σ p) (gI σ 1 3) < 0
  · rw [if_pos q]
    simp only [x6_0, e11 h hf (show 0 ≤ p ∧ p ≤ 1000 by omega), q, x6_4, (show inR (-1 : Int) = True from eq_true ⟨by decide, by decide⟩), Int.reduceLT, Int.reduceNeg, x6_27, x6_28, aft_l, aft_r, optL_s, optL_n, xgo_n, xgo_s, List.cons_append, List.nil_append, List.append_nil, true_and, and_true, Nat.sub_zero, Nat.zero_le, true_implies, false_implies, implies_true, not_true_eq_false, not_false_eq_true, true_or, or_true]
    exact Iff.rfl
  · have ho : ok4 (k, v, vn (CH σ p) (gI σ 1 3), 0) := ⟨⟨hk.1, by show k ≤ 6; omega⟩, ⟨hv, ⟨by show 0 ≤ vn (CH σ p) (gI σ 1 3); omega, rv.2⟩, by show (0 : Int) ≤ 0; omega, by show (0 : Int) ≤ 3; omega⟩, fun e => by have e : k = 5 := e; omega⟩
    rw [if_neg q]
    simp only [x6_0, e11 h hf (show 0 ≤ p ∧ p ≤ 1000 by omega), q, x6_4, iN, x6_11, e31 (τ := sI σ 1 2 (p + 1)) ho (by rw [hs']; exact hs), x6_20, (show inR (1 : Int) = True from eq_true ⟨by decide, by decide⟩), Int.reduceEq, x6_23, x6_28, aft_l, aft_r, optL_s, optL_n, xgo_n, xgo_s, List.cons_append, List.nil_append, List.append_nil, true_and, and_true, Nat.sub_zero, Nat.zero_le, true_implies, false_implies, implies_true, not_true_eq_false, not_false_eq_true, true_or, or_true]
    exact Iff.rfl
theorem e5 (h : tx1 σ) (hf : 4 ≤ gI σ 1 3 ∧ gI σ 1 3 ≤ 16) (hs : inR (gI σ 3 1)) {p : Int} (p0 : 0 ≤ p ∧ p ≤ 90) : Call t 5 [vR 1, vR 3] (sI σ 1 2 p) Q ↔ rsC σ Q (pSt (CH σ) (gI σ 1 3) p) := by
  have rv := vn_rng (c := CH σ p) hf
  have iN : inR (vn (CH σ p) (gI σ 1 3)) = True := eq_true ⟨by omega, by omega⟩
  unfold pSt
  by_cases q : vn (CH σ p) (gI σ 1 3) < 0
  · rw [if_pos q]
    simp only [x5_0, e11 h hf (show 0 ≤ p ∧ p ≤ 1000 by omega), q, x5_4, (show inR (-1 : Int) = True from eq_true ⟨by decide, by decide⟩), Int.reduceLT, Int.reduceNeg, x5_32, x5_33, aft_l, aft_r, optL_s, optL_n, xgo_n, xgo_s, List.cons_append, List.nil_append, List.append_nil, true_and, and_true, Nat.sub_zero, Nat.zero_le, true_implies, false_implies, implies_true, not_true_eq_false, not_false_eq_true, true_or, or_true]
    exact Iff.rfl
  · rw [if_neg q]
    simp only [x5_0, e11 h hf (show 0 ≤ p ∧ p ≤ 1000 by omega), q, x5_4, iN, x5_9, e9 h (show 0 ≤ p + 1 ∧ p + 1 ≤ 1000 by omega), (show inR (61 : Int) = True from eq_true ⟨by decide, by decide⟩), (show inR (0 : Int) = True from eq_true ⟨by decide, by decide⟩), (show inR (1 : Int) = True from eq_true ⟨by decide, by decide⟩), x5_15, Int.reduceEq, x5_32, x5_33, aft_l, aft_r, optL_s, optL_n, xgo_n, xgo_s, List.cons_append, List.nil_append, List.append_nil, true_and, and_true, Nat.sub_zero, Nat.zero_le, true_implies, false_implies, implies_true, not_true_eq_false, not_false_eq_true, true_or, or_true]
    by_cases b : CH σ (p + 1) = 61
    · rw [if_pos b]
      simp only [b, x5_18, e6 h hf hs (show 0 ≤ p + 1 + 1 ∧ p + 1 + 1 ≤ 100 by omega) (show 0 ≤ (3 : Int) ∧ (3 : Int) ≤ 4 by omega) (show 0 ≤ vn (CH σ p) (gI σ 1 3) ∧ vn (CH σ p) (gI σ 1 3) ≤ 19 by omega), aft_l, aft_r, optL_s, optL_n, xgo_n, xgo_s, List.cons_append, List.nil_append, List.append_nil, true_and, and_true, Nat.sub_zero, Nat.zero_le, true_implies, false_implies, implies_true, not_true_eq_false, not_false_eq_true, true_or, or_true]
      refine rsC_iff (fun τ => ?_) (fun τ => ?_) _
      · simp only [aft_l, optL_s, x5_25, x5_32, x5_33, (show inR (0 : Int) = True from eq_true ⟨by decide, by decide⟩), Int.reduceEq, aft_l, aft_r, optL_s, optL_n, xgo_n, xgo_s, List.cons_append, List.nil_append, List.append_nil, true_and, and_true, Nat.sub_zero, Nat.zero_le, true_implies, false_implies, implies_true, not_true_eq_false, not_false_eq_true, true_or, or_true]
      · simp only [aft_l, optL_s, x5_25, x5_28, x5_33, (show inR (1 : Int) = True from eq_true ⟨by decide, by decide⟩), Int.reduceEq, aft_l, aft_r, optL_s, optL_n, xgo_n, xgo_s, List.cons_append, List.nil_append, List.append_nil, true_and, and_true, Nat.sub_zero, Nat.zero_le, true_implies, false_implies, implies_true, not_true_eq_false, not_false_eq_true, true_or, or_true]
    · rw [if_neg b]
      simp only [b, aft_l, aft_r, optL_s, optL_n, xgo_n, xgo_s, List.cons_append, List.nil_append, List.append_nil, true_and, and_true, Nat.sub_zero, Nat.zero_le, true_implies, false_implies, implies_true, not_true_eq_false, not_false_eq_true, true_or, or_true]
      exact Iff.rfl
theorem e7 (h : tx1 σ) (hf : 4 ≤ gI σ 1 3 ∧ gI σ 1 3 ≤ 16) (hs : inR (gI σ 3 1)) {v p : Int} (p0 : 0 ≤ p ∧ p ≤ 90) (hv : 0 ≤ v ∧ v ≤ 19) : Call t 7 [vR 1, vR 3, vI v] (sI σ 1 2 p) Q ↔ rsC σ Q (pCl (CH σ) (gI σ 1 3) v p) := by
  have rc := CH_rng h (p := p) (by omega)
  have rv := vn_rng (c := CH σ (p + 1 + 1)) hf
  have i1 : inR (CH σ p - 48) = True := eq_true ⟨by omega, by omega⟩
  have iN : inR (vn (CH σ (p + 1 + 1)) (gI σ 1 3)) = True := eq_true ⟨by omega, by omega⟩
  have hs' : ∀ q, gI (sI σ 1 2 q) 3 1 = gI σ 3 1 := fun q => by rw [gI_sI, if_neg (by omega)]
  unfold pCl
  by_cases a : 48 ≤ CH σ p ∧ CH σ p ≤ 51
  · have a' : 48 ≤ CH σ p ∧ CH σ p ≤ 48 + 3 := by omega
    have a2 : ¬ (CH σ p - 48 < 0) := by omega
    rw [if_pos a]
    simp only [x7_0, e10 h (show 0 ≤ p ∧ p ≤ 1000 by omega) (show 0 ≤ (3 : Int) ∧ (3 : Int) ≤ 9 by omega), a', x7_5, i1, a2, x7_10, e9 h (show 0 ≤ p + 1 ∧ p + 1 ≤ 1000 by omega), x7_16, (show inR (40 : Int) = True from eq_true ⟨by decide, by decide⟩), (show inR (0 : Int) = True from eq_true ⟨by decide, by decide⟩), (show inR (1 : Int) = True from eq_true ⟨by decide, by decide⟩), Int.reduceEq, x7_19, and_self, aft_l, aft_r, optL_s, optL_n, xgo_n, xgo_s, List.cons_append, List.nil_append, List.append_nil, true_and, and_true, Nat.sub_zero, Nat.zero_le, true_implies, false_implies, implies_true, not_true_eq_false, not_false_eq_true, true_or, or_true]
    by_cases b : CH σ (p + 1) = 40
    · rw [if_pos b]
      simp only [b, x7_21, e11 h hf (show 0 ≤ p + 1 + 1 ∧ p + 1 + 1 ≤ 1000 by omega), aft_l, aft_r, optL_s, optL_n, xgo_n, xgo_s, List.cons_append, List.nil_append, List.append_nil, true_and, and_true, Nat.sub_zero, Nat.zero_le, true_implies, false_implies, implies_true, not_true_eq_false, not_false_eq_true, true_or, or_true]
      by_cases c : vn (CH σ (p + 1 + 1)) (gI σ 1 3) < 0
      · rw [if_pos c]
        simp only [c, x7_25, (show inR (-1 : Int) = True from eq_true ⟨by decide, by decide⟩), Int.reduceLT, Int.reduceNeg, x7_58, x7_59, aft_l, aft_r, optL_s, optL_n, xgo_n, xgo_s, List.cons_append, List.nil_append, List.append_nil, true_and, and_true, Nat.sub_zero, Nat.zero_le, true_implies, false_implies, implies_true, not_true_eq_false, not_false_eq_true, true_or, or_true]
        exact Iff.rfl
      · rw [if_neg c]
        simp only [c, x7_25, iN, x7_32, e9 h (show 0 ≤ p + 1 + 1 + 1 ∧ p + 1 + 1 + 1 ≤ 1000 by omega), (show inR (41 : Int) = True from eq_true ⟨by decide, by decide⟩), (show inR (0 : Int) = True from eq_true ⟨by decide, by decide⟩), (show inR (1 : Int) = True from eq_true ⟨by decide, by decide⟩), aft_l, aft_r, optL_s, optL_n, xgo_n, xgo_s, List.cons_append, List.nil_append, List.append_nil, true_and, and_true, Nat.sub_zero, Nat.zero_le, true_implies, false_implies, implies_true, not_true_eq_false, not_false_eq_true, true_or, or_true]
        by_cases d : CH σ (p + 1 + 1 + 1) = 41
        · have ho : ok4 (6, v, vn (CH σ (p + 1 + 1)) (gI σ 1 3), CH σ p - 48) := ⟨⟨by show (0 : Int) ≤ 6; omega, by show (6 : Int) ≤ 6; omega⟩, ⟨hv, ⟨by show 0 ≤ vn (CH σ (p + 1 + 1)) (gI σ 1 3); omega, rv.2⟩, by show 0 ≤ CH σ p - 48; omega, by show CH σ p - 48 ≤ 3; omega⟩, fun e => by have e : (6 : Int) = 5 := e; omega⟩
          rw [if_pos d]
          simp only [d, x7_38, (show inR (0 : Int) = True from eq_true ⟨by decide, by decide⟩), (show inR (1 : Int) = True from eq_true ⟨by decide, by decide⟩), Int.reduceEq, x7_41, e31 (τ := sI σ 1 2 (p + 1 + 1 + 1 + 1)) ho (by rw [hs']; exact hs), x7_51, x7_54, x7_59, aft_l, aft_r, optL_s, optL_n, xgo_n, xgo_s, List.cons_append, List.nil_append, List.append_nil, true_and, and_true, Nat.sub_zero, Nat.zero_le, true_implies, false_implies, implies_true, not_true_eq_false, not_false_eq_true, true_or, or_true]
          exact Iff.rfl
        · rw [if_neg d]
          simp only [d, x7_38, (show inR (0 : Int) = True from eq_true ⟨by decide, by decide⟩), (show inR (1 : Int) = True from eq_true ⟨by decide, by decide⟩), Int.reduceEq, x7_58, x7_59, aft_l, aft_r, optL_s, optL_n, xgo_n, xgo_s, List.cons_append, List.nil_append, List.append_nil, true_and, and_true, Nat.sub_zero, Nat.zero_le, true_implies, false_implies, implies_true, not_true_eq_false, not_false_eq_true, true_or, or_true]
          exact Iff.rfl
    · rw [if_neg b]
      simp only [b, aft_l, aft_r, optL_s, optL_n, xgo_n, xgo_s, List.cons_append, List.nil_append, List.append_nil, true_and, and_true, Nat.sub_zero, Nat.zero_le, true_implies, false_implies, implies_true, not_true_eq_false, not_false_eq_true, true_or, or_true]
      exact Iff.rfl
  · have a' : ¬ (48 ≤ CH σ p ∧ CH σ p ≤ 48 + 3) := by omega
    rw [if_neg a]
    simp only [x7_0, e10 h (show 0 ≤ p ∧ p ≤ 1000 by omega) (show 0 ≤ (3 : Int) ∧ (3 : Int) ≤ 9 by omega), a', x7_5, (show inR (-1 : Int) = True from eq_true ⟨by decide, by decide⟩), Int.reduceLT, Int.reduceNeg, x7_19, aft_l, aft_r, optL_s, optL_n, xgo_n, xgo_s, List.cons_append, List.nil_append, List.append_nil, true_and, and_true, Nat.sub_zero, Nat.zero_le, true_implies, false_implies, implies_true, not_true_eq_false, not_false_eq_true, true_or, or_true]
    exact Iff.rfl
theorem e8 (h : tx1 σ) (hf : 4 ≤ gI σ 1 3 ∧ gI σ 1 3 ≤ 16) (hs : inR (gI σ 3 1)) {v p : Int} (p0 : 0 ≤ p ∧ p ≤ 90) (hv : 0 ≤ v ∧ v ≤ 19) : Call t 8 [vR 1, vR 3, vI v] (sI σ 1 2 p) Q ↔ rsC σ Q (pCo (CH σ) (gI σ 1 3) v p) := by
  have rc := CH_rng h (p := p + 1 + 1) (by omega)
  have rv := vn_rng (c := CH σ p) hf
  have i1 : inR (CH σ (p + 1 + 1) - 48) = True := eq_true ⟨by omega, by omega⟩
  have iN : inR (vn (CH σ p) (gI σ 1 3)) = True := eq_true ⟨by omega, by omega⟩
  have hs' : ∀ q, gI (sI σ 1 2 q) 3 1 = gI σ 3 1 := fun q => by rw [gI_sI, if_neg (by omega)]
  unfold pCo
  by_cases c : vn (CH σ p) (gI σ 1 3) < 0
  · rw [if_pos c]
    simp only [x8_0, e11 h hf (show 0 ≤ p ∧ p ≤ 1000 by omega), c, x8_4, (show inR (-1 : Int) = True from eq_true ⟨by decide, by decide⟩), Int.reduceLT, Int.reduceNeg, x8_9, aft_l, aft_r, optL_s, optL_n, xgo_n, xgo_s, List.cons_append, List.nil_append, List.append_nil, true_and, and_true, Nat.sub_zero, Nat.zero_le, true_implies, false_implies, implies_true, not_true_eq_false, not_false_eq_true, true_or, or_true]
    exact Iff.rfl
  · rw [if_neg c]
    simp only [x8_0, e11 h hf (show 0 ≤ p ∧ p ≤ 1000 by omega), c, x8_4, iN, x8_11, e9 h (show 0 ≤ p + 1 ∧ p + 1 ≤ 1000 by omega), (show inR (43 : Int) = True from eq_true ⟨by decide, by decide⟩), (show inR (0 : Int) = True from eq_true ⟨by decide, by decide⟩), (show inR (1 : Int) = True from eq_true ⟨by decide, by decide⟩), x8_17, Int.reduceEq, aft_l, aft_r, optL_s, optL_n, xgo_n, xgo_s, List.cons_append, List.nil_append, List.append_nil, true_and, and_true, Nat.sub_zero, Nat.zero_le, true_implies, false_implies, implies_true, not_true_eq_false, not_false_eq_true, true_or, or_true]
    have hv0 : 0 ≤ vn (CH σ p) (gI σ 1 3) := by omega
    by_cases d : CH σ (p + 1) = 43
    · rw [if_pos d]
      simp only [d, x8_29, e10 h (show 0 ≤ p + 1 + 1 ∧ p + 1 + 1 ≤ 1000 by omega) (show 0 ≤ (2 : Int) ∧ (2 : Int) ≤ 9 by omega), aft_l, aft_r, optL_s, optL_n, xgo_n, xgo_s, List.cons_append, List.nil_append, List.append_nil, true_and, and_true, Nat.sub_zero, Nat.zero_le, true_implies, false_implies, implies_true, not_true_eq_false, not_false_eq_true, true_or, or_true]
      by_cases a : 48 ≤ CH σ (p + 1 + 1) ∧ CH σ (p + 1 + 1) ≤ 50
      · have a' : 48 ≤ CH σ (p + 1 + 1) ∧ CH σ (p + 1 + 1) ≤ 48 + 2 := by omega
        have a2 : ¬ (CH σ (p + 1 + 1) - 48 < 0) := by omega
        have ho : ok4 (5, v, vn (CH σ p) (gI σ 1 3), CH σ (p + 1 + 1) - 48) := ⟨⟨by show (0 : Int) ≤ 5; omega, by show (5 : Int) ≤ 6; omega⟩, ⟨hv, ⟨hv0, rv.2⟩, by show 0 ≤ CH σ (p + 1 + 1) - 48; omega, by show CH σ (p + 1 + 1) - 48 ≤ 3; omega⟩, fun _ => by show CH σ (p + 1 + 1) - 48 ≤ 2; omega⟩
        rw [if_pos a]
        simp only [a', x8_34, i1, a2, x8_41, e31 (τ := sI σ 1 2 (p + 1 + 1 + 1)) ho (by rw [hs']; exact hs), x8_50, (show inR (1 : Int) = True from eq_true ⟨by decide, by decide⟩), Int.reduceEq, x8_53, x8_58, and_self, aft_l, aft_r, optL_s, optL_n, xgo_n, xgo_s, List.cons_append, List.nil_append, List.append_nil, true_and, and_true, Nat.sub_zero, Nat.zero_le, true_implies, false_implies, implies_true, not_true_eq_false, not_false_eq_true, true_or, or_true]
        exact Iff.rfl
      · have a' : ¬ (48 ≤ CH σ (p + 1 + 1) ∧ CH σ (p + 1 + 1) ≤ 48 + 2) := by omega
        rw [if_neg a]
        simp only [a', x8_34, (show inR (-1 : Int) = True from eq_true ⟨by decide, by decide⟩), Int.reduceLT, Int.reduceNeg, x8_57, x8_58, aft_l, aft_r, optL_s, optL_n, xgo_n, xgo_s, List.cons_append, List.nil_append, List.append_nil, true_and, and_true, Nat.sub_zero, Nat.zero_le, true_implies, false_implies, implies_true, not_true_eq_false, not_false_eq_true, true_or, or_true]
        exact Iff.rfl
    · have ho : ok4 (1, v, vn (CH σ p) (gI σ 1 3), 0) := ⟨⟨by show (0 : Int) ≤ 1; omega, by show (1 : Int) ≤ 6; omega⟩, ⟨hv, ⟨hv0, rv.2⟩, by show (0 : Int) ≤ 0; omega, by show (0 : Int) ≤ 3; omega⟩, fun e => by have e : (1 : Int) = 5 := e; omega⟩
      rw [if_neg d]
      simp only [d, x8_20, e31 (τ := sI σ 1 2 (p + 1)) ho (by rw [hs']; exact hs), x8_28, aft_l, aft_r, optL_s, optL_n, xgo_n, xgo_s, List.cons_append, List.nil_append, List.append_nil, true_and, and_true, Nat.sub_zero, Nat.zero_le, true_implies, false_implies, implies_true, not_true_eq_false, not_false_eq_true, true_or, or_true]
      exact Iff.rfl
/-- BodyText.readStatement -/
theorem e4 (h : tx1 σ) (hf : 4 ≤ gI σ 1 3 ∧ gI σ 1 3 ≤ 16) (hs : inR (gI σ 3 1)) {p : Int} (p0 : 0 ≤ p ∧ p ≤ 81) : Call t 4 [vR 1, vR 3] (sI σ 1 2 p) Q ↔ rsC σ Q (pS (CH σ) (gI σ 1 3) p) := by
  have rv := vn_rng (c := CH σ p) hf
  have iN : inR (vn (CH σ p) (gI σ 1 3)) = True := eq_true ⟨by omega, by omega⟩
  have hs' : ∀ q, gI (sI σ 1 2 q) 3 1 = gI σ 3 1 := fun q => by rw [gI_sI, if_neg (by omega)]
  simp only [x4_0, e9 h (show 0 ≤ p ∧ p ≤ 1000 by omega), (show inR (42 : Int) = True from eq_true ⟨by decide, by decide⟩), (show inR (0 : Int) = True from eq_true ⟨by decide, by decide⟩), (show inR (1 : Int) = True from eq_true ⟨by decide, by decide⟩), x4_6, Int.reduceEq, aft_l, aft_r, optL_s, optL_n, xgo_n, xgo_s, List.cons_append, List.nil_append, List.append_nil, true_and, and_true, Nat.sub_zero, Nat.zero_le, true_implies, false_implies, implies_true, not_true_eq_false, not_false_eq_true, true_or, or_true]
  unfold pS
  by_cases a : CH σ p = 42
  · rw [if_pos a]
    simp only [a, x4_9, e5 h hf hs (show 0 ≤ p + 1 ∧ p + 1 ≤ 90 by omega), aft_l, aft_r, optL_s, optL_n, xgo_n, xgo_s, List.cons_append, List.nil_append, List.append_nil, true_and, and_true, Nat.sub_zero, Nat.zero_le, true_implies, false_implies, implies_true, not_true_eq_false, not_false_eq_true, true_or, or_true]
    refine rsC_iff (fun τ => ?_) (fun τ => ?_) _
    · simp only [aft_l, optL_s, x4_14, aft_l, aft_r, optL_s, optL_n, xgo_n, xgo_s, List.cons_append, List.nil_append, List.append_nil, true_and, and_true, Nat.sub_zero, Nat.zero_le, true_implies, false_implies, implies_true, not_true_eq_false, not_false_eq_true, true_or, or_true]
    · simp only [aft_l, optL_s, x4_14, aft_l, aft_r, optL_s, optL_n, xgo_n, xgo_s, List.cons_append, List.nil_append, List.append_nil, true_and, and_true, Nat.sub_zero, Nat.zero_le, true_implies, false_implies, implies_true, not_true_eq_false, not_false_eq_true, true_or, or_true]
  · rw [if_neg a]
    simp only [a, x4_15, e11 h hf (show 0 ≤ p ∧ p ≤ 1000 by omega), aft_l, aft_r, optL_s, optL_n, xgo_n, xgo_s, List.cons_append, List.nil_append, List.append_nil, true_and, and_true, Nat.sub_zero, Nat.zero_le, true_implies, false_implies, implies_true, not_true_eq_false, not_false_eq_true, true_or, or_true]
    by_cases c : vn (CH σ p) (gI σ 1 3) < 0
    · rw [if_pos c]
      simp only [c, x4_19, (show inR (-1 : Int) = True from eq_true ⟨by decide, by decide⟩), Int.reduceLT, Int.reduceNeg, x4_33, aft_l, aft_r, optL_s, optL_n, xgo_n, xgo_s, List.cons_append, List.nil_append, List.append_nil, true_and, and_true, Nat.sub_zero, Nat.zero_le, true_implies, false_implies, implies_true, not_true_eq_false, not_false_eq_true, true_or, or_true]
      exact Iff.rfl
    · have hv : 0 ≤ vn (CH σ p) (gI σ 1 3) ∧ vn (CH σ p) (gI σ 1 3) ≤ 19 := by omega
      rw [if_neg c]
      simp only [c, x4_19, iN, x4_24, e9 h (show 0 ≤ p + 1 ∧ p + 1 ≤ 1000 by omega), (show inR (61 : Int) = True from eq_true ⟨by decide, by decide⟩), (show inR (0 : Int) = True from eq_true ⟨by decide, by decide⟩), (show inR (1 : Int) = True from eq_true ⟨by decide, by decide⟩), x4_30, Int.reduceEq, aft_l, aft_r, optL_s, optL_n, xgo_n, xgo_s, List.cons_append, List.nil_append, List.append_nil, true_and, and_true, Nat.sub_zero, Nat.zero_le, true_implies, false_implies, implies_true, not_true_eq_false, not_false_eq_true, true_or, or_true]
      by_cases d : CH σ (p + 1) = 61
      · rw [if_pos d]
        simp only [d, aft_l, aft_r, optL_s, optL_n, xgo_n, xgo_s, List.cons_append, List.nil_append, List.append_nil, true_and, and_true, Nat.sub_zero, Nat.zero_le, true_implies, false_implies, implies_true, not_true_eq_false, not_false_eq_true, true_or, or_true]
        generalize vn (CH σ p) (gI σ 1 3) = v at hv
        unfold pRt
        simp only [x4_35, e9 h (show 0 ≤ p + 1 + 1 ∧ p + 1 + 1 ≤ 1000 by omega), (show inR (38 : Int) = True from eq_true ⟨by decide, by decide⟩), (show inR (0 : Int) = True from eq_true ⟨by decide, by decide⟩), (show inR (1 : Int) = True from eq_true ⟨by decide, by decide⟩), x4_41, Int.reduceEq, aft_l, aft_r, optL_s, optL_n, xgo_n, xgo_s, List.cons_append, List.nil_append, List.append_nil, true_and, and_true, Nat.sub_zero, Nat.zero_le, true_implies, false_implies, implies_true, not_true_eq_false, not_false_eq_true, true_or, or_true]
        by_cases d0 : CH σ (p + 1 + 1) = 38
        · rw [if_pos d0]
          simp only [d0, x4_44, e6 h hf hs (show 0 ≤ p + 1 + 1 + 1 ∧ p + 1 + 1 + 1 ≤ 100 by omega) (show 0 ≤ (0 : Int) ∧ (0 : Int) ≤ 4 by omega) hv, aft_l, aft_r, optL_s, optL_n, xgo_n, xgo_s, List.cons_append, List.nil_append, List.append_nil, true_and, and_true, Nat.sub_zero, Nat.zero_le, true_implies, false_implies, implies_true, not_true_eq_false, not_false_eq_true, true_or, or_true]
          refine rsC_iff (fun τ => ?_) (fun τ => ?_) _
          · simp only [aft_l, optL_s, x4_51, aft_l, aft_r, optL_s, optL_n, xgo_n, xgo_s, List.cons_append, List.nil_append, List.append_nil, true_and, and_true, Nat.sub_zero, Nat.zero_le, true_implies, false_implies, implies_true, not_true_eq_false, not_false_eq_true, true_or, or_true]
          · simp only [aft_l, optL_s, x4_51, aft_l, aft_r, optL_s, optL_n, xgo_n, xgo_s, List.cons_append, List.nil_append, List.append_nil, true_and, and_true, Nat.sub_zero, Nat.zero_le, true_implies, false_implies, implies_true, not_true_eq_false, not_false_eq_true, true_or, or_true]
        rw [if_neg d0]
        simp only [d0, x4_52, e9 h (show 0 ≤ p + 1 + 1 ∧ p + 1 + 1 ≤ 1000 by omega), (show inR (42 : Int) = True from eq_true ⟨by decide, by decide⟩), (show inR (0 : Int) = True from eq_true ⟨by decide, by decide⟩), (show inR (1 : Int) = True from eq_true ⟨by decide, by decide⟩), x4_58, Int.reduceEq, aft_l, aft_r, optL_s, optL_n, xgo_n, xgo_s, List.cons_append, List.nil_append, List.append_nil, true_and, and_true, Nat.sub_zero, Nat.zero_le, true_implies, false_implies, implies_true, not_true_eq_false, not_false_eq_true, true_or, or_true]
        by_cases d1 : CH σ (p + 1 + 1) = 42
        · rw [if_pos d1]
          simp only [d1, x4_61, e6 h hf hs (show 0 ≤ p + 1 + 1 + 1 ∧ p + 1 + 1 + 1 ≤ 100 by omega) (show 0 ≤ (2 : Int) ∧ (2 : Int) ≤ 4 by omega) hv, aft_l, aft_r, optL_s, optL_n, xgo_n, xgo_s, List.cons_append, List.nil_append, List.append_nil, true_and, and_true, Nat.sub_zero, Nat.zero_le, true_implies, false_implies, implies_true, not_true_eq_false, not_false_eq_true, true_or, or_true]
          refine rsC_iff (fun τ => ?_) (fun τ => ?_) _
          · simp only [aft_l, optL_s, x4_68, aft_l, aft_r, optL_s, optL_n, xgo_n, xgo_s, List.cons_append, List.nil_append, List.append_nil, true_and, and_true, Nat.sub_zero, Nat.zero_le, true_implies, false_implies, implies_true, not_true_eq_false, not_false_eq_true, true_or, or_true]
          · simp only [aft_l, optL_s, x4_68, aft_l, aft_r, optL_s, optL_n, xgo_n, xgo_s, List.cons_append, List.nil_append, List.append_nil, true_and, and_true, Nat.sub_zero, Nat.zero_le, true_implies, false_implies, implies_true, not_true_eq_false, not_false_eq_true, true_or, or_true]
        rw [if_neg d1]
        simp only [d1, x4_69, e9 h (show 0 ≤ p + 1 + 1 ∧ p + 1 + 1 ≤ 1000 by omega), (show inR (110 : Int) = True from eq_true ⟨by decide, by decide⟩), (show inR (0 : Int) = True from eq_true ⟨by decide, by decide⟩), (show inR (1 : Int) = True from eq_true ⟨by decide, by decide⟩), x4_75, Int.reduceEq, aft_l, aft_r, optL_s, optL_n, xgo_n, xgo_s, List.cons_append, List.nil_append, List.append_nil, true_and, and_true, Nat.sub_zero, Nat.zero_le, true_implies, false_implies, implies_true, not_true_eq_false, not_false_eq_true, true_or, or_true]
        by_cases d2 : CH σ (p + 1 + 1) = 110
        · rw [if_pos d2]
          simp only [d2, x4_78, e9 h (show 0 ≤ p + 1 + 1 + 1 ∧ p + 1 + 1 + 1 ≤ 1000 by omega), (show inR (101 : Int) = True from eq_true ⟨by decide, by decide⟩), (show inR (0 : Int) = True from eq_true ⟨by decide, by decide⟩), (show inR (1 : Int) = True from eq_true ⟨by decide, by decide⟩), x4_84, Int.reduceEq, aft_l, aft_r, optL_s, optL_n, xgo_n, xgo_s, List.cons_append, List.nil_append, List.append_nil, true_and, and_true, Nat.sub_zero, Nat.zero_le, true_implies, false_implies, implies_true, not_true_eq_false, not_false_eq_true, true_or, or_true]
          by_cases d3 : CH σ (p + 1 + 1 + 1) = 101
          · rw [if_pos d3]
            simp only [d3, x4_87, e9 h (show 0 ≤ p + 1 + 1 + 1 + 1 ∧ p + 1 + 1 + 1 + 1 ≤ 1000 by omega), (show inR (119 : Int) = True from eq_true ⟨by decide, by decide⟩), (show inR (0 : Int) = True from eq_true ⟨by decide, by decide⟩), (show inR (1 : Int) = True from eq_true ⟨by decide, by decide⟩), x4_93, Int.reduceEq, aft_l, aft_r, optL_s, optL_n, xgo_n, xgo_s, List.cons_append, List.nil_append, List.append_nil, true_and, and_true, Nat.sub_zero, Nat.zero_le, true_implies, false_implies, implies_true, not_true_eq_false, not_false_eq_true, true_or, or_true]
            by_cases d4 : CH σ (p + 1 + 1 + 1 + 1) = 119
            · have ho : ok4 (4, v, 0, 0) := ⟨⟨by show (0 : Int) ≤ 4; omega, by show (4 : Int) ≤ 6; omega⟩, ⟨hv, ⟨by show (0 : Int) ≤ 0; omega, by show (0 : Int) ≤ 19; omega⟩, by show (0 : Int) ≤ 0; omega, by show (0 : Int) ≤ 3; omega⟩, fun e => by have e : (4 : Int) = 5 := e; omega⟩
              rw [if_pos d4]
              simp only [d4, x4_96, e31 (τ := sI σ 1 2 (p + 1 + 1 + 1 + 1 + 1)) ho (by rw [hs']; exact hs), x4_104, (show inR (1 : Int) = True from eq_true ⟨by decide, by decide⟩), Int.reduceEq, x4_107, x4_112, aft_l, aft_r, optL_s, optL_n, xgo_n, xgo_s, List.cons_append, List.nil_append, List.append_nil, true_and, and_true, Nat.sub_zero, Nat.zero_le, true_implies, false_implies, implies_true, not_true_eq_false, not_false_eq_true, true_or, or_true]
              exact Iff.rfl
            · rw [if_neg d4]
              simp only [d4, x4_111, x4_112, aft_l, aft_r, optL_s, optL_n, xgo_n, xgo_s, List.cons_append, List.nil_append, List.append_nil, true_and, and_true, Nat.sub_zero, Nat.zero_le, true_implies, false_implies, implies_true, not_true_eq_false, not_false_eq_true, true_or, or_true]
              exact Iff.rfl
          · rw [if_neg d3]
            simp only [d3, x4_111, x4_112, aft_l, aft_r, optL_s, optL_n, xgo_n, xgo_s, List.cons_append, List.nil_append, List.append_nil, true_and, and_true, Nat.sub_zero, Nat.zero_le, true_implies, false_implies, implies_true, not_true_eq_false, not_false_eq_true, true_or, or_true]
            exact Iff.rfl
        rw [if_neg d2]
        simp only [d2, x4_113, e9 h (show 0 ≤ p + 1 + 1 ∧ p + 1 + 1 ≤ 1000 by omega), (show inR (102 : Int) = True from eq_true ⟨by decide, by decide⟩), (show inR (0 : Int) = True from eq_true ⟨by decide, by decide⟩), (show inR (1 : Int) = True from eq_true ⟨by decide, by decide⟩), x4_119, Int.reduceEq, aft_l, aft_r, optL_s, optL_n, xgo_n, xgo_s, List.cons_append, List.nil_append, List.append_nil, true_and, and_true, Nat.sub_zero, Nat.zero_le, true_implies, false_implies, implies_true, not_true_eq_false, not_false_eq_true, true_or, or_true]
        by_cases d5 : CH σ (p + 1 + 1) = 102
        · rw [if_pos d5]
          simp only [d5, x4_122, e7 h hf hs (show 0 ≤ p + 1 + 1 + 1 ∧ p + 1 + 1 + 1 ≤ 90 by omega) hv, aft_l, aft_r, optL_s, optL_n, xgo_n, xgo_s, List.cons_append, List.nil_append, List.append_nil, true_and, and_true, Nat.sub_zero, Nat.zero_le, true_implies, false_implies, implies_true, not_true_eq_false, not_false_eq_true, true_or, or_true]
          refine rsC_iff (fun τ => ?_) (fun τ => ?_) _
          · simp only [aft_l, optL_s, x4_128, aft_l, aft_r, optL_s, optL_n, xgo_n, xgo_s, List.cons_append, List.nil_append, List.append_nil, true_and, and_true, Nat.sub_zero, Nat.zero_le, true_implies, false_implies, implies_true, not_true_eq_false, not_false_eq_true, true_or, or_true]
          · simp only [aft_l, optL_s, x4_128, aft_l, aft_r, optL_s, optL_n, xgo_n, xgo_s, List.cons_append, List.nil_append, List.append_nil, true_and, and_true, Nat.sub_zero, Nat.zero_le, true_implies, false_implies, implies_true, not_true_eq_false, not_false_eq_true, true_or, or_true]
        rw [if_neg d5]
        simp only [d5, x4_129, e8 h hf hs (show 0 ≤ p + 1 + 1 ∧ p + 1 + 1 ≤ 90 by omega) hv, aft_l, aft_r, optL_s, optL_n, xgo_n, xgo_s, List.cons_append, List.nil_append, List.append_nil, true_and, and_true, Nat.sub_zero, Nat.zero_le, true_implies, false_implies, implies_true, not_true_eq_false, not_false_eq_true, true_or, or_true]
        refine rsC_iff (fun τ => ?_) (fun τ => ?_) _
        · simp only [aft_l, optL_s, x4_135, aft_l, aft_r, optL_s, optL_n, xgo_n, xgo_s, List.cons_append, List.nil_append, List.append_nil, true_and, and_true, Nat.sub_zero, Nat.zero_le, true_implies, false_implies, implies_true, not_true_eq_false, not_false_eq_true, true_or, or_true]
        · simp only [aft_l, optL_s, x4_135, aft_l, aft_r, optL_s, optL_n, xgo_n, xgo_s, List.cons_append, List.nil_append, List.append_nil, true_and, and_true, Nat.sub_zero, Nat.zero_le, true_implies, false_implies, implies_true, not_true_eq_false, not_false_eq_true, true_or, or_true]
      · rw [if_neg d]
        simp only [d, x4_33, aft_l, aft_r, optL_s, optL_n, xgo_n, xgo_s, List.cons_append, List.nil_append, List.append_nil, true_and, and_true, Nat.sub_zero, Nat.zero_le, true_implies, false_implies, implies_true, not_true_eq_false, not_false_eq_true, true_or, or_true]
        exact Iff.rfl
end TX2

