/-! the law's reader -/
def LH (σ : St) (p : Int) : Int := if p < gI σ 53 8 then gI σ 59 p else -1
def lput (s : St4) (τ : St) : St := if gI τ 58 4 < 12 then sI (sI (sI (sI τ 54 (48 + gI τ 58 4) s.1) 55 (48 + gI τ 58 4) s.2.1) 56 (48 + gI τ 58 4) s.2.2.1) 57 (48 + gI τ 58 4) s.2.2.2 else τ
def ladd (s : St4) (τ : St) : St := sI (sI (sI (lput s τ) 58 4 (gI τ 58 4 + 1)) 53 12 (gI τ 53 12 + (if s.1 = 4 then 1 else 0))) 53 13 (gI τ 53 13 + (if s.1 = 6 then 1 else 0))
def tx2 (σ : St) : Prop := (0 ≤ gI σ 53 8 ∧ gI σ 53 8 ≤ 80) ∧ ∀ i, 0 ≤ i → i < gI σ 53 8 → 33 ≤ gI σ 59 i ∧ gI σ 59 i ≤ 126
theorem txN_LH {σ : St} (h : tx2 σ) : txN (gI σ 53 8) (LH σ) := ⟨h.1, fun p p0 => ⟨fun q => by unfold LH; rw [if_pos q]; exact h.2 p p0 q, fun q => by unfold LH; rw [if_neg (by omega)]⟩⟩
theorem LH_rng {σ : St} (h : tx2 σ) {p : Int} (p0 : 0 ≤ p) : -1 ≤ LH σ p ∧ LH σ p ≤ 126 := by
  have := (txN_LH h).2 p p0
  by_cases q : p < gI σ 53 8
  · have := this.1 q; omega
  · have := this.2 (by omega); omega
def rsL (σ : St) (Q : Res → St → Prop) (r : Int × Option St4) : Prop := match r with
  | (p, none) => Q (.inl (some (vI 0))) (sI σ 53 9 p)
  | (p, some s) => Q (.inl (some (vI 1))) (ladd s (sI σ 53 9 p))
theorem rsL_n {σ : St} {Q : Res → St → Prop} {p : Int} : rsL σ Q (p, none) ↔ Q (.inl (some (vI 0))) (sI σ 53 9 p) := Iff.rfl
theorem rsL_s {σ : St} {Q : Res → St → Prop} {p : Int} {s : St4} : rsL σ Q (p, some s) ↔ Q (.inl (some (vI 1))) (ladd s (sI σ 53 9 p)) := Iff.rfl
theorem rsL_iff {σ : St} {Q Q' : Res → St → Prop} (h0 : ∀ τ, Q' (.inl (some (vI 0))) τ ↔ Q (.inl (some (vI 0))) τ) (h1 : ∀ τ, Q' (.inl (some (vI 1))) τ ↔ Q (.inl (some (vI 1))) τ) (r : Int × Option St4) : rsL σ Q' r ↔ rsL σ Q r := by
  obtain ⟨p, o⟩ := r
  cases o with
  | none => exact h0 _
  | some s => exact h1 _
section LTX
variable {t : Nat} {σ : St} {Q : Res → St → Prop}
theorem g9p {p : Int} : gI (sI σ 53 9 p) 53 9 = p := by rw [gI_sI, if_pos ⟨rfl, rfl⟩]
theorem e187 (h : tx2 σ) {p : Int} (p0 : 0 ≤ p ∧ p ≤ 1000) : Call t 187 [vR 53] (sI σ 53 9 p) Q ↔ Q (.inl (some (vI (LH σ p)))) (sI σ 53 9 p) := Call_iff (fun Q hq => by
  have e1 : gI (sI σ 53 9 p) 53 8 = gI σ 53 8 := by rw [gI_sI, if_neg (by omega)]
  have e2 : gI (sI σ 53 9 p) 59 p = gI σ 59 p := by rw [gI_sI, if_neg (by omega)]
  have hl := h.1
  unfold LH at hq
  rw [x187_0, e1, g9p]
  refine ⟨⟨⟨by omega, by omega⟩, ⟨by omega, by omega⟩⟩, fun a => ?_, fun a => ?_⟩
  · rw [if_pos a] at hq
    rw [x187_11, x187_24, g9p, e2]
    exact ⟨⟨by omega, by omega⟩, hq⟩
  · rw [if_neg a] at hq
    rw [x187_23, x187_24]; exact hq)
theorem e188 (h : tx2 σ) {p c : Int} (p0 : 0 ≤ p ∧ p ≤ 1000) : Call t 188 [vR 53, vI c] (sI σ 53 9 p) Q ↔ inR c ∧ ((LH σ p = c → Q (.inl (some (vI 1))) (sI σ 53 9 (p + 1))) ∧ (¬ LH σ p = c → Q (.inl (some (vI 0))) (sI σ 53 9 p))) := by
  have r := LH_rng h p0.1
  have iN : inR (LH σ p) = True := eq_true ⟨by omega, by omega⟩
  simp only [x188_0, e187 h p0, x188_4, x188_8, x188_10, g9p, sI_sI, iN, aft_l, aft_r, optL_s, optL_n, xgo_n, xgo_s, List.cons_append, List.nil_append, List.append_nil, true_and, and_true, Nat.sub_zero, Nat.zero_le, true_implies, false_implies, implies_true, not_true_eq_false, not_false_eq_true, true_or, or_true]
theorem e189 (h : tx2 σ) {p f : Int} (p0 : 0 ≤ p ∧ p ≤ 1000) (hf : 0 ≤ f ∧ f ≤ 3) : Call t 189 [vR 53, vI f] (sI σ 53 9 p) Q ↔ ((vn (LH σ p) (4 + 4 * f) < 0 → Q (.inl (some (vI (-1)))) (sI σ 53 9 p)) ∧ (¬ vn (LH σ p) (4 + 4 * f) < 0 → Q (.inl (some (vI (vn (LH σ p) (4 + 4 * f))))) (sI σ 53 9 (p + 1)))) := by
  have r := LH_rng h p0.1
  have iN : inR (LH σ p) = True := eq_true ⟨by omega, by omega⟩
  have fin : ∀ (v : Int) (a2 a3 : Option AV), -1 ≤ v → v < 8 → (wp 0 189 66 [some (vR 53), some (vI f), a2, a3] [vI v] (sI σ 53 9 p) Q ↔ ((v < 0 → Q (.inl (some (vI (-1)))) (sI σ 53 9 p)) ∧ (¬ v < 0 → Q (.inl (some (vI (if v < 4 then v else v + 4 * f)))) (sI σ 53 9 (p + 1))))) := fun v a2 a3 v0 v1 => by
    have iv : inR v = True := eq_true ⟨by omega, by omega⟩
    simp only [x189_66, x189_71, x189_73, x189_88, x189_92, x189_97, g9p, sI_sI, iv, aft_l, aft_r, optL_s, optL_n, xgo_n, xgo_s, List.cons_append, List.nil_append, List.append_nil, true_and, and_true, Nat.sub_zero, Nat.zero_le, true_implies, false_implies, implies_true, not_true_eq_false, not_false_eq_true, true_or, or_true]
    by_cases q : v < 4
    · simp only [q, if_true, aft_l, aft_r, optL_s, optL_n, xgo_n, xgo_s, List.cons_append, List.nil_append, List.append_nil, true_and, and_true, Nat.sub_zero, Nat.zero_le, true_implies, false_implies, implies_true, not_true_eq_false, not_false_eq_true, true_or, or_true]
    · simp only [q, if_false, aft_l, aft_r, optL_s, optL_n, xgo_n, xgo_s, List.cons_append, List.nil_append, List.append_nil, true_and, and_true, Nat.sub_zero, Nat.zero_le, true_implies, false_implies, implies_true, not_true_eq_false, not_false_eq_true, true_or, or_true]
  have fin' : ∀ (v : Int) (a2 a3 : Option AV), -1 ≤ v → v < 8 → (wp t 189 66 [some (vR 53), some (vI f), a2, a3] [vI v] (sI σ 53 9 p) Q ↔ ((v < 0 → Q (.inl (some (vI (-1)))) (sI σ 53 9 p)) ∧ (¬ v < 0 → Q (.inl (some (vI (if v < 4 then v else v + 4 * f)))) (sI σ 53 9 (p + 1))))) := fun v a2 a3 v0 v1 => by
    have iv : inR v = True := eq_true ⟨by omega, by omega⟩
    simp only [x189_66, x189_71, x189_73, x189_88, x189_92, x189_97, g9p, sI_sI, iv, aft_l, aft_r, optL_s, optL_n, xgo_n, xgo_s, List.cons_append, List.nil_append, List.append_nil, true_and, and_true, Nat.sub_zero, Nat.zero_le, true_implies, false_implies, implies_true, not_true_eq_false, not_false_eq_true, true_or, or_true]
    by_cases q : v < 4
    · simp only [q, if_true, aft_l, aft_r, optL_s, optL_n, xgo_n, xgo_s, List.cons_append, List.nil_append, List.append_nil, true_and, and_true, Nat.sub_zero, Nat.zero_le, true_implies, false_implies, implies_true, not_true_eq_false, not_false_eq_true, true_or, or_true]
    · simp only [q, if_false, aft_l, aft_r, optL_s, optL_n, xgo_n, xgo_s, List.cons_append, List.nil_append, List.append_nil, true_and, and_true, Nat.sub_zero, Nat.zero_le, true_implies, false_implies, implies_true, not_true_eq_false, not_false_eq_true, true_or, or_true]
  simp only [x189_0, e187 h p0, x189_4, e177 (show inR (LH σ p) from ⟨by omega, by omega⟩) (show inR (97 : Int) from ⟨by omega, by omega⟩) (show inR (100 : Int) from ⟨by omega, by omega⟩), x189_13, eq_true (b2i_in _), b2i_0, aft_l, aft_r, optL_s, optL_n, xgo_n, xgo_s, List.cons_append, List.nil_append, List.append_nil, true_and, and_true, Nat.sub_zero, Nat.zero_le, true_implies, false_implies, implies_true, not_true_eq_false, not_false_eq_true, true_or, or_true]
  unfold vn
  by_cases a : 97 ≤ LH σ p ∧ LH σ p ≤ 100
  · simp only [dcl_t a, if_pos a, x189_16, fin' (LH σ p - 97) _ _ (show -1 ≤ LH σ p - 97 by omega) (show LH σ p - 97 < 8 by omega), Bool.true_eq_false, aft_l, aft_r, optL_s, optL_n, xgo_n, xgo_s, List.cons_append, List.nil_append, List.append_nil, true_and, and_true, Nat.sub_zero, Nat.zero_le, true_implies, false_implies, implies_true, not_true_eq_false, not_false_eq_true, true_or, or_true]
    have q : LH σ p - 97 < 4 := by omega
    have q2 : ¬ LH σ p - 97 < 0 := by omega
    simp only [q, q2, if_true, aft_l, aft_r, optL_s, optL_n, xgo_n, xgo_s, List.cons_append, List.nil_append, List.append_nil, true_and, and_true, Nat.sub_zero, Nat.zero_le, true_implies, false_implies, implies_true, not_true_eq_false, not_false_eq_true, true_or, or_true]
  · simp only [dcl_f a, if_neg a, x189_23, iN, aft_l, aft_r, optL_s, optL_n, xgo_n, xgo_s, List.cons_append, List.nil_append, List.append_nil, true_and, and_true, Nat.sub_zero, Nat.zero_le, true_implies, false_implies, implies_true, not_true_eq_false, not_false_eq_true, true_or, or_true]
    by_cases b : LH σ p = 112
    · simp only [b, x189_29, fin' 4 _ _ (show (-1 : Int) ≤ 4 by omega) (show (4 : Int) < 8 by omega), Int.reduceLT, if_true, if_false, aft_l, aft_r, optL_s, optL_n, xgo_n, xgo_s, List.cons_append, List.nil_append, List.append_nil, true_and, and_true, Nat.sub_zero, Nat.zero_le, true_implies, false_implies, implies_true, not_true_eq_false, not_false_eq_true, true_or, or_true]
      have q2 : ¬ (4 + 4 * f < 0) := by omega
      simp only [q2, aft_l, aft_r, optL_s, optL_n, xgo_n, xgo_s, List.cons_append, List.nil_append, List.append_nil, true_and, and_true, Nat.sub_zero, Nat.zero_le, true_implies, false_implies, implies_true, not_true_eq_false, not_false_eq_true, true_or, or_true]
    simp only [b, x189_33, iN, if_false, aft_l, aft_r, optL_s, optL_n, xgo_n, xgo_s, List.cons_append, List.nil_append, List.append_nil, true_and, and_true, Nat.sub_zero, Nat.zero_le, true_implies, false_implies, implies_true, not_true_eq_false, not_false_eq_true, true_or, or_true]
    by_cases c : LH σ p = 114
    · have q2 : ¬ (4 + 4 * f + 1 < 0) := by omega
      have q3 : (5 : Int) + 4 * f = 4 + 4 * f + 1 := by omega
      simp only [c, x189_39, fin' 5 _ _ (show (-1 : Int) ≤ 5 by omega) (show (5 : Int) < 8 by omega), Int.reduceLT, if_true, if_false, q2, q3, aft_l, aft_r, optL_s, optL_n, xgo_n, xgo_s, List.cons_append, List.nil_append, List.append_nil, true_and, and_true, Nat.sub_zero, Nat.zero_le, true_implies, false_implies, implies_true, not_true_eq_false, not_false_eq_true, true_or, or_true]
    simp only [c, x189_43, iN, if_false, aft_l, aft_r, optL_s, optL_n, xgo_n, xgo_s, List.cons_append, List.nil_append, List.append_nil, true_and, and_true, Nat.sub_zero, Nat.zero_le, true_implies, false_implies, implies_true, not_true_eq_false, not_false_eq_true, true_or, or_true]
    by_cases d : LH σ p = 120
    · have q2 : ¬ (4 + 4 * f + 2 < 0) := by omega
      have q3 : (6 : Int) + 4 * f = 4 + 4 * f + 2 := by omega
      simp only [d, x189_49, fin' 6 _ _ (show (-1 : Int) ≤ 6 by omega) (show (6 : Int) < 8 by omega), Int.reduceLT, if_true, if_false, q2, q3, aft_l, aft_r, optL_s, optL_n, xgo_n, xgo_s, List.cons_append, List.nil_append, List.append_nil, true_and, and_true, Nat.sub_zero, Nat.zero_le, true_implies, false_implies, implies_true, not_true_eq_false, not_false_eq_true, true_or, or_true]
    simp only [d, x189_54, iN, if_false, aft_l, aft_r, optL_s, optL_n, xgo_n, xgo_s, List.cons_append, List.nil_append, List.append_nil, true_and, and_true, Nat.sub_zero, Nat.zero_le, true_implies, false_implies, implies_true, not_true_eq_false, not_false_eq_true, true_or, or_true]
    by_cases e : LH σ p = 121
    · have q2 : ¬ (4 + 4 * f + 3 < 0) := by omega
      have q3 : (7 : Int) + 4 * f = 4 + 4 * f + 3 := by omega
      simp only [e, x189_60, fin' 7 _ _ (show (-1 : Int) ≤ 7 by omega) (show (7 : Int) < 8 by omega), Int.reduceLT, if_true, if_false, q2, q3, aft_l, aft_r, optL_s, optL_n, xgo_n, xgo_s, List.cons_append, List.nil_append, List.append_nil, true_and, and_true, Nat.sub_zero, Nat.zero_le, true_implies, false_implies, implies_true, not_true_eq_false, not_false_eq_true, true_or, or_true]
    simp only [e, x189_65, fin' (-1) _ _ (show (-1 : Int) ≤ -1 by omega) (show (-1 : Int) < 8 by omega), Int.reduceLT, Int.reduceNeg, if_true, if_false, aft_l, aft_r, optL_s, optL_n, xgo_n, xgo_s, List.cons_append, List.nil_append, List.append_nil, true_and, and_true, Nat.sub_zero, Nat.zero_le, true_implies, false_implies, implies_true, not_true_eq_false, not_false_eq_true, true_or, or_true]
theorem e190 (h : tx2 σ) {p g : Int} (p0 : 0 ≤ p ∧ p ≤ 1000) (hg : 0 ≤ g ∧ g ≤ 9) : Call t 190 [vR 53, vI g] (sI σ 53 9 p) Q ↔ ((48 ≤ LH σ p ∧ LH σ p ≤ 48 + g → Q (.inl (some (vI (LH σ p - 48)))) (sI σ 53 9 (p + 1))) ∧ (¬ (48 ≤ LH σ p ∧ LH σ p ≤ 48 + g) → Q (.inl (some (vI (-1)))) (sI σ 53 9 p))) := by
  have r := LH_rng h p0.1
  have hl := h.1
  simp only [x190_0, e187 h p0, x190_4, e177 (show inR (LH σ p) from ⟨by omega, by omega⟩) (show inR (48 : Int) from ⟨by omega, by omega⟩) (show inR (48 + g) from ⟨by omega, by omega⟩), x190_13, eq_true (b2i_in _), b2i_0, aft_l, aft_r, optL_s, optL_n, xgo_n, xgo_s, List.cons_append, List.nil_append, List.append_nil, true_and, and_true, Nat.sub_zero, Nat.zero_le, true_implies, false_implies, implies_true, not_true_eq_false, not_false_eq_true, true_or, or_true]
  by_cases a : 48 ≤ LH σ p ∧ LH σ p ≤ 48 + g
  · have hlt := txN_lt (txN_LH h) p0.1 (show LH σ p ≠ -1 by omega)
    have e : gI σ 59 p = LH σ p := by unfold LH; rw [if_pos hlt]
    have e59 : gI (sI σ 53 9 (p + 1)) 59 p = LH σ p := by rw [gI_sI, if_neg (by omega)]; exact e
    have pp : p + 1 - 1 = p := by omega
    have rng : (0 ≤ p ∧ p < 80) = True := eq_true ⟨by omega, by omega⟩
    rw [dcl_t a]
    simp only [a, x190_18, g9p, sI_sI, pp, e59, rng, Bool.true_eq_false, and_self, aft_l, aft_r, optL_s, optL_n, xgo_n, xgo_s, List.cons_append, List.nil_append, List.append_nil, true_and, and_true, Nat.sub_zero, Nat.zero_le, true_implies, false_implies, implies_true, not_true_eq_false, not_false_eq_true, true_or, or_true]
  · rw [dcl_f a]
    simp only [a, x190_16, aft_l, aft_r, optL_s, optL_n, xgo_n, xgo_s, List.cons_append, List.nil_append, List.append_nil, true_and, and_true, Nat.sub_zero, Nat.zero_le, true_implies, false_implies, implies_true, not_true_eq_false, not_false_eq_true, true_or, or_true]
theorem e191 {k v w n : Int} {τ : St} (hk : inR k) (hs : 0 ≤ gI τ 58 4 ∧ gI τ 58 4 ≤ 1000) : Call t 191 [vR 53, vI k, vI v, vI w, vI n] τ Q ↔ Q (.inl none) (ladd (k, v, w, n) τ) := Call_iff (fun Q hq => by
  have ik : inR k = True := eq_true hk
  have g53 : gI (lput (k, v, w, n) τ) 53 = gI τ 53 := by
    unfold lput
    split
    · rw [gI_rne (by decide), gI_rne (by decide), gI_rne (by decide), gI_rne (by decide)]
    · rfl
  have g58 : gI (lput (k, v, w, n) τ) 58 = gI τ 58 := by
    unfold lput
    split
    · rw [gI_rne (by decide), gI_rne (by decide), gI_rne (by decide), gI_rne (by decide)]
    · rfl
  have fin : ∀ a5, wp t 191 55 [some (vR 53), some (vI k), some (vI v), some (vI w), some (vI n), a5] [] (lput (k, v, w, n) τ) Q := fun a5 => by
    unfold ladd at hq
    dsimp only at hq
    simp only [x191_55, ik, x191_75, x191_79, x191_80, x191_95, x191_99, x191_100, g58, aft_l, aft_r, optL_s, optL_n, xgo_n, xgo_s, List.cons_append, List.nil_append, List.append_nil, true_and, and_true, Nat.sub_zero, Nat.zero_le, true_implies, false_implies, implies_true, not_true_eq_false, not_false_eq_true, true_or, or_true]
    have q12 : ∀ x, gI (sI (lput (k, v, w, n) τ) 58 4 x) 53 12 = gI τ 53 12 := fun x => by rw [gI_rne (by decide), g53]
    have q13 : ∀ x y, gI (sI (sI (lput (k, v, w, n) τ) 58 4 x) 53 12 y) 53 13 = gI τ 53 13 := fun x y => by rw [gI_sI, if_neg (by omega), gI_rne (by decide), g53]
    simp only [q12, q13]
    refine ⟨fun a => ⟨fun b => ?_, fun b => ?_⟩, fun a => ⟨fun b => ?_, fun b => ?_⟩⟩
    · omega
    · rw [if_pos a, if_neg b] at hq; exact hq
    · rw [if_neg a, if_pos b] at hq; exact hq
    · rw [if_neg a, if_neg b] at hq; exact hq
  rw [x191_0]
  refine ⟨⟨by omega, by omega⟩, fun a => ?_, fun a => ?_⟩
  · have el : lput (k, v, w, n) τ = sI (sI (sI (sI τ 54 (48 + gI τ 58 4) k) 55 (48 + gI τ 58 4) v) 56 (48 + gI τ 58 4) w) 57 (48 + gI τ 58 4) n := if_pos a
    rw [x191_11, ← el]
    exact ⟨⟨by omega, by omega⟩, ⟨by omega, by omega⟩, ⟨by omega, by omega⟩, ⟨by omega, by omega⟩, fin _⟩
  · have el : lput (k, v, w, n) τ = τ := if_neg a
    rw [el] at fin
    exact fin _)
end LTX
