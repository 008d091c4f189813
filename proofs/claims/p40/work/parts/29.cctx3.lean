/-! the class's contexts: questions -/
def nc (xs : List Int) (f : Int) : Int := cbl xs ((f + 1) * 2353) - cbl xs (f * 2353)
def lenK (k : Int) : Int := if k = 0 then 0 else if k < 49 then 1 else 2
def calK (k p : Int) : Int := if 49 ≤ k ∧ p = 0 then (k - 49) / 48 else lst k
theorem nc_rng (xs : List Int) (f : Int) : 0 ≤ nc xs f ∧ cbl xs (f * 2353) + nc xs f ≤ xs.length := by
  have h1 := cbl_mono (xs := xs) (a := f * 2353) (b := (f + 1) * 2353) (by omega)
  have h2 := cbl_rng xs ((f + 1) * 2353)
  unfold nc; omega
section CC3
variable {t : Nat} {σ : St} {Q : Res → St → Prop} {P : Pg} {lim : Int} {xs : List Int}
theorem CXr_fr_20 {M : Nat → Int → Prop} {σ σ' : St} (h : CXr 20 σ P lim xs) (g : fr M σ σ') (h1 : ∀ j, ¬ M 21 j) (h2 : ∀ j, ¬ M 22 j) (h3 : ¬ M 20 2) (h4 : ¬ M 20 3) : CXr 20 σ' P lim xs :=
  ⟨h.1, CA_fr_20 h.2.1 g h1 h3, fun f f0 f1 => (fr_I g _ _ (h2 f)).trans (h.2.2.1 f f0 f1), (fr_I g _ _ h4).trans h.2.2.2⟩
theorem rE_20 (h : CXr 20 σ P lim xs) {i : Int} (i0 : 0 ≤ i) (i1 : i < xs.length) : rdI σ 21 i = la xs i := by
  have := h.2.1.2.2
  rw [rdI_in (n := 31) rfl i0 (by omega)]; exact h.2.1.1.1 i i0 i1
theorem rF_20 (h : CXr 20 σ P lim xs) {f : Int} (f0 : 0 ≤ f) (f1 : f ≤ 4) : rdI σ 22 f = cbl xs (f * 2353) := by
  rw [rdI_in (n := 5) rfl f0 (by omega)]; exact h.2.2.1 f f0 f1
theorem e22_20 (h : CXr 20 σ P lim xs) : Call t 22 [vR 20] σ Q ↔ Q (.inl (some (vI xs.length))) σ := by
  rw [x22_0_20, h.2.1.2.1]
theorem e23_20 (h : CXr 20 σ P lim xs) {f : Int} (f0 : 0 ≤ f) (f1 : f ≤ 3) : Call t 23 [vR 20, vI f] σ Q ↔ Q (.inl (some (vI (nc xs f)))) σ := by
  simp only [x23_0_20, x23_10_20, x23_18_20, k96 (show lc 22 = 101 from rfl), rF_20 h f0 (show f ≤ 4 by omega), rF_20 h (show 0 ≤ f + 1 by omega) (show f + 1 ≤ 4 by omega), aft_l, aft_r, optL_s, optL_n, xgo_n, xgo_s, List.cons_append, List.nil_append, List.append_nil, true_and, and_true, Nat.sub_zero, Nat.zero_le, true_implies, false_implies, implies_true, not_true_eq_false, not_false_eq_true, true_or, or_true]
  exact (w_true ⟨by omega, by omega⟩).trans (w_true ⟨by omega, by omega⟩)
theorem e25_20 (hP : okP P) (h : CXr 20 σ P lim xs) {i : Int} (i0 : 0 ≤ i) (i1 : i < xs.length) : Call t 25 [vR 20, vI i] σ Q ↔ Q (.inl (some (vI (la xs i / 2353)))) σ := by
  have h1 := h.2.1.2.2
  have h2 := RS_rng hP ((h.1.2 _).mp (la_mem i0 i1))
  simp only [x25_0_20, x25_8_20, k96 (show lc 21 = 101 from rfl), rE_20 h i0 i1, aft_l, aft_r, optL_s, optL_n, xgo_n, xgo_s, List.cons_append, List.nil_append, List.append_nil, true_and, and_true, Nat.sub_zero, Nat.zero_le, true_implies, false_implies, implies_true, not_true_eq_false, not_false_eq_true, true_or, or_true]
  exact (w_true ⟨by omega, by omega⟩).trans (w_true ⟨by omega, by omega⟩)
theorem e26_20 (hP : okP P) (h : CXr 20 σ P lim xs) {i : Int} (i0 : 0 ≤ i) (i1 : i < xs.length) : Call t 26 [vR 20, vI i] σ Q ↔ Q (.inl (some (vI (la xs i % 2353)))) σ := by
  have h1 := h.2.1.2.2
  have h2 := RS_rng hP ((h.1.2 _).mp (la_mem i0 i1))
  simp only [x26_0_20, x26_8_20, k96 (show lc 21 = 101 from rfl), rE_20 h i0 i1, aft_l, aft_r, optL_s, optL_n, xgo_n, xgo_s, List.cons_append, List.nil_append, List.append_nil, true_and, and_true, Nat.sub_zero, Nat.zero_le, true_implies, false_implies, implies_true, not_true_eq_false, not_false_eq_true, true_or, or_true]
  exact (w_true ⟨by omega, by omega⟩).trans (w_true ⟨by omega, by omega⟩)
/-- Contexts.placeAfter -/
theorem c29_20 (hP : okP P) (h : CXr 20 σ P lim xs) (hl0 : 0 ≤ lim ∧ lim ≤ 2) {i c f j : Int} (i0 : 0 ≤ i) (i1 : i < xs.length) (f0 : 0 ≤ f) (f1 : f ≤ 3) (c0 : 0 ≤ c) (c1 : c < 48) (j0 : 0 ≤ j) (j1 : j < xs.length) (hj : la xs j = f * 2353 + ext lim (la xs i % 2353) c)
    (hq : Q (.inl (some (vI j))) σ) : Call t 29 [vR 20, vI i, vI c, vI f] σ Q := by
  have hk : 0 ≤ la xs i % 2353 ∧ la xs i % 2353 < 2353 := by omega
  have he := ext_rng (lim := lim) hk.1 hk.2 c0 c1
  simp only [x29_0_20, x29_12_20, e26_20 hP h i0 i1, k16_20 h.2.2.2 hl0.1 hl0.2 hk.1 hk.2, aft_l, aft_r, optL_s, optL_n, xgo_n, xgo_s, List.cons_append, List.nil_append, List.append_nil, true_and, and_true, Nat.sub_zero, Nat.zero_le, true_implies, false_implies, implies_true, not_true_eq_false, not_false_eq_true, true_or, or_true]
  rw [x29_16_20]
  refine c19_20 h.2.1 (fun x hx => by have := RS_rng hP ((h.1.2 x).mp hx); exact ⟨by omega, by omega⟩) ⟨by omega, by omega⟩ (fun q q0 q1 e => ?_) (fun hm => ?_)
  · simp only [x29_20_20, aft_l, aft_r, optL_s, optL_n, xgo_n, xgo_s, List.cons_append, List.nil_append, List.append_nil, true_and, and_true, Nat.sub_zero, Nat.zero_le, true_implies, false_implies, implies_true, not_true_eq_false, not_false_eq_true, true_or, or_true]
    have : q = j := nd_la (asc_nd h.1.1) q0 q1 j0 j1 (by rw [e, hj])
    rw [this]; exact hq
  · exact absurd (la_mem j0 j1) (by rw [hj]; exact hm)
theorem CXr_fr_31 {M : Nat → Int → Prop} {σ σ' : St} (h : CXr 31 σ P lim xs) (g : fr M σ σ') (h1 : ∀ j, ¬ M 32 j) (h2 : ∀ j, ¬ M 33 j) (h3 : ¬ M 31 2) (h4 : ¬ M 31 3) : CXr 31 σ' P lim xs :=
  ⟨h.1, CA_fr_31 h.2.1 g h1 h3, fun f f0 f1 => (fr_I g _ _ (h2 f)).trans (h.2.2.1 f f0 f1), (fr_I g _ _ h4).trans h.2.2.2⟩
theorem rE_31 (h : CXr 31 σ P lim xs) {i : Int} (i0 : 0 ≤ i) (i1 : i < xs.length) : rdI σ 32 i = la xs i := by
  have := h.2.1.2.2
  rw [rdI_in (n := 31) rfl i0 (by omega)]; exact h.2.1.1.1 i i0 i1
theorem rF_31 (h : CXr 31 σ P lim xs) {f : Int} (f0 : 0 ≤ f) (f1 : f ≤ 4) : rdI σ 33 f = cbl xs (f * 2353) := by
  rw [rdI_in (n := 5) rfl f0 (by omega)]; exact h.2.2.1 f f0 f1
theorem e22_31 (h : CXr 31 σ P lim xs) : Call t 22 [vR 31] σ Q ↔ Q (.inl (some (vI xs.length))) σ := by
  rw [x22_0_31, h.2.1.2.1]
theorem e23_31 (h : CXr 31 σ P lim xs) {f : Int} (f0 : 0 ≤ f) (f1 : f ≤ 3) : Call t 23 [vR 31, vI f] σ Q ↔ Q (.inl (some (vI (nc xs f)))) σ := by
  simp only [x23_0_31, x23_10_31, x23_18_31, k96 (show lc 33 = 101 from rfl), rF_31 h f0 (show f ≤ 4 by omega), rF_31 h (show 0 ≤ f + 1 by omega) (show f + 1 ≤ 4 by omega), aft_l, aft_r, optL_s, optL_n, xgo_n, xgo_s, List.cons_append, List.nil_append, List.append_nil, true_and, and_true, Nat.sub_zero, Nat.zero_le, true_implies, false_implies, implies_true, not_true_eq_false, not_false_eq_true, true_or, or_true]
  exact (w_true ⟨by omega, by omega⟩).trans (w_true ⟨by omega, by omega⟩)
theorem e25_31 (hP : okP P) (h : CXr 31 σ P lim xs) {i : Int} (i0 : 0 ≤ i) (i1 : i < xs.length) : Call t 25 [vR 31, vI i] σ Q ↔ Q (.inl (some (vI (la xs i / 2353)))) σ := by
  have h1 := h.2.1.2.2
  have h2 := RS_rng hP ((h.1.2 _).mp (la_mem i0 i1))
  simp only [x25_0_31, x25_8_31, k96 (show lc 32 = 101 from rfl), rE_31 h i0 i1, aft_l, aft_r, optL_s, optL_n, xgo_n, xgo_s, List.cons_append, List.nil_append, List.append_nil, true_and, and_true, Nat.sub_zero, Nat.zero_le, true_implies, false_implies, implies_true, not_true_eq_false, not_false_eq_true, true_or, or_true]
  exact (w_true ⟨by omega, by omega⟩).trans (w_true ⟨by omega, by omega⟩)
theorem e26_31 (hP : okP P) (h : CXr 31 σ P lim xs) {i : Int} (i0 : 0 ≤ i) (i1 : i < xs.length) : Call t 26 [vR 31, vI i] σ Q ↔ Q (.inl (some (vI (la xs i % 2353)))) σ := by
  have h1 := h.2.1.2.2
  have h2 := RS_rng hP ((h.1.2 _).mp (la_mem i0 i1))
  simp only [x26_0_31, x26_8_31, k96 (show lc 32 = 101 from rfl), rE_31 h i0 i1, aft_l, aft_r, optL_s, optL_n, xgo_n, xgo_s, List.cons_append, List.nil_append, List.append_nil, true_and, and_true, Nat.sub_zero, Nat.zero_le, true_implies, false_implies, implies_true, not_true_eq_false, not_false_eq_true, true_or, or_true]
  exact (w_true ⟨by omega, by omega⟩).trans (w_true ⟨by omega, by omega⟩)
/-- Contexts.placeAfter -/
theorem c29_31 (hP : okP P) (h : CXr 31 σ P lim xs) (hl0 : 0 ≤ lim ∧ lim ≤ 2) {i c f j : Int} (i0 : 0 ≤ i) (i1 : i < xs.length) (f0 : 0 ≤ f) (f1 : f ≤ 3) (c0 : 0 ≤ c) (c1 : c < 48) (j0 : 0 ≤ j) (j1 : j < xs.length) (hj : la xs j = f * 2353 + ext lim (la xs i % 2353) c)
    (hq : Q (.inl (some (vI j))) σ) : Call t 29 [vR 31, vI i, vI c, vI f] σ Q := by
  have hk : 0 ≤ la xs i % 2353 ∧ la xs i % 2353 < 2353 := by omega
  have he := ext_rng (lim := lim) hk.1 hk.2 c0 c1
  simp only [x29_0_31, x29_12_31, e26_31 hP h i0 i1, k16_31 h.2.2.2 hl0.1 hl0.2 hk.1 hk.2, aft_l, aft_r, optL_s, optL_n, xgo_n, xgo_s, List.cons_append, List.nil_append, List.append_nil, true_and, and_true, Nat.sub_zero, Nat.zero_le, true_implies, false_implies, implies_true, not_true_eq_false, not_false_eq_true, true_or, or_true]
  rw [x29_16_31]
  refine c19_31 h.2.1 (fun x hx => by have := RS_rng hP ((h.1.2 x).mp hx); exact ⟨by omega, by omega⟩) ⟨by omega, by omega⟩ (fun q q0 q1 e => ?_) (fun hm => ?_)
  · simp only [x29_20_31, aft_l, aft_r, optL_s, optL_n, xgo_n, xgo_s, List.cons_append, List.nil_append, List.append_nil, true_and, and_true, Nat.sub_zero, Nat.zero_le, true_implies, false_implies, implies_true, not_true_eq_false, not_false_eq_true, true_or, or_true]
    have : q = j := nd_la (asc_nd h.1.1) q0 q1 j0 j1 (by rw [e, hj])
    rw [this]; exact hq
  · exact absurd (la_mem j0 j1) (by rw [hj]; exact hm)
end CC3

