/-! the class's inclusion: apply -/
section CI5
variable {t : Nat} {σ : St} {Q : Res → St → Prop} {P : Pg}
/-- Inclusion.addShifted -/
theorem c50_19 {xs : List Int} {r s c x o : Int} (hx : xok xs) (hA : okF xs (Gc 23 σ)) (hWP : WP 19 24 27 25 xs r s σ) (hc : vld xs c) (hxr : 0 ≤ x ∧ x < 152) (ho : 0 ≤ o ∧ o ≤ 2)
    (hq : ∀ σ', AW 0 19 24 27 28 29 xs r s (fun c' u' => c' = c ∧ ((o = 0 ∧ Gc 23 σ x u') ∨ (o ≠ 0 ∧ ∃ y, Gc 23 σ x y ∧ (128 ≤ y ∧ ((y - 128) % 3 + o ≤ 2 ∧ u' = y + o))))) σ σ' → WP 19 24 27 25 xs r s σ' → Q (.inl none) σ') : Call t 50 [vR 19, vI c, vI x, vI o] σ Q := by
  have hr : rdL σ 23 (x * 3 + 2) = gL σ 23 (x * 3 + 2) := rdL_in (n := 456) rfl (by omega) (by omega)
  have go : ∀ m : BitVec 64, 1 ≤ o → (∀ j, j < 64 → m.getLsbD j = decide (j < 24 ∧ j % 3 + o.toNat ≤ 2)) → ∀ a0 a1 a2 a5, wp t 50 36 [a0, a1, a2, some (vI o), some (vL m), a5] [vL (gL σ 23 (x * 3 + 2)), vI 2, vI c, vR 19] σ Q := by
    intro m o1 hm a0 a1 a2 a5
    have key := dlt_shift (σ := σ) (k := 23) (c := c) (m := m) hx hA hxr ⟨o1, ho.2⟩ hm
    rw [x50_36_19]
    refine c53_19 hx hWP hc (by omega) (fun j hj => ?_) (fun σ' g1 g2 => ?_)
    · have hj2 := bb_lt hj
      have := (key c (64 * 2 + (j : Int))).mp ⟨rfl, ⟨by omega, by omega⟩, by rw [show (64 * 2 + (j : Int) - 64 * 2).toNat = j by omega]; exact hj⟩
      obtain ⟨-, y, k1, k2, k3, k4⟩ := this
      have hv := (hA _ _ k1).2
      have := hv.2
      have hl := hx.2
      rw [k4]
      have q : (y - 128) / 3 ≤ 7 := by omega
      exact ⟨by omega, Or.inr (Or.inr ⟨by omega, by omega⟩)⟩
    · simp only [x50_44_19, aft_l, aft_r, optL_s, optL_n, xgo_n, xgo_s, List.cons_append, List.nil_append, List.append_nil, true_and, and_true, Nat.sub_zero, Nat.zero_le, true_implies, false_implies, implies_true, not_true_eq_false, not_false_eq_true, true_or, or_true]
      refine hq σ' (AW_congr (fun c' u' => ?_) g1) g2
      rw [key]
      constructor
      · rintro ⟨e, k⟩; exact ⟨e, Or.inr ⟨by omega, k⟩⟩
      · rintro ⟨e, k⟩
        rcases k with ⟨k, _⟩ | ⟨_, k⟩
        · omega
        · exact ⟨e, k⟩
  simp only [x50_0_19, x50_11_19, x50_16_19, x50_22_19, x50_25_19, k54_19, hr, aft_l, aft_r, optL_s, optL_n, xgo_n, xgo_s, List.cons_append, List.nil_append, List.append_nil, true_and, and_true, Nat.sub_zero, Nat.zero_le, true_implies, false_implies, implies_true, not_true_eq_false, not_false_eq_true, true_or, or_true]
  refine ⟨⟨by omega, by omega⟩, fun e => ?_, fun e => ⟨⟨by omega, by omega⟩, fun e1 => ⟨⟨by omega, by omega⟩, ?_⟩, fun e1 => ⟨⟨by omega, by omega⟩, ?_⟩⟩⟩
  · rw [x50_4_19]
    refine c52_19 hx hA hWP hc hxr (fun σ' g1 g2 => ?_)
    simp only [x50_10_19, aft_l, aft_r, optL_s, optL_n, xgo_n, xgo_s, List.cons_append, List.nil_append, List.append_nil, true_and, and_true, Nat.sub_zero, Nat.zero_le, true_implies, false_implies, implies_true, not_true_eq_false, not_false_eq_true, true_or, or_true]
    refine hq σ' (AW_congr (fun c' u' => ?_) g1) g2
    constructor
    · rintro ⟨e1, k⟩; exact ⟨e1, Or.inl ⟨e, k⟩⟩
    · rintro ⟨e1, k⟩
      rcases k with ⟨_, k⟩ | ⟨k, _⟩
      · exact ⟨e1, k⟩
      · exact absurd e k
  · refine go _ (by omega) (fun j hj => ?_) _ _ _ _
    rw [m1_get j hj, e1]; rfl
  · refine go _ (by omega) (fun j hj => ?_) _ _ _ _
    have e2 : o = 2 := by omega
    rw [m2_get j hj, e2]; rfl
/-- Inclusion.apply -/
theorem c45_19 {xs : List Int} {lim r i n : Int} (hP : okP P) (hl0 : 0 ≤ lim ∧ lim ≤ 2) (hN : RN 5 σ P) (hX : CXr 20 σ P lim xs) (hi : itm P xs i n) (hA : okF xs (Gc 23 σ)) (hWP : WP 19 24 27 25 xs r n σ)
    (hq : ∀ σ', AW 1 19 24 27 28 29 xs r n (DD P xs lim (Gc 23 σ) i n) σ σ' → WP 19 24 27 25 xs r n σ' → Q (.inl none) σ') : Call t 45 [vR 19, vR 5, vI i] σ Q := by
  have hx := xok_of hP hX.1
  obtain ⟨hk, ⟨hv, hw, hn⟩, h5⟩ := hP.2.1 n hi.2.1.1 hi.2.1.2
  have ht := tot_rng hP.1
  have cv := clo_vld (xs := xs) hv.1 hi.1.1 hi.1.2
  have cw := clo_vld (xs := xs) hw.1 hi.1.1 hi.1.2
  have rv := vld_152 hx cv
  have rw' := vld_152 hx cw
  have h12 : gI σ 19 12 = n := hWP.2.2.2
  have n0 := hi.2.1.1
  have n1 := hi.2.1.2
  simp only [x45_0_19, h12, e91 hP hN n0 n1, e92 hP hN n0 n1, e93 hP hN n0 n1, e90 hP hN n0 n1, k46 hv.1 hv.2, k46 hw.1 hw.2, x45_8_19, x45_12_19, x45_21_19, x45_25_19, x45_35_19, x45_45_19, aft_l, aft_r, optL_s, optL_n, xgo_n, xgo_s, List.cons_append, List.nil_append, List.append_nil, true_and, and_true, Nat.sub_zero, Nat.zero_le, true_implies, false_implies, implies_true, not_true_eq_false, not_false_eq_true, true_or, or_true]
  refine ⟨⟨by omega, by omega⟩, fun _ => ?_, fun h => by omega⟩
  have dd : ∀ (σ' : St) (z : Nat) (Δ : Fa), AW z 19 24 27 28 29 xs r n Δ σ σ' → z ≤ 1 → (∀ c u, Δ c u ↔ DD P xs lim (Gc 23 σ) i n c u) → AW 1 19 24 27 28 29 xs r n (DD P xs lim (Gc 23 σ) i n) σ σ' := fun σ' z Δ h1 hz h2 => by
    have h3 := AW_congr h2 h1
    rcases (show z = 0 ∨ z = 1 by omega) with rfl | rfl
    · exact AW_weak h3
    · exact h3
  rcases (show kd P n = 0 ∨ kd P n = 1 ∨ kd P n = 2 ∨ kd P n = 3 ∨ kd P n = 4 ∨ kd P n = 5 ∨ kd P n = 6 by omega) with e | e | e | e | e | e | e
  · rw [e]
    show wp t 45 88 _ _ _ _
    rw [x45_88_19]
    refine c51_19 hx hWP cv cw (fun σ' g1 g2 => ?_)
    simp only [x45_95_19, x45_209_19, aft_l, aft_r, optL_s, optL_n, xgo_n, xgo_s, List.cons_append, List.nil_append, List.append_nil, true_and, and_true, Nat.sub_zero, Nat.zero_le, true_implies, false_implies, implies_true, not_true_eq_false, not_false_eq_true, true_or, or_true]
    exact hq σ' (dd σ' 0 _ g1 (by omega) (fun c u => by unfold DD; simp [e])) g2
  · rw [e]
    show wp t 45 202 _ _ _ _
    rw [x45_202_19]
    refine c52_19 hx hA hWP cv rw' (fun σ' g1 g2 => ?_)
    simp only [x45_209_19, aft_l, aft_r, optL_s, optL_n, xgo_n, xgo_s, List.cons_append, List.nil_append, List.append_nil, true_and, and_true, Nat.sub_zero, Nat.zero_le, true_implies, false_implies, implies_true, not_true_eq_false, not_false_eq_true, true_or, or_true]
    exact hq σ' (dd σ' 0 _ g1 (by omega) (fun c u => by unfold DD; simp [e])) g2
  · rw [e]
    show wp t 45 98 _ _ _ _
    rw [x45_98_19]
    refine c47_19 hx hA hWP cv rw' (fun σ' g1 g2 => ?_)
    simp only [x45_105_19, x45_209_19, aft_l, aft_r, optL_s, optL_n, xgo_n, xgo_s, List.cons_append, List.nil_append, List.append_nil, true_and, and_true, Nat.sub_zero, Nat.zero_le, true_implies, false_implies, implies_true, not_true_eq_false, not_false_eq_true, true_or, or_true]
    exact hq σ' (dd σ' 1 _ g1 (by omega) (fun c u => by unfold DD; simp [e])) g2
  · rw [e]
    show wp t 45 108 _ _ _ _
    rw [x45_108_19]
    refine c48_19 hx hA hWP rv rw' (fun σ' g1 g2 => ?_)
    simp only [x45_115_19, x45_209_19, aft_l, aft_r, optL_s, optL_n, xgo_n, xgo_s, List.cons_append, List.nil_append, List.append_nil, true_and, and_true, Nat.sub_zero, Nat.zero_le, true_implies, false_implies, implies_true, not_true_eq_false, not_false_eq_true, true_or, or_true]
    exact hq σ' (dd σ' 1 _ g1 (by omega) (fun c u => by unfold DD; simp [e])) g2
  · have hs := sn_lt hP n0 n1 e
    rw [e]
    show wp t 45 118 _ _ _ _
    simp only [x45_118_19, h12, e95 hP.1 hN n0 n1, x45_132_19, aft_l, aft_r, optL_s, optL_n, xgo_n, xgo_s, List.cons_append, List.nil_append, List.append_nil, true_and, and_true, Nat.sub_zero, Nat.zero_le, true_implies, false_implies, implies_true, not_true_eq_false, not_false_eq_true, true_or, or_true]
    refine c51_19 hx hWP cv ⟨by omega, Or.inr (Or.inr ⟨by omega, by omega⟩)⟩ (fun σ' g1 g2 => ?_)
    simp only [x45_137_19, x45_209_19, aft_l, aft_r, optL_s, optL_n, xgo_n, xgo_s, List.cons_append, List.nil_append, List.append_nil, true_and, and_true, Nat.sub_zero, Nat.zero_le, true_implies, false_implies, implies_true, not_true_eq_false, not_false_eq_true, true_or, or_true]
    exact hq σ' (dd σ' 0 _ g1 (by omega) (fun c u => by unfold DD; simp [e])) g2
  · have h5' := h5 e
    rw [e]
    show wp t 45 140 _ _ _ _
    rw [x45_140_19]
    refine c50_19 hx hA hWP cv rw' ⟨hn.1, h5'⟩ (fun σ' g1 g2 => ?_)
    simp only [x45_149_19, x45_209_19, aft_l, aft_r, optL_s, optL_n, xgo_n, xgo_s, List.cons_append, List.nil_append, List.append_nil, true_and, and_true, Nat.sub_zero, Nat.zero_le, true_implies, false_implies, implies_true, not_true_eq_false, not_false_eq_true, true_or, or_true]
    exact hq σ' (dd σ' 0 _ g1 (by omega) (fun c u => by unfold DD; simp [e])) g2
  · obtain ⟨⟨p0, p1⟩, p2⟩ := plf_ok hX.1 hi e
    have pl31 := hx.2
    rw [e]
    show wp t 45 152 _ _ _ _
    rw [x45_152_19, h12]
    refine c29_20 hP hX hl0 hi.1.1 hi.1.2 hn.1 hn.2 n0 (by omega) p0 p1 p2 ?_
    have c1 : clo (4 + 4 * nn P n) (plf P xs lim i n) = 4 + 4 * plf P xs lim i n := by
      unfold clo; rw [if_neg (by omega)]; omega
    have c2 : clo (4 + 4 * nn P n + 1) (plf P xs lim i n) = 4 + 4 * plf P xs lim i n + 1 := by unfold clo; rw [if_neg (by omega)]; omega
    have v1 : vld xs (4 + 4 * plf P xs lim i n) := ⟨by omega, Or.inr (Or.inl ⟨by omega, by omega⟩)⟩
    have q46 : 0 ≤ 4 + 4 * nn P n ∧ 4 + 4 * nn P n ≤ 19 := by omega
    have q46' : 0 ≤ 4 + 4 * nn P n + 1 ∧ 4 + 4 * nn P n + 1 ≤ 19 := by omega
    simp only [x45_166_19, k168, x45_174_19, k46 q46.1 q46.2, c1, x45_179_19, aft_l, aft_r, optL_s, optL_n, xgo_n, xgo_s, List.cons_append, List.nil_append, List.append_nil, true_and, and_true, Nat.sub_zero, Nat.zero_le, true_implies, false_implies, implies_true, not_true_eq_false, not_false_eq_true, true_or, or_true]
    refine c52_19 hx hA hWP v1 rw' (fun σ1 g1 g2 => ?_)
    have eK := AK_19 g1
    simp only [x45_184_19, k169, x45_191_19, k46 q46'.1 q46'.2, c2, x45_196_19, aft_l, aft_r, optL_s, optL_n, xgo_n, xgo_s, List.cons_append, List.nil_append, List.append_nil, true_and, and_true, Nat.sub_zero, Nat.zero_le, true_implies, false_implies, implies_true, not_true_eq_false, not_false_eq_true, true_or, or_true]
    refine c52_19 hx (by rw [eK]; exact hA) g2 cv ⟨by omega, by omega⟩ (fun σ' g3 g4 => ?_)
    simp only [x45_199_19, x45_209_19, aft_l, aft_r, optL_s, optL_n, xgo_n, xgo_s, List.cons_append, List.nil_append, List.append_nil, true_and, and_true, Nat.sub_zero, Nat.zero_le, true_implies, false_implies, implies_true, not_true_eq_false, not_false_eq_true, true_or, or_true]
    rw [eK] at g3
    refine hq σ' (dd σ' 0 _ (AW_trans hx ?_ ?_ g1 g3) (by omega) (fun c u => by unfold DD; simp [e])) g4
    · rintro c' u' ⟨e1, k⟩; exact ⟨e1 ▸ v1, (hA _ _ k).2⟩
    · rintro c' u' ⟨e1, k⟩; exact ⟨e1 ▸ cv, (hA _ _ k).2⟩
/-- Inclusion.addShifted -/
theorem c50_30 {xs : List Int} {r s c x o : Int} (hx : xok xs) (hA : okF xs (Gc 34 σ)) (hWP : WP 30 35 38 36 xs r s σ) (hc : vld xs c) (hxr : 0 ≤ x ∧ x < 152) (ho : 0 ≤ o ∧ o ≤ 2)
    (hq : ∀ σ', AW 0 30 35 38 39 40 xs r s (fun c' u' => c' = c ∧ ((o = 0 ∧ Gc 34 σ x u') ∨ (o ≠ 0 ∧ ∃ y, Gc 34 σ x y ∧ (128 ≤ y ∧ ((y - 128) % 3 + o ≤ 2 ∧ u' = y + o))))) σ σ' → WP 30 35 38 36 xs r s σ' → Q (.inl none) σ') : Call t 50 [vR 30, vI c, vI x, vI o] σ Q := by
  have hr : rdL σ 34 (x * 3 + 2) = gL σ 34 (x * 3 + 2) := rdL_in (n := 456) rfl (by omega) (by omega)
  have go : ∀ m : BitVec 64, 1 ≤ o → (∀ j, j < 64 → m.getLsbD j = decide (j < 24 ∧ j % 3 + o.toNat ≤ 2)) → ∀ a0 a1 a2 a5, wp t 50 36 [a0, a1, a2, some (vI o), some (vL m), a5] [vL (gL σ 34 (x * 3 + 2)), vI 2, vI c, vR 30] σ Q := by
    intro m o1 hm a0 a1 a2 a5
    have key := dlt_shift (σ := σ) (k := 34) (c := c) (m := m) hx hA hxr ⟨o1, ho.2⟩ hm
    rw [x50_36_30]
    refine c53_30 hx hWP hc (by omega) (fun j hj => ?_) (fun σ' g1 g2 => ?_)
    · have hj2 := bb_lt hj
      have := (key c (64 * 2 + (j : Int))).mp ⟨rfl, ⟨by omega, by omega⟩, by rw [show (64 * 2 + (j : Int) - 64 * 2).toNat = j by omega]; exact hj⟩
      obtain ⟨-, y, k1, k2, k3, k4⟩ := this
      have hv := (hA _ _ k1).2
      have := hv.2
      have hl := hx.2
      rw [k4]
      have q : (y - 128) / 3 ≤ 7 := by omega
      exact ⟨by omega, Or.inr (Or.inr ⟨by omega, by omega⟩)⟩
    · simp only [x50_44_30, aft_l, aft_r, optL_s, optL_n, xgo_n, xgo_s, List.cons_append, List.nil_append, List.append_nil, true_and, and_true, Nat.sub_zero, Nat.zero_le, true_implies, false_implies, implies_true, not_true_eq_false, not_false_eq_true, true_or, or_true]
      refine hq σ' (AW_congr (fun c' u' => ?_) g1) g2
      rw [key]
      constructor
      · rintro ⟨e, k⟩; exact ⟨e, Or.inr ⟨by omega, k⟩⟩
      · rintro ⟨e, k⟩
        rcases k with ⟨k, _⟩ | ⟨_, k⟩
        · omega
        · exact ⟨e, k⟩
  simp only [x50_0_30, x50_11_30, x50_16_30, x50_22_30, x50_25_30, k54_30, hr, aft_l, aft_r, optL_s, optL_n, xgo_n, xgo_s, List.cons_append, List.nil_append, List.append_nil, true_and, and_true, Nat.sub_zero, Nat.zero_le, true_implies, false_implies, implies_true, not_true_eq_false, not_false_eq_true, true_or, or_true]
  refine ⟨⟨by omega, by omega⟩, fun e => ?_, fun e => ⟨⟨by omega, by omega⟩, fun e1 => ⟨⟨by omega, by omega⟩, ?_⟩, fun e1 => ⟨⟨by omega, by omega⟩, ?_⟩⟩⟩
  · rw [x50_4_30]
    refine c52_30 hx hA hWP hc hxr (fun σ' g1 g2 => ?_)
    simp only [x50_10_30, aft_l, aft_r, optL_s, optL_n, xgo_n, xgo_s, List.cons_append, List.nil_append, List.append_nil, true_and, and_true, Nat.sub_zero, Nat.zero_le, true_implies, false_implies, implies_true, not_true_eq_false, not_false_eq_true, true_or, or_true]
    refine hq σ' (AW_congr (fun c' u' => ?_) g1) g2
    constructor
    · rintro ⟨e1, k⟩; exact ⟨e1, Or.inl ⟨e, k⟩⟩
    · rintro ⟨e1, k⟩
      rcases k with ⟨_, k⟩ | ⟨k, _⟩
      · exact ⟨e1, k⟩
      · exact absurd e k
  · refine go _ (by omega) (fun j hj => ?_) _ _ _ _
    rw [m1_get j hj, e1]; rfl
  · refine go _ (by omega) (fun j hj => ?_) _ _ _ _
    have e2 : o = 2 := by omega
    rw [m2_get j hj, e2]; rfl
/-- Inclusion.apply -/
theorem c45_30 {xs : List Int} {lim r i n : Int} (hP : okP P) (hl0 : 0 ≤ lim ∧ lim ≤ 2) (hN : RN 5 σ P) (hX : CXr 31 σ P lim xs) (hi : itm P xs i n) (hA : okF xs (Gc 34 σ)) (hWP : WP 30 35 38 36 xs r n σ)
    (hq : ∀ σ', AW 1 30 35 38 39 40 xs r n (DD P xs lim (Gc 34 σ) i n) σ σ' → WP 30 35 38 36 xs r n σ' → Q (.inl none) σ') : Call t 45 [vR 30, vR 5, vI i] σ Q := by
  have hx := xok_of hP hX.1
  obtain ⟨hk, ⟨hv, hw, hn⟩, h5⟩ := hP.2.1 n hi.2.1.1 hi.2.1.2
  have ht := tot_rng hP.1
  have cv := clo_vld (xs := xs) hv.1 hi.1.1 hi.1.2
  have cw := clo_vld (xs := xs) hw.1 hi.1.1 hi.1.2
  have rv := vld_152 hx cv
  have rw' := vld_152 hx cw
  have h12 : gI σ 30 12 = n := hWP.2.2.2
  have n0 := hi.2.1.1
  have n1 := hi.2.1.2
  simp only [x45_0_30, h12, e91 hP hN n0 n1, e92 hP hN n0 n1, e93 hP hN n0 n1, e90 hP hN n0 n1, k46 hv.1 hv.2, k46 hw.1 hw.2, x45_8_30, x45_12_30, x45_21_30, x45_25_30, x45_35_30, x45_45_30, aft_l, aft_r, optL_s, optL_n, xgo_n, xgo_s, List.cons_append, List.nil_append, List.append_nil, true_and, and_true, Nat.sub_zero, Nat.zero_le, true_implies, false_implies, implies_true, not_true_eq_false, not_false_eq_true, true_or, or_true]
  refine ⟨⟨by omega, by omega⟩, fun _ => ?_, fun h => by omega⟩
  have dd : ∀ (σ' : St) (z : Nat) (Δ : Fa), AW z 30 35 38 39 40 xs r n Δ σ σ' → z ≤ 1 → (∀ c u, Δ c u ↔ DD P xs lim (Gc 34 σ) i n c u) → AW 1 30 35 38 39 40 xs r n (DD P xs lim (Gc 34 σ) i n) σ σ' := fun σ' z Δ h1 hz h2 => by
    have h3 := AW_congr h2 h1
    rcases (show z = 0 ∨ z = 1 by omega) with rfl | rfl
    · exact AW_weak h3
    · exact h3
  rcases (show kd P n = 0 ∨ kd P n = 1 ∨ kd P n = 2 ∨ kd P n = 3 ∨ kd P n = 4 ∨ kd P n = 5 ∨ kd P n = 6 by omega) with e | e | e | e | e | e | e
  · rw [e]
    show wp t 45 88 _ _ _ _
    rw [x45_88_30]
    refine c51_30 hx hWP cv cw (fun σ' g1 g2 => ?_)
    simp only [x45_95_30, x45_209_30, aft_l, aft_r, optL_s, optL_n, xgo_n, xgo_s, List.cons_append, List.nil_append, List.append_nil, true_and, and_true, Nat.sub_zero, Nat.zero_le, true_implies, false_implies, implies_true, not_true_eq_false, not_false_eq_true, true_or, or_true]
    exact hq σ' (dd σ' 0 _ g1 (by omega) (fun c u => by unfold DD; simp [e])) g2
  · rw [e]
    show wp t 45 202 _ _ _ _
    rw [x45_202_30]
    refine c52_30 hx hA hWP cv rw' (fun σ' g1 g2 => ?_)
    simp only [x45_209_30, aft_l, aft_r, optL_s, optL_n, xgo_n, xgo_s, List.cons_append, List.nil_append, List.append_nil, true_and, and_true, Nat.sub_zero, Nat.zero_le, true_implies, false_implies, implies_true, not_true_eq_false, not_false_eq_true, true_or, or_true]
    exact hq σ' (dd σ' 0 _ g1 (by omega) (fun c u => by unfold DD; simp [e])) g2
  · rw [e]
    show wp t 45 98 _ _ _ _
    rw [x45_98_30]
    refine c47_30 hx hA hWP cv rw' (fun σ' g1 g2 => ?_)
    simp only [x45_105_30, x45_209_30, aft_l, aft_r, optL_s, optL_n, xgo_n, xgo_s, List.cons_append, List.nil_append, List.append_nil, true_and, and_true, Nat.sub_zero, Nat.zero_le, true_implies, false_implies, implies_true, not_true_eq_false, not_false_eq_true, true_or, or_true]
    exact hq σ' (dd σ' 1 _ g1 (by omega) (fun c u => by unfold DD; simp [e])) g2
  · rw [e]
    show wp t 45 108 _ _ _ _
    rw [x45_108_30]
    refine c48_30 hx hA hWP rv rw' (fun σ' g1 g2 => ?_)
    simp only [x45_115_30, x45_209_30, aft_l, aft_r, optL_s, optL_n, xgo_n, xgo_s, List.cons_append, List.nil_append, List.append_nil, true_and, and_true, Nat.sub_zero, Nat.zero_le, true_implies, false_implies, implies_true, not_true_eq_false, not_false_eq_true, true_or, or_true]
    exact hq σ' (dd σ' 1 _ g1 (by omega) (fun c u => by unfold DD; simp [e])) g2
  · have hs := sn_lt hP n0 n1 e
    rw [e]
    show wp t 45 118 _ _ _ _
    simp only [x45_118_30, h12, e95 hP.1 hN n0 n1, x45_132_30, aft_l, aft_r, optL_s, optL_n, xgo_n, xgo_s, List.cons_append, List.nil_append, List.append_nil, true_and, and_true, Nat.sub_zero, Nat.zero_le, true_implies, false_implies, implies_true, not_true_eq_false, not_false_eq_true, true_or, or_true]
    refine c51_30 hx hWP cv ⟨by omega, Or.inr (Or.inr ⟨by omega, by omega⟩)⟩ (fun σ' g1 g2 => ?_)
    simp only [x45_137_30, x45_209_30, aft_l, aft_r, optL_s, optL_n, xgo_n, xgo_s, List.cons_append, List.nil_append, List.append_nil, true_and, and_true, Nat.sub_zero, Nat.zero_le, true_implies, false_implies, implies_true, not_true_eq_false, not_false_eq_true, true_or, or_true]
    exact hq σ' (dd σ' 0 _ g1 (by omega) (fun c u => by unfold DD; simp [e])) g2
  · have h5' := h5 e
    rw [e]
    show wp t 45 140 _ _ _ _
    rw [x45_140_30]
    refine c50_30 hx hA hWP cv rw' ⟨hn.1, h5'⟩ (fun σ' g1 g2 => ?_)
    simp only [x45_149_30, x45_209_30, aft_l, aft_r, optL_s, optL_n, xgo_n, xgo_s, List.cons_append, List.nil_append, List.append_nil, true_and, and_true, Nat.sub_zero, Nat.zero_le, true_implies, false_implies, implies_true, not_true_eq_false, not_false_eq_true, true_or, or_true]
    exact hq σ' (dd σ' 0 _ g1 (by omega) (fun c u => by unfold DD; simp [e])) g2
  · obtain ⟨⟨p0, p1⟩, p2⟩ := plf_ok hX.1 hi e
    have pl31 := hx.2
    rw [e]
    show wp t 45 152 _ _ _ _
    rw [x45_152_30, h12]
    refine c29_31 hP hX hl0 hi.1.1 hi.1.2 hn.1 hn.2 n0 (by omega) p0 p1 p2 ?_
    have c1 : clo (4 + 4 * nn P n) (plf P xs lim i n) = 4 + 4 * plf P xs lim i n := by
      unfold clo; rw [if_neg (by omega)]; omega
    have c2 : clo (4 + 4 * nn P n + 1) (plf P xs lim i n) = 4 + 4 * plf P xs lim i n + 1 := by unfold clo; rw [if_neg (by omega)]; omega
    have v1 : vld xs (4 + 4 * plf P xs lim i n) := ⟨by omega, Or.inr (Or.inl ⟨by omega, by omega⟩)⟩
    have q46 : 0 ≤ 4 + 4 * nn P n ∧ 4 + 4 * nn P n ≤ 19 := by omega
    have q46' : 0 ≤ 4 + 4 * nn P n + 1 ∧ 4 + 4 * nn P n + 1 ≤ 19 := by omega
    simp only [x45_166_30, k168, x45_174_30, k46 q46.1 q46.2, c1, x45_179_30, aft_l, aft_r, optL_s, optL_n, xgo_n, xgo_s, List.cons_append, List.nil_append, List.append_nil, true_and, and_true, Nat.sub_zero, Nat.zero_le, true_implies, false_implies, implies_true, not_true_eq_false, not_false_eq_true, true_or, or_true]
    refine c52_30 hx hA hWP v1 rw' (fun σ1 g1 g2 => ?_)
    have eK := AK_30 g1
    simp only [x45_184_30, k169, x45_191_30, k46 q46'.1 q46'.2, c2, x45_196_30, aft_l, aft_r, optL_s, optL_n, xgo_n, xgo_s, List.cons_append, List.nil_append, List.append_nil, true_and, and_true, Nat.sub_zero, Nat.zero_le, true_implies, false_implies, implies_true, not_true_eq_false, not_false_eq_true, true_or, or_true]
    refine c52_30 hx (by rw [eK]; exact hA) g2 cv ⟨by omega, by omega⟩ (fun σ' g3 g4 => ?_)
    simp only [x45_199_30, x45_209_30, aft_l, aft_r, optL_s, optL_n, xgo_n, xgo_s, List.cons_append, List.nil_append, List.append_nil, true_and, and_true, Nat.sub_zero, Nat.zero_le, true_implies, false_implies, implies_true, not_true_eq_false, not_false_eq_true, true_or, or_true]
    rw [eK] at g3
    refine hq σ' (dd σ' 0 _ (AW_trans hx ?_ ?_ g1 g3) (by omega) (fun c u => by unfold DD; simp [e])) g4
    · rintro c' u' ⟨e1, k⟩; exact ⟨e1 ▸ v1, (hA _ _ k).2⟩
    · rintro c' u' ⟨e1, k⟩; exact ⟨e1 ▸ cv, (hA _ _ k).2⟩
end CI5

