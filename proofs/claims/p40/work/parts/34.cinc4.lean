/-! the class's inclusion: a statement in a context -/
section CI4
variable {t : Nat} {σ : St} {Q : Res → St → Prop} {P : Pg}
theorem adl_19 {xs : List Int} {r s c n : Int} {σp : St} (hx : xok xs) (hA : okF xs (Gc 23 σp)) (hc : vld xs c) (n0 : 0 ≤ n ∧ n ≤ 192) (hp : ∀ i : Int, 0 ≤ i → i < n → 0 ≤ gI σp 26 i ∧ gI σp 26 i < 152 ∧ i < 152)
    (hq : ∀ σ', AW 0 19 24 27 28 29 xs r s (fun c' u' => c' = c ∧ ∃ i, 0 ≤ i ∧ i < n ∧ Gc 23 σp (gI σp 26 i) u') σp σ' → WP 19 24 27 25 xs r s σ' → Q (.inl none) σ') :
    ∀ (d : Nat) (i : Int) (σ1 : St) (a2 : Option AV), 0 ≤ i → i + d = n → AW 0 19 24 27 28 29 xs r s (fun c' u' => c' = c ∧ ∃ j, 0 ≤ j ∧ j < i ∧ Gc 23 σp (gI σp 26 j) u') σp σ1 → WP 19 24 27 25 xs r s σ1 → wp t 47 9 [some (vR 19), some (vI c), a2, some (vI n), some (vI i)] [] σ1 Q
  | 0, i, σ1, a2, i0, hd, h1, h2 => by
    rw [x47_9_19]
    refine ⟨⟨⟨by omega, by omega⟩, ⟨by omega, by omega⟩⟩, fun h => by omega, fun _ => ?_⟩
    rw [x47_35_19]
    have e : i = n := by omega
    rw [e] at h1; exact hq σ1 h1 h2
  | d + 1, i, σ1, a2, i0, hd, h1, h2 => by
    have hi := hp i i0 (by omega)
    have hr : rdI σ1 26 i = gI σp 26 i := by rw [rdI_in (n := 152) rfl i0 hi.2.2]; exact fr_I h1.2.2.2.2 _ _ (by omega)
    have eK := AK_19 h1
    rw [x47_9_19]
    refine ⟨⟨⟨by omega, by omega⟩, ⟨by omega, by omega⟩⟩, fun h => ?_, fun h => by omega⟩
    simp only [x47_15_19, k96 (show lc 26 = 101 from rfl), hr, x47_26_19, aft_l, aft_r, optL_s, optL_n, xgo_n, xgo_s, List.cons_append, List.nil_append, List.append_nil, true_and, and_true, Nat.sub_zero, Nat.zero_le, true_implies, false_implies, implies_true, not_true_eq_false, not_false_eq_true, true_or, or_true]
    refine ⟨⟨by omega, by omega⟩, c52_19 hx (by rw [eK]; exact hA) h2 hc ⟨hi.1, hi.2.1⟩ (fun σ' g1 g2 => ?_)⟩
    simp only [x47_29_19, aft_l, aft_r, optL_s, optL_n, xgo_n, xgo_s, List.cons_append, List.nil_append, List.append_nil, true_and, and_true, Nat.sub_zero, Nat.zero_le, true_implies, false_implies, implies_true, not_true_eq_false, not_false_eq_true, true_or, or_true]
    rw [eK] at g1
    refine adl_19 hx hA hc n0 hp hq d (i + 1) σ' _ (by omega) (by omega) (AW_congr (fun c' u' => ?_) (AW_trans hx ?_ ?_ h1 g1)) g2
    · constructor
      · rintro (⟨e, j, j0, j1, k⟩ | ⟨e, k⟩)
        · exact ⟨e, j, j0, by omega, k⟩
        · exact ⟨e, i, i0, by omega, k⟩
      · rintro ⟨e, j, j0, j1, k⟩
        by_cases q : j = i
        · rw [q] at k; exact Or.inr ⟨e, k⟩
        · exact Or.inl ⟨e, j, j0, by omega, k⟩
    · rintro c' u' ⟨e, j, j0, j1, k⟩
      exact ⟨e ▸ hc, (hA _ _ k).2⟩
    · rintro c' u' ⟨e, k⟩
      exact ⟨e ▸ hc, (hA _ _ k).2⟩
/-- Inclusion.addLoaded -/
theorem c47_19 {xs : List Int} {r s c x : Int} (hx : xok xs) (hA : okF xs (Gc 23 σ)) (hWP : WP 19 24 27 25 xs r s σ) (hc : vld xs c) (hxr : 0 ≤ x ∧ x < 152)
    (hq : ∀ σ', AW 1 19 24 27 28 29 xs r s (fun c' u' => c' = c ∧ ∃ y, Gc 23 σ x y ∧ Gc 23 σ y u') σ σ' → WP 19 24 27 25 xs r s σ' → Q (.inl none) σ') : Call t 47 [vR 19, vI c, vI x] σ Q := by
  rw [x47_0_19]
  refine c49_19 hx hA hxr (fun σp n n0 n1 hf h1 h2 => ?_)
  simp only [x47_5_19, aft_l, aft_r, optL_s, optL_n, xgo_n, xgo_s, List.cons_append, List.nil_append, List.append_nil, true_and, and_true, Nat.sub_zero, Nat.zero_le, true_implies, false_implies, implies_true, not_true_eq_false, not_false_eq_true, true_or, or_true]
  have eK : Gc 23 σp = Gc 23 σ := Gc_fr hf (fun j => by omega)
  have hv : ∀ i : Int, 0 ≤ i → i < n → 0 ≤ gI σp 26 i ∧ gI σp 26 i < 152 := fun i i0 i1 => vld_152 hx (hA _ _ (h1 i i0 i1)).2
  by_cases hn : n ≤ 152
  · refine adl_19 hx (by rw [eK]; exact hA) hc ⟨n0, by omega⟩ (fun i i0 i1 => ⟨(hv i i0 i1).1, (hv i i0 i1).2, by omega⟩) (fun σ' g1 g2 => hq σ' (AW_congr (fun c' u' => ?_) (AW_pt (fr_mono hf (fun c j e => by omega)) (by decide) g1)) g2) n.toNat 0 σp _ (by omega) (by omega) (AW_refl (fun c' u' k => by obtain ⟨_, j, j0, j1, _⟩ := k; omega)) (WP_fr hWP hf (fun j => by omega) (fun j => by omega) (fun j => by omega) (by omega) (by omega))
    rw [eK]
    constructor
    · rintro ⟨e, i, i0, i1, k⟩
      exact ⟨e, gI σp 26 i, h1 i i0 i1, k⟩
    · rintro ⟨e, y, k1, k2⟩
      obtain ⟨i, i0, i1, e2⟩ := h2 y k1
      exact ⟨e, i, i0, i1, by rw [e2]; exact k2⟩
  · exact absurd n1 hn
theorem ads_19 {xs : List Int} {r s x n : Int} {σp : St} (hx : xok xs) (hA : okF xs (Gc 23 σp)) (hxr : 0 ≤ x ∧ x < 152) (n0 : 0 ≤ n ∧ n ≤ 192) (hp : ∀ i : Int, 0 ≤ i → i < n → vld xs (gI σp 26 i) ∧ i < 152)
    (hq : ∀ σ', AW 0 19 24 27 28 29 xs r s (fun c' u' => (∃ i, 0 ≤ i ∧ i < n ∧ gI σp 26 i = c') ∧ Gc 23 σp x u') σp σ' → WP 19 24 27 25 xs r s σ' → Q (.inl none) σ') :
    ∀ (d : Nat) (i : Int) (σ1 : St) (a1 : Option AV), 0 ≤ i → i + d = n → AW 0 19 24 27 28 29 xs r s (fun c' u' => (∃ j, 0 ≤ j ∧ j < i ∧ gI σp 26 j = c') ∧ Gc 23 σp x u') σp σ1 → WP 19 24 27 25 xs r s σ1 → wp t 48 9 [some (vR 19), a1, some (vI x), some (vI n), some (vI i)] [] σ1 Q
  | 0, i, σ1, a1, i0, hd, h1, h2 => by
    rw [x48_9_19]
    refine ⟨⟨⟨by omega, by omega⟩, ⟨by omega, by omega⟩⟩, fun h => by omega, fun _ => ?_⟩
    rw [x48_35_19]
    have e : i = n := by omega
    rw [e] at h1; exact hq σ1 h1 h2
  | d + 1, i, σ1, a1, i0, hd, h1, h2 => by
    have hi := hp i i0 (by omega)
    have hr : rdI σ1 26 i = gI σp 26 i := by rw [rdI_in (n := 152) rfl i0 hi.2]; exact fr_I h1.2.2.2.2 _ _ (by omega)
    have eK := AK_19 h1
    rw [x48_9_19]
    refine ⟨⟨⟨by omega, by omega⟩, ⟨by omega, by omega⟩⟩, fun h => ?_, fun h => by omega⟩
    simp only [x48_15_19, k96 (show lc 26 = 101 from rfl), hr, x48_25_19, aft_l, aft_r, optL_s, optL_n, xgo_n, xgo_s, List.cons_append, List.nil_append, List.append_nil, true_and, and_true, Nat.sub_zero, Nat.zero_le, true_implies, false_implies, implies_true, not_true_eq_false, not_false_eq_true, true_or, or_true]
    refine ⟨⟨by omega, by omega⟩, c52_19 hx (by rw [eK]; exact hA) h2 hi.1 hxr (fun σ' g1 g2 => ?_)⟩
    simp only [x48_29_19, aft_l, aft_r, optL_s, optL_n, xgo_n, xgo_s, List.cons_append, List.nil_append, List.append_nil, true_and, and_true, Nat.sub_zero, Nat.zero_le, true_implies, false_implies, implies_true, not_true_eq_false, not_false_eq_true, true_or, or_true]
    rw [eK] at g1
    refine ads_19 hx hA hxr n0 hp hq d (i + 1) σ' _ (by omega) (by omega) (AW_congr (fun c' u' => ?_) (AW_trans hx ?_ ?_ h1 g1)) g2
    · constructor
      · rintro (⟨⟨j, j0, j1, e⟩, k⟩ | ⟨e, k⟩)
        · exact ⟨⟨j, j0, by omega, e⟩, k⟩
        · exact ⟨⟨i, i0, by omega, e.symm⟩, k⟩
      · rintro ⟨⟨j, j0, j1, e⟩, k⟩
        by_cases q : j = i
        · rw [q] at e; exact Or.inr ⟨e.symm, k⟩
        · exact Or.inl ⟨⟨j, j0, by omega, e⟩, k⟩
    · rintro c' u' ⟨⟨j, j0, j1, e⟩, k⟩
      exact ⟨e ▸ (hp j j0 (by omega)).1, (hA _ _ k).2⟩
    · rintro c' u' ⟨e, k⟩
      exact ⟨e ▸ hi.1, (hA _ _ k).2⟩
/-- Inclusion.addStored -/
theorem c48_19 {xs : List Int} {r s c x : Int} (hx : xok xs) (hA : okF xs (Gc 23 σ)) (hWP : WP 19 24 27 25 xs r s σ) (hcr : 0 ≤ c ∧ c < 152) (hxr : 0 ≤ x ∧ x < 152)
    (hq : ∀ σ', AW 1 19 24 27 28 29 xs r s (fun c' u' => Gc 23 σ c c' ∧ Gc 23 σ x u') σ σ' → WP 19 24 27 25 xs r s σ' → Q (.inl none) σ') : Call t 48 [vR 19, vI c, vI x] σ Q := by
  rw [x48_0_19]
  refine c49_19 hx hA hcr (fun σp n n0 n1 hf h1 h2 => ?_)
  simp only [x48_5_19, aft_l, aft_r, optL_s, optL_n, xgo_n, xgo_s, List.cons_append, List.nil_append, List.append_nil, true_and, and_true, Nat.sub_zero, Nat.zero_le, true_implies, false_implies, implies_true, not_true_eq_false, not_false_eq_true, true_or, or_true]
  have eK : Gc 23 σp = Gc 23 σ := Gc_fr hf (fun j => by omega)
  by_cases hn : n ≤ 152
  · refine ads_19 hx (by rw [eK]; exact hA) hxr ⟨n0, by omega⟩ (fun i i0 i1 => ⟨(hA _ _ (h1 i i0 i1)).2, by omega⟩) (fun σ' g1 g2 => hq σ' (AW_congr (fun c' u' => ?_) (AW_pt (fr_mono hf (fun c j e => by omega)) (by decide) g1)) g2) n.toNat 0 σp _ (by omega) (by omega) (AW_refl (fun c' u' k => by obtain ⟨⟨j, j0, j1, _⟩, _⟩ := k; omega)) (WP_fr hWP hf (fun j => by omega) (fun j => by omega) (fun j => by omega) (by omega) (by omega))
    rw [eK]
    constructor
    · rintro ⟨⟨i, i0, i1, e⟩, k⟩
      exact ⟨e ▸ h1 i i0 i1, k⟩
    · rintro ⟨k1, k2⟩
      exact ⟨h2 c' k1, k2⟩
  · exact absurd n1 hn
theorem adl_30 {xs : List Int} {r s c n : Int} {σp : St} (hx : xok xs) (hA : okF xs (Gc 34 σp)) (hc : vld xs c) (n0 : 0 ≤ n ∧ n ≤ 192) (hp : ∀ i : Int, 0 ≤ i → i < n → 0 ≤ gI σp 37 i ∧ gI σp 37 i < 152 ∧ i < 152)
    (hq : ∀ σ', AW 0 30 35 38 39 40 xs r s (fun c' u' => c' = c ∧ ∃ i, 0 ≤ i ∧ i < n ∧ Gc 34 σp (gI σp 37 i) u') σp σ' → WP 30 35 38 36 xs r s σ' → Q (.inl none) σ') :
    ∀ (d : Nat) (i : Int) (σ1 : St) (a2 : Option AV), 0 ≤ i → i + d = n → AW 0 30 35 38 39 40 xs r s (fun c' u' => c' = c ∧ ∃ j, 0 ≤ j ∧ j < i ∧ Gc 34 σp (gI σp 37 j) u') σp σ1 → WP 30 35 38 36 xs r s σ1 → wp t 47 9 [some (vR 30), some (vI c), a2, some (vI n), some (vI i)] [] σ1 Q
  | 0, i, σ1, a2, i0, hd, h1, h2 => by
    rw [x47_9_30]
    refine ⟨⟨⟨by omega, by omega⟩, ⟨by omega, by omega⟩⟩, fun h => by omega, fun _ => ?_⟩
    rw [x47_35_30]
    have e : i = n := by omega
    rw [e] at h1; exact hq σ1 h1 h2
  | d + 1, i, σ1, a2, i0, hd, h1, h2 => by
    have hi := hp i i0 (by omega)
    have hr : rdI σ1 37 i = gI σp 37 i := by rw [rdI_in (n := 152) rfl i0 hi.2.2]; exact fr_I h1.2.2.2.2 _ _ (by omega)
    have eK := AK_30 h1
    rw [x47_9_30]
    refine ⟨⟨⟨by omega, by omega⟩, ⟨by omega, by omega⟩⟩, fun h => ?_, fun h => by omega⟩
    simp only [x47_15_30, k96 (show lc 37 = 101 from rfl), hr, x47_26_30, aft_l, aft_r, optL_s, optL_n, xgo_n, xgo_s, List.cons_append, List.nil_append, List.append_nil, true_and, and_true, Nat.sub_zero, Nat.zero_le, true_implies, false_implies, implies_true, not_true_eq_false, not_false_eq_true, true_or, or_true]
    refine ⟨⟨by omega, by omega⟩, c52_30 hx (by rw [eK]; exact hA) h2 hc ⟨hi.1, hi.2.1⟩ (fun σ' g1 g2 => ?_)⟩
    simp only [x47_29_30, aft_l, aft_r, optL_s, optL_n, xgo_n, xgo_s, List.cons_append, List.nil_append, List.append_nil, true_and, and_true, Nat.sub_zero, Nat.zero_le, true_implies, false_implies, implies_true, not_true_eq_false, not_false_eq_true, true_or, or_true]
    rw [eK] at g1
    refine adl_30 hx hA hc n0 hp hq d (i + 1) σ' _ (by omega) (by omega) (AW_congr (fun c' u' => ?_) (AW_trans hx ?_ ?_ h1 g1)) g2
    · constructor
      · rintro (⟨e, j, j0, j1, k⟩ | ⟨e, k⟩)
        · exact ⟨e, j, j0, by omega, k⟩
        · exact ⟨e, i, i0, by omega, k⟩
      · rintro ⟨e, j, j0, j1, k⟩
        by_cases q : j = i
        · rw [q] at k; exact Or.inr ⟨e, k⟩
        · exact Or.inl ⟨e, j, j0, by omega, k⟩
    · rintro c' u' ⟨e, j, j0, j1, k⟩
      exact ⟨e ▸ hc, (hA _ _ k).2⟩
    · rintro c' u' ⟨e, k⟩
      exact ⟨e ▸ hc, (hA _ _ k).2⟩
/-- Inclusion.addLoaded -/
theorem c47_30 {xs : List Int} {r s c x : Int} (hx : xok xs) (hA : okF xs (Gc 34 σ)) (hWP : WP 30 35 38 36 xs r s σ) (hc : vld xs c) (hxr : 0 ≤ x ∧ x < 152)
    (hq : ∀ σ', AW 1 30 35 38 39 40 xs r s (fun c' u' => c' = c ∧ ∃ y, Gc 34 σ x y ∧ Gc 34 σ y u') σ σ' → WP 30 35 38 36 xs r s σ' → Q (.inl none) σ') : Call t 47 [vR 30, vI c, vI x] σ Q := by
  rw [x47_0_30]
  refine c49_30 hx hA hxr (fun σp n n0 n1 hf h1 h2 => ?_)
  simp only [x47_5_30, aft_l, aft_r, optL_s, optL_n, xgo_n, xgo_s, List.cons_append, List.nil_append, List.append_nil, true_and, and_true, Nat.sub_zero, Nat.zero_le, true_implies, false_implies, implies_true, not_true_eq_false, not_false_eq_true, true_or, or_true]
  have eK : Gc 34 σp = Gc 34 σ := Gc_fr hf (fun j => by omega)
  have hv : ∀ i : Int, 0 ≤ i → i < n → 0 ≤ gI σp 37 i ∧ gI σp 37 i < 152 := fun i i0 i1 => vld_152 hx (hA _ _ (h1 i i0 i1)).2
  by_cases hn : n ≤ 152
  · refine adl_30 hx (by rw [eK]; exact hA) hc ⟨n0, by omega⟩ (fun i i0 i1 => ⟨(hv i i0 i1).1, (hv i i0 i1).2, by omega⟩) (fun σ' g1 g2 => hq σ' (AW_congr (fun c' u' => ?_) (AW_pt (fr_mono hf (fun c j e => by omega)) (by decide) g1)) g2) n.toNat 0 σp _ (by omega) (by omega) (AW_refl (fun c' u' k => by obtain ⟨_, j, j0, j1, _⟩ := k; omega)) (WP_fr hWP hf (fun j => by omega) (fun j => by omega) (fun j => by omega) (by omega) (by omega))
    rw [eK]
    constructor
    · rintro ⟨e, i, i0, i1, k⟩
      exact ⟨e, gI σp 37 i, h1 i i0 i1, k⟩
    · rintro ⟨e, y, k1, k2⟩
      obtain ⟨i, i0, i1, e2⟩ := h2 y k1
      exact ⟨e, i, i0, i1, by rw [e2]; exact k2⟩
  · exact absurd n1 hn
theorem ads_30 {xs : List Int} {r s x n : Int} {σp : St} (hx : xok xs) (hA : okF xs (Gc 34 σp)) (hxr : 0 ≤ x ∧ x < 152) (n0 : 0 ≤ n ∧ n ≤ 192) (hp : ∀ i : Int, 0 ≤ i → i < n → vld xs (gI σp 37 i) ∧ i < 152)
    (hq : ∀ σ', AW 0 30 35 38 39 40 xs r s (fun c' u' => (∃ i, 0 ≤ i ∧ i < n ∧ gI σp 37 i = c') ∧ Gc 34 σp x u') σp σ' → WP 30 35 38 36 xs r s σ' → Q (.inl none) σ') :
    ∀ (d : Nat) (i : Int) (σ1 : St) (a1 : Option AV), 0 ≤ i → i + d = n → AW 0 30 35 38 39 40 xs r s (fun c' u' => (∃ j, 0 ≤ j ∧ j < i ∧ gI σp 37 j = c') ∧ Gc 34 σp x u') σp σ1 → WP 30 35 38 36 xs r s σ1 → wp t 48 9 [some (vR 30), a1, some (vI x), some (vI n), some (vI i)] [] σ1 Q
  | 0, i, σ1, a1, i0, hd, h1, h2 => by
    rw [x48_9_30]
    refine ⟨⟨⟨by omega, by omega⟩, ⟨by omega, by omega⟩⟩, fun h => by omega, fun _ => ?_⟩
    rw [x48_35_30]
    have e : i = n := by omega
    rw [e] at h1; exact hq σ1 h1 h2
  | d + 1, i, σ1, a1, i0, hd, h1, h2 => by
    have hi := hp i i0 (by omega)
    have hr : rdI σ1 37 i = gI σp 37 i := by rw [rdI_in (n := 152) rfl i0 hi.2]; exact fr_I h1.2.2.2.2 _ _ (by omega)
    have eK := AK_30 h1
    rw [x48_9_30]
    refine ⟨⟨⟨by omega, by omega⟩, ⟨by omega, by omega⟩⟩, fun h => ?_, fun h => by omega⟩
    simp only [x48_15_30, k96 (show lc 37 = 101 from rfl), hr, x48_25_30, aft_l, aft_r, optL_s, optL_n, xgo_n, xgo_s, List.cons_append, List.nil_append, List.append_nil, true_and, and_true, Nat.sub_zero, Nat.zero_le, true_implies, false_implies, implies_true, not_true_eq_false, not_false_eq_true, true_or, or_true]
    refine ⟨⟨by omega, by omega⟩, c52_30 hx (by rw [eK]; exact hA) h2 hi.1 hxr (fun σ' g1 g2 => ?_)⟩
    simp only [x48_29_30, aft_l, aft_r, optL_s, optL_n, xgo_n, xgo_s, List.cons_append, List.nil_append, List.append_nil, true_and, and_true, Nat.sub_zero, Nat.zero_le, true_implies, false_implies, implies_true, not_true_eq_false, not_false_eq_true, true_or, or_true]
    rw [eK] at g1
    refine ads_30 hx hA hxr n0 hp hq d (i + 1) σ' _ (by omega) (by omega) (AW_congr (fun c' u' => ?_) (AW_trans hx ?_ ?_ h1 g1)) g2
    · constructor
      · rintro (⟨⟨j, j0, j1, e⟩, k⟩ | ⟨e, k⟩)
        · exact ⟨⟨j, j0, by omega, e⟩, k⟩
        · exact ⟨⟨i, i0, by omega, e.symm⟩, k⟩
      · rintro ⟨⟨j, j0, j1, e⟩, k⟩
        by_cases q : j = i
        · rw [q] at e; exact Or.inr ⟨e.symm, k⟩
        · exact Or.inl ⟨⟨j, j0, by omega, e⟩, k⟩
    · rintro c' u' ⟨⟨j, j0, j1, e⟩, k⟩
      exact ⟨e ▸ (hp j j0 (by omega)).1, (hA _ _ k).2⟩
    · rintro c' u' ⟨e, k⟩
      exact ⟨e ▸ hi.1, (hA _ _ k).2⟩
/-- Inclusion.addStored -/
theorem c48_30 {xs : List Int} {r s c x : Int} (hx : xok xs) (hA : okF xs (Gc 34 σ)) (hWP : WP 30 35 38 36 xs r s σ) (hcr : 0 ≤ c ∧ c < 152) (hxr : 0 ≤ x ∧ x < 152)
    (hq : ∀ σ', AW 1 30 35 38 39 40 xs r s (fun c' u' => Gc 34 σ c c' ∧ Gc 34 σ x u') σ σ' → WP 30 35 38 36 xs r s σ' → Q (.inl none) σ') : Call t 48 [vR 30, vI c, vI x] σ Q := by
  rw [x48_0_30]
  refine c49_30 hx hA hcr (fun σp n n0 n1 hf h1 h2 => ?_)
  simp only [x48_5_30, aft_l, aft_r, optL_s, optL_n, xgo_n, xgo_s, List.cons_append, List.nil_append, List.append_nil, true_and, and_true, Nat.sub_zero, Nat.zero_le, true_implies, false_implies, implies_true, not_true_eq_false, not_false_eq_true, true_or, or_true]
  have eK : Gc 34 σp = Gc 34 σ := Gc_fr hf (fun j => by omega)
  by_cases hn : n ≤ 152
  · refine ads_30 hx (by rw [eK]; exact hA) hxr ⟨n0, by omega⟩ (fun i i0 i1 => ⟨(hA _ _ (h1 i i0 i1)).2, by omega⟩) (fun σ' g1 g2 => hq σ' (AW_congr (fun c' u' => ?_) (AW_pt (fr_mono hf (fun c j e => by omega)) (by decide) g1)) g2) n.toNat 0 σp _ (by omega) (by omega) (AW_refl (fun c' u' k => by obtain ⟨⟨j, j0, j1, _⟩, _⟩ := k; omega)) (WP_fr hWP hf (fun j => by omega) (fun j => by omega) (fun j => by omega) (by omega) (by omega))
    rw [eK]
    constructor
    · rintro ⟨⟨i, i0, i1, e⟩, k⟩
      exact ⟨e ▸ h1 i i0 i1, k⟩
    · rintro ⟨k1, k2⟩
      exact ⟨h2 c' k1, k2⟩
  · exact absurd n1 hn
end CI4

