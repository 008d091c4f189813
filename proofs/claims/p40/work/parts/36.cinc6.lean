/-! the class's inclusion: solve -/
def INr (b : Nat) (σ : St) (P : Pg) (lim : Int) (xs : List Int) : Prop :=
  CXr (b + 1) σ P lim xs ∧ (gI σ b 8 = 0 ∧ (CD (b + 6) σ xs ∧ ((∀ c u, Gc (b + 5) σ c u ↔ Lf P xs lim c u) ∧ ((∀ c u, Gc (b + 4) σ c u ↔ Lf P xs lim c u) ∧
  ((∀ a t, 0 ≤ a → a < 44 → 0 ≤ t → t < 64 → (Hc (b + 8) σ a t ↔ im xs (Lf P xs lim) a t)) ∧
  ((∀ a t, 0 ≤ a → a < 44 → 0 ≤ t → t < 44 → im xs (Lf P xs lim) a t → RKp P xs lim a t (gI σ (b + 9) (a * 44 + t)) (gI σ (b + 10) (a * 44 + t))) ∧
  (gI σ b 9 = fpop (gL σ (b + 5)) ∧ ∃ j : Nat, gI σ b 10 = j ∧ ((∀ c u, Gr P xs lim (j + 1) c u → Gr P xs lim j c u) ∧ ∀ i, i < j → ∃ c u, Gr P xs lim (i + 1) c u ∧ ¬ Gr P xs lim i c u))))))))
theorem GB_step {P : Pg} {xs : List Int} {lim i n : Int} {j : Nat} (hi : itm P xs i n) (c u : Int) : GB P xs lim j (lx i (n + 1)) c u ↔ (GB P xs lim j (lx i n) c u ∨ DD P xs lim (Gr P xs lim j) i n c u) := by
  unfold GB
  constructor
  · rintro (h | ⟨i', n', ⟨h1, h2⟩, h3⟩)
    · exact Or.inl (Or.inl h)
    · unfold lx at h2
      by_cases q : i' = i ∧ n' = n
      · rw [q.1, q.2] at h3; exact Or.inr h3
      · exact Or.inl (Or.inr ⟨i', n', ⟨h1, by unfold lx; omega⟩, h3⟩)
  · rintro ((h | ⟨i', n', ⟨h1, h2⟩, h3⟩) | h)
    · exact Or.inl h
    · exact Or.inr ⟨i', n', ⟨h1, by unfold lx at *; omega⟩, h3⟩
    · exact Or.inr ⟨i, n, ⟨hi, by unfold lx; omega⟩, h⟩
def lo (i : Int) : Int → Int → Prop := fun i' _ => i' < i
theorem GB_in {P : Pg} (hz : okZ P) {xs : List Int} {lim i f : Int} {j : Nat} (hf : la xs i / 2353 = f) : GB P xs lim j (lo i) = GB P xs lim j (lx i (stt P f)) := by
  funext c u
  apply propext
  unfold GB
  constructor
  · rintro (h | ⟨i', n', ⟨h1, h2⟩, h3⟩)
    · exact Or.inl h
    · exact Or.inr ⟨i', n', ⟨h1, Or.inl h2⟩, h3⟩
  · rintro (h | ⟨i', n', ⟨h1, h2⟩, h3⟩)
    · exact Or.inl h
    · rcases h2 with h2 | ⟨h2, h4⟩
      · exact Or.inr ⟨i', n', ⟨h1, h2⟩, h3⟩
      · have h5 := own_spec hz h1.2.1.1 h1.2.1.2
        rw [h1.2.2, h2, hf] at h5
        omega
theorem GB_out {P : Pg} (hz : okZ P) {xs : List Int} {lim i f : Int} {j : Nat} (hf : la xs i / 2353 = f) (f0 : 0 ≤ f) (f1 : f ≤ 3) : GB P xs lim j (lx i (stt P (f + 1))) = GB P xs lim j (lo (i + 1)) := by
  funext c u
  apply propext
  unfold GB
  constructor
  · rintro (h | ⟨i', n', ⟨h1, h2⟩, h3⟩)
    · exact Or.inl h
    · exact Or.inr ⟨i', n', ⟨h1, by unfold lx at h2; unfold lo; omega⟩, h3⟩
  · rintro (h | ⟨i', n', ⟨h1, h2⟩, h3⟩)
    · exact Or.inl h
    · refine Or.inr ⟨i', n', ⟨h1, ?_⟩, h3⟩
      unfold lo at h2
      by_cases q : i' = i
      · have h5 := own_spec hz h1.2.1.1 h1.2.1.2
        rw [h1.2.2, q, hf, ← stt_succ P f0 f1] at h5
        exact Or.inr ⟨q, h5.2.2⟩
      · exact Or.inl (by omega)
theorem GB_0 {P : Pg} {xs : List Int} {lim : Int} {j : Nat} : GB P xs lim j (lo 0) = Gr P xs lim j := by
  funext c u
  apply propext
  unfold GB
  constructor
  · rintro (h | ⟨i', n', ⟨h1, h2⟩, h3⟩)
    · exact h
    · have := h1.1.1; unfold lo at h2; omega
  · exact Or.inl
theorem GB_all {P : Pg} {xs : List Int} {lim : Int} {j : Nat} : GB P xs lim j (lo xs.length) = Gr P xs lim (j + 1) := by
  funext c u
  apply propext
  constructor
  · exact GB_Gr
  · rintro (h | ⟨i', n', h1, h3⟩)
    · exact Or.inl h
    · exact Or.inr ⟨i', n', ⟨h1, h1.1.2⟩, h3⟩
section CI6
variable {t : Nat} {σ : St} {Q : Res → St → Prop} {P : Pg}
theorem c44_19 {xs : List Int} {lim c : Int} (hP : okP P) (hX : CXr 20 σ P lim xs) (c0 : 0 ≤ c) (c1 : c < 152) (hq : ∀ v, (vld xs c → v = cdf xs c) → Q (.inl (some (vI v))) σ) : Call t 44 [vR 19, vI c] σ Q := by
  have hx := xok_of hP hX.1
  rw [x44_0_19]
  refine ⟨⟨by omega, by omega⟩, fun h => ?_, fun h => ?_⟩
  · rw [x44_16_19]
    refine ⟨⟨by omega, by omega⟩, fun h4 => ?_, fun h4 => ?_⟩
    · rw [x44_21_19]
      exact hq c (fun _ => by unfold cdf; rw [if_neg (by omega), if_pos h4])
    · have hg := hX.2.1.1.2 ((c - 4) / 4) (by omega) (by omega)
      have hr : rdI σ 21 ((c - 4) / 4) = gI σ 21 ((c - 4) / 4) := rdI_in (n := 31) rfl (by omega) (by omega)
      have hg' : 0 ≤ gI σ 21 ((c - 4) / 4) ∧ gI σ 21 ((c - 4) / 4) < 9412 := hg
      simp only [x44_23_19, x25_0_20, k96 (show lc 21 = 101 from rfl), x25_8_20, hr, x44_37_19, k168, x44_40_19, aft_l, aft_r, optL_s, optL_n, xgo_n, xgo_s, List.cons_append, List.nil_append, List.append_nil, true_and, and_true, Nat.sub_zero, Nat.zero_le, true_implies, false_implies, implies_true, not_true_eq_false, not_false_eq_true, true_or, or_true]
      refine ⟨⟨by omega, by omega⟩, ⟨by omega, by omega⟩, ⟨by omega, by omega⟩, ⟨by omega, by omega⟩, hq _ (fun hv => ?_)⟩
      have e : gI σ 21 ((c - 4) / 4) = la xs ((c - 4) / 4) := hX.2.1.1.1 _ (by omega) (by have := hv.2; omega)
      unfold cdf; rw [if_neg (by omega), if_neg h4, e]
  · rw [x44_7_19]
    exact hq _ (fun _ => by unfold cdf; rw [if_pos (by omega)])
theorem cdl_19 {xs : List Int} {lim : Int} (hP : okP P) (hq : ∀ σ', CD 25 σ' xs → fr (fun c _ => c = 25) σ σ' → Q (.inl none) σ') :
    ∀ (d : Nat) (i : Int) (σ1 : St), 0 ≤ i → i + d = 152 → CXr 20 σ1 P lim xs → fr (fun c _ => c = 25) σ σ1 → (∀ c, vld xs c → c < i → gI σ1 25 c = cdf xs c) → wp t 43 28 [some (vR 19), some (vI i)] [] σ1 Q
  | 0, i, σ1, i0, hd, hX, hf, h => by
    rw [x43_28_19]
    refine ⟨⟨by omega, by omega⟩, fun h => by omega, fun _ => ?_⟩
    rw [x43_54_19]
    have hx := xok_of hP hX.1
    exact hq σ1 (fun c hc => h c hc (by have := vld_152 hx hc; omega)) hf
  | d + 1, i, σ1, i0, hd, hX, hf, h => by
    have w : ∀ v, wrI σ1 25 i v = sI σ1 25 i v := fun v => wrI_in (n := 152) rfl (by omega) (by omega)
    rw [x43_28_19]
    refine ⟨⟨by omega, by omega⟩, fun _ => ?_, fun h => by omega⟩
    rw [x43_35_19]
    refine c44_19 hP hX i0 (by omega) (fun v hv => ?_)
    simp only [x43_45_19, k98 (show lc 25 = 101 from rfl), w, x43_48_19, aft_l, aft_r, optL_s, optL_n, xgo_n, xgo_s, List.cons_append, List.nil_append, List.append_nil, true_and, and_true, Nat.sub_zero, Nat.zero_le, true_implies, false_implies, implies_true, not_true_eq_false, not_false_eq_true, true_or, or_true]
    have hf' : fr (fun c _ => c = 25) σ1 (sI σ1 25 i v) := fr_sI fr_refl rfl
    refine ⟨⟨by omega, by omega⟩, cdl_19 hP hq d (i + 1) _ (by omega) (by omega) (CXr_fr_20 hX hf' (fun j => by omega) (fun j => by omega) (by omega) (by omega)) (fr_trans hf hf') (fun c hc c1 => ?_)⟩
    rw [gI_sI]
    by_cases q : c = i
    · rw [if_pos ⟨rfl, q⟩, q]; exact hv (q ▸ hc)
    · rw [if_neg (fun g => q g.2)]; exact h c hc (by omega)
/-- Inclusion.clear -/
theorem c43_19 {xs : List Int} {lim : Int} (hP : okP P) (hX : CXr 20 σ P lim xs) (hq : ∀ σ', CD 25 σ' xs → gI σ' 19 9 = 0 → gI σ' 19 10 = 0 → (∀ j, 0 ≤ j → j < 456 → gL σ' 24 j = 0) → (∀ j, 0 ≤ j → j < 44 → gL σ' 27 j = 0) → fr (fun c j => c = 24 ∨ c = 25 ∨ c = 27 ∨ (c = 19 ∧ (j = 9 ∨ j = 10))) σ σ' → Q (.inl none) σ') : Call t 43 [vR 19] σ Q := by
  rw [x43_0_19]
  refine k100 (show lc 24 = 102 from rfl) ?_
  simp only [x43_18_19, aft_l, aft_r, optL_s, optL_n, xgo_n, xgo_s, List.cons_append, List.nil_append, List.append_nil, true_and, and_true, Nat.sub_zero, Nat.zero_le, true_implies, false_implies, implies_true, not_true_eq_false, not_false_eq_true, true_or, or_true]
  refine k100 (show lc 27 = 102 from rfl) ?_
  simp only [x43_26_19, aft_l, aft_r, optL_s, optL_n, xgo_n, xgo_s, List.cons_append, List.nil_append, List.append_nil, true_and, and_true, Nat.sub_zero, Nat.zero_le, true_implies, false_implies, implies_true, not_true_eq_false, not_false_eq_true, true_or, or_true]
  have e5 : (ln 24 : Int) = 456 := rfl
  have e8 : (ln 27 : Int) = 44 := rfl
  have hf : fr (fun c j => c = 24 ∨ c = 25 ∨ c = 27 ∨ (c = 19 ∧ (j = 9 ∨ j = 10))) σ (upL (upL (sI (sI σ 19 9 0) 19 10 0) 24 (fun j => if 0 ≤ j ∧ j < (ln 24 : Int) then BitVec.ofNat 64 0 else gL (sI (sI σ 19 9 0) 19 10 0) 24 j)) 27 (fun j => if 0 ≤ j ∧ j < (ln 27 : Int) then BitVec.ofNat 64 0 else gL (upL (sI (sI σ 19 9 0) 19 10 0) 24 (fun j => if 0 ≤ j ∧ j < (ln 24 : Int) then BitVec.ofNat 64 0 else gL (sI (sI σ 19 9 0) 19 10 0) 24 j)) 27 j)) :=
    fr_upL (fr_upL (fr_sI (fr_sI fr_refl (by omega)) (by omega)) (fun j => by omega)) (fun j => by omega)
  refine cdl_19 (lim := lim) hP (fun σ' h1 h2 => hq σ' h1 ?_ ?_ (fun j j0 j1 => ?_) (fun j j0 j1 => ?_) (fr_trans hf (fr_mono h2 (fun c j e => by omega)))) 152 0 _ (by omega) (by omega) (CXr_fr_20 hX hf (fun j => by omega) (fun j => by omega) (by omega) (by omega)) fr_refl (fun c hc c1 => by have := hc.1; omega)
  · rw [fr_I h2 _ _ (by omega), gI_upL, gI_upL, gI_sI, if_neg (by omega), gI_sI, if_pos ⟨rfl, rfl⟩]
  · rw [fr_I h2 _ _ (by omega), gI_upL, gI_upL, gI_sI, if_pos ⟨rfl, rfl⟩]
  · rw [fr_L h2 _ _ (by omega), gL_upL, if_neg (by decide), gL_upL, if_pos rfl, if_pos ⟨j0, by omega⟩]; rfl
  · rw [fr_L h2 _ _ (by omega), gL_upL, if_pos rfl, if_pos ⟨j0, by omega⟩]; rfl
theorem c44_30 {xs : List Int} {lim c : Int} (hP : okP P) (hX : CXr 31 σ P lim xs) (c0 : 0 ≤ c) (c1 : c < 152) (hq : ∀ v, (vld xs c → v = cdf xs c) → Q (.inl (some (vI v))) σ) : Call t 44 [vR 30, vI c] σ Q := by
  have hx := xok_of hP hX.1
  rw [x44_0_30]
  refine ⟨⟨by omega, by omega⟩, fun h => ?_, fun h => ?_⟩
  · rw [x44_16_30]
    refine ⟨⟨by omega, by omega⟩, fun h4 => ?_, fun h4 => ?_⟩
    · rw [x44_21_30]
      exact hq c (fun _ => by unfold cdf; rw [if_neg (by omega), if_pos h4])
    · have hg := hX.2.1.1.2 ((c - 4) / 4) (by omega) (by omega)
      have hr : rdI σ 32 ((c - 4) / 4) = gI σ 32 ((c - 4) / 4) := rdI_in (n := 31) rfl (by omega) (by omega)
      have hg' : 0 ≤ gI σ 32 ((c - 4) / 4) ∧ gI σ 32 ((c - 4) / 4) < 9412 := hg
      simp only [x44_23_30, x25_0_31, k96 (show lc 32 = 101 from rfl), x25_8_31, hr, x44_37_30, k168, x44_40_30, aft_l, aft_r, optL_s, optL_n, xgo_n, xgo_s, List.cons_append, List.nil_append, List.append_nil, true_and, and_true, Nat.sub_zero, Nat.zero_le, true_implies, false_implies, implies_true, not_true_eq_false, not_false_eq_true, true_or, or_true]
      refine ⟨⟨by omega, by omega⟩, ⟨by omega, by omega⟩, ⟨by omega, by omega⟩, ⟨by omega, by omega⟩, hq _ (fun hv => ?_)⟩
      have e : gI σ 32 ((c - 4) / 4) = la xs ((c - 4) / 4) := hX.2.1.1.1 _ (by omega) (by have := hv.2; omega)
      unfold cdf; rw [if_neg (by omega), if_neg h4, e]
  · rw [x44_7_30]
    exact hq _ (fun _ => by unfold cdf; rw [if_pos (by omega)])
theorem cdl_30 {xs : List Int} {lim : Int} (hP : okP P) (hq : ∀ σ', CD 36 σ' xs → fr (fun c _ => c = 36) σ σ' → Q (.inl none) σ') :
    ∀ (d : Nat) (i : Int) (σ1 : St), 0 ≤ i → i + d = 152 → CXr 31 σ1 P lim xs → fr (fun c _ => c = 36) σ σ1 → (∀ c, vld xs c → c < i → gI σ1 36 c = cdf xs c) → wp t 43 28 [some (vR 30), some (vI i)] [] σ1 Q
  | 0, i, σ1, i0, hd, hX, hf, h => by
    rw [x43_28_30]
    refine ⟨⟨by omega, by omega⟩, fun h => by omega, fun _ => ?_⟩
    rw [x43_54_30]
    have hx := xok_of hP hX.1
    exact hq σ1 (fun c hc => h c hc (by have := vld_152 hx hc; omega)) hf
  | d + 1, i, σ1, i0, hd, hX, hf, h => by
    have w : ∀ v, wrI σ1 36 i v = sI σ1 36 i v := fun v => wrI_in (n := 152) rfl (by omega) (by omega)
    rw [x43_28_30]
    refine ⟨⟨by omega, by omega⟩, fun _ => ?_, fun h => by omega⟩
    rw [x43_35_30]
    refine c44_30 hP hX i0 (by omega) (fun v hv => ?_)
    simp only [x43_45_30, k98 (show lc 36 = 101 from rfl), w, x43_48_30, aft_l, aft_r, optL_s, optL_n, xgo_n, xgo_s, List.cons_append, List.nil_append, List.append_nil, true_and, and_true, Nat.sub_zero, Nat.zero_le, true_implies, false_implies, implies_true, not_true_eq_false, not_false_eq_true, true_or, or_true]
    have hf' : fr (fun c _ => c = 36) σ1 (sI σ1 36 i v) := fr_sI fr_refl rfl
    refine ⟨⟨by omega, by omega⟩, cdl_30 hP hq d (i + 1) _ (by omega) (by omega) (CXr_fr_31 hX hf' (fun j => by omega) (fun j => by omega) (by omega) (by omega)) (fr_trans hf hf') (fun c hc c1 => ?_)⟩
    rw [gI_sI]
    by_cases q : c = i
    · rw [if_pos ⟨rfl, q⟩, q]; exact hv (q ▸ hc)
    · rw [if_neg (fun g => q g.2)]; exact h c hc (by omega)
/-- Inclusion.clear -/
theorem c43_30 {xs : List Int} {lim : Int} (hP : okP P) (hX : CXr 31 σ P lim xs) (hq : ∀ σ', CD 36 σ' xs → gI σ' 30 9 = 0 → gI σ' 30 10 = 0 → (∀ j, 0 ≤ j → j < 456 → gL σ' 35 j = 0) → (∀ j, 0 ≤ j → j < 44 → gL σ' 38 j = 0) → fr (fun c j => c = 35 ∨ c = 36 ∨ c = 38 ∨ (c = 30 ∧ (j = 9 ∨ j = 10))) σ σ' → Q (.inl none) σ') : Call t 43 [vR 30] σ Q := by
  rw [x43_0_30]
  refine k100 (show lc 35 = 102 from rfl) ?_
  simp only [x43_18_30, aft_l, aft_r, optL_s, optL_n, xgo_n, xgo_s, List.cons_append, List.nil_append, List.append_nil, true_and, and_true, Nat.sub_zero, Nat.zero_le, true_implies, false_implies, implies_true, not_true_eq_false, not_false_eq_true, true_or, or_true]
  refine k100 (show lc 38 = 102 from rfl) ?_
  simp only [x43_26_30, aft_l, aft_r, optL_s, optL_n, xgo_n, xgo_s, List.cons_append, List.nil_append, List.append_nil, true_and, and_true, Nat.sub_zero, Nat.zero_le, true_implies, false_implies, implies_true, not_true_eq_false, not_false_eq_true, true_or, or_true]
  have e5 : (ln 35 : Int) = 456 := rfl
  have e8 : (ln 38 : Int) = 44 := rfl
  have hf : fr (fun c j => c = 35 ∨ c = 36 ∨ c = 38 ∨ (c = 30 ∧ (j = 9 ∨ j = 10))) σ (upL (upL (sI (sI σ 30 9 0) 30 10 0) 35 (fun j => if 0 ≤ j ∧ j < (ln 35 : Int) then BitVec.ofNat 64 0 else gL (sI (sI σ 30 9 0) 30 10 0) 35 j)) 38 (fun j => if 0 ≤ j ∧ j < (ln 38 : Int) then BitVec.ofNat 64 0 else gL (upL (sI (sI σ 30 9 0) 30 10 0) 35 (fun j => if 0 ≤ j ∧ j < (ln 35 : Int) then BitVec.ofNat 64 0 else gL (sI (sI σ 30 9 0) 30 10 0) 35 j)) 38 j)) :=
    fr_upL (fr_upL (fr_sI (fr_sI fr_refl (by omega)) (by omega)) (fun j => by omega)) (fun j => by omega)
  refine cdl_30 (lim := lim) hP (fun σ' h1 h2 => hq σ' h1 ?_ ?_ (fun j j0 j1 => ?_) (fun j j0 j1 => ?_) (fr_trans hf (fr_mono h2 (fun c j e => by omega)))) 152 0 _ (by omega) (by omega) (CXr_fr_31 hX hf (fun j => by omega) (fun j => by omega) (by omega) (by omega)) fr_refl (fun c hc c1 => by have := hc.1; omega)
  · rw [fr_I h2 _ _ (by omega), gI_upL, gI_upL, gI_sI, if_neg (by omega), gI_sI, if_pos ⟨rfl, rfl⟩]
  · rw [fr_I h2 _ _ (by omega), gI_upL, gI_upL, gI_sI, if_pos ⟨rfl, rfl⟩]
  · rw [fr_L h2 _ _ (by omega), gL_upL, if_neg (by decide), gL_upL, if_pos rfl, if_pos ⟨j0, by omega⟩]; rfl
  · rw [fr_L h2 _ _ (by omega), gL_upL, if_pos rfl, if_pos ⟨j0, by omega⟩]; rfl
end CI6

