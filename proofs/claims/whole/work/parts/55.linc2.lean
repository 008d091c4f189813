/-! the law's inclusion: a statement in a context -/
theorem FW_weak {r1 : Nat} {D D' : Fa → Fa} {σ σ' : St} (h1 : ∀ c u, D' (Gc r1 σ) c u → D (Gc r1 σ) c u) (h2 : ∀ Y c u, D Y c u → D' Y c u) (g : FW r1 D σ σ') : FW r1 D' σ σ' :=
  ⟨g.1, fun c u k => g.2.1 c u (h1 c u k), fun X Y x1 x2 x3 x4 => g.2.2.1 X Y x1 x2 x3 (fun c u k => x4 c u (h2 Y c u k)), g.2.2.2⟩
section LI2
variable {t : Nat} {σ : St} {Q : Res → St → Prop} {P : Pg} {xs : List Int} {lim : Int}
theorem hl102 {r1 : Nat} (hr : r1 = 62 ∨ r1 = 63) : lc r1 = 102 ∧ ln r1 = 456 := by rcases hr with rfl | rfl <;> exact ⟨rfl, rfl⟩
theorem isin_iff {r : Nat} {c u : Int} {σ : St} (hc : 0 ≤ c ∧ c < 152) (hu : 0 ≤ u ∧ u < 152) : bt (gL σ r) c u = true ↔ Gc r σ c u := ⟨fun k => ⟨hc, ⟨hu.1, by omega⟩, k⟩, fun k => k.2.2⟩
theorem b2i_ne {b : Bool} (h : ¬ b2i b = 0) : b = true := by
  cases b with
  | true => rfl
  | false => exact absurd rfl h
theorem lld {r1 : Nat} (hr : r1 = 62 ∨ r1 = 63) {v w : Int} (hv : 0 ≤ v ∧ v < 152) (hw : 0 ≤ w ∧ w < 152) (hq : ∀ σ', FW r1 (fun A c u => c = v ∧ ∃ x, x < 152 ∧ (A w x ∧ A x u)) σ σ' → Q (.inl none) σ') :
    ∀ (d : Nat) (j : Int) (σ1 : St) (a2 a3 a4 a8 : Option AV), 0 ≤ j → j + d = 152 → FW r1 (fun A c u => c = v ∧ ∃ x, x < j ∧ (A w x ∧ A x u)) σ σ1 → wp t 215 94 [some (vR 53), some (vR r1), a2, a3, a4, some (vI v), some (vI w), some (vI j), a8] [] σ1 Q
  | 0, j, σ1, a2, a3, a4, a8, j0, hd, h => by
    have e : j = 152 := by omega
    subst e
    rw [x215_94]
    refine ⟨⟨by omega, by omega⟩, fun h => by omega, fun _ => ?_⟩
    rw [x215_128, x215_350]
    exact hq σ1 h
  | d + 1, j, σ1, a2, a3, a4, a8, j0, hd, h => by
    have step : ∀ σ2, FW r1 (fun A c u => A w j ∧ (c = v ∧ A j u)) σ1 σ2 → FW r1 (fun A c u => c = v ∧ ∃ x, x < j + 1 ∧ (A w x ∧ A x u)) σ σ2 := fun σ2 h2 => by
      have h3 := FW_comp hr (D2 := fun A c u => A w j ∧ (c = v ∧ A j u)) (fun A B hAB c u k => ⟨hAB _ _ k.1, k.2.1, hAB _ _ k.2.2⟩) h h2
      refine FW_congr (fun A c u => ?_) h3
      constructor
      · rintro (⟨e, x, k0, k⟩ | ⟨k1, e, k2⟩)
        · exact ⟨e, x, by omega, k⟩
        · exact ⟨e, j, by omega, k1, k2⟩
      · rintro ⟨e, x, k0, k1, k2⟩
        by_cases q : x = j
        · rw [q] at k1 k2; exact Or.inr ⟨k1, e, k2⟩
        · exact Or.inl ⟨e, x, by omega, k1, k2⟩
    have hi := isin_iff (r := r1) (σ := σ1) (c := w) (u := j) hw ⟨j0, by omega⟩
    rw [x215_94]
    refine ⟨⟨by omega, by omega⟩, fun _ => ?_, fun h => by omega⟩
    simp only [x215_102, e210 (hl102 hr) hw (show 0 ≤ j ∧ j < 192 by omega), x215_110, aft_l, aft_r, optL_s, optL_n, xgo_n, xgo_s, List.cons_append, List.nil_append, List.append_nil, true_and, and_true, Nat.sub_zero, Nat.zero_le, true_implies, false_implies, implies_true, not_true_eq_false, not_false_eq_true, true_or, or_true]
    refine ⟨b2i_in _, fun a => ?_, fun a => ?_⟩
    · rw [b2i_0] at a
      rw [x215_122]
      refine lld hr hv hw hq d (j + 1) σ1 _ _ _ _ (by omega) (by omega) (step σ1 (FW_if (fun k => ?_) (fun _ => rfl)))
      rw [hi.mpr k] at a; cases a
    · have a := b2i_ne a
      rw [x215_113]
      refine c214 hr hv ⟨j0, by omega⟩ (fun σ2 g => ?_)
      simp only [x215_122, aft_l, aft_r, optL_s, optL_n, xgo_n, xgo_s, List.cons_append, List.nil_append, List.append_nil, true_and, and_true, Nat.sub_zero, Nat.zero_le, true_implies, false_implies, implies_true, not_true_eq_false, not_false_eq_true, true_or, or_true]
      exact lld hr hv hw hq d (j + 1) σ2 _ _ _ _ (by omega) (by omega) (step σ2 (FW_if (fun _ => g) (fun k => absurd (hi.mp a) k)))
theorem lst2 {r1 : Nat} (hr : r1 = 62 ∨ r1 = 63) {v w : Int} (hv : 0 ≤ v ∧ v < 152) (hw : 0 ≤ w ∧ w < 152) (hq : ∀ σ', FW r1 (fun A c u => c < 152 ∧ (A v c ∧ A w u)) σ σ' → Q (.inl none) σ') :
    ∀ (d : Nat) (j : Int) (σ1 : St) (a2 a3 a4 a8 : Option AV), 0 ≤ j → j + d = 152 → FW r1 (fun A c u => c < j ∧ (A v c ∧ A w u)) σ σ1 → wp t 215 134 [some (vR 53), some (vR r1), a2, a3, a4, some (vI v), some (vI w), some (vI j), a8] [] σ1 Q
  | 0, j, σ1, a2, a3, a4, a8, j0, hd, h => by
    have e : j = 152 := by omega
    subst e
    rw [x215_134]
    refine ⟨⟨by omega, by omega⟩, fun h => by omega, fun _ => ?_⟩
    rw [x215_168, x215_350]
    exact hq σ1 h
  | d + 1, j, σ1, a2, a3, a4, a8, j0, hd, h => by
    have step : ∀ σ2, FW r1 (fun A c u => A v j ∧ (c = j ∧ A w u)) σ1 σ2 → FW r1 (fun A c u => c < j + 1 ∧ (A v c ∧ A w u)) σ σ2 := fun σ2 h2 => by
      have h3 := FW_comp hr (D2 := fun A c u => A v j ∧ (c = j ∧ A w u)) (fun A B hAB c u k => ⟨hAB _ _ k.1, k.2.1, hAB _ _ k.2.2⟩) h h2
      refine FW_congr (fun A c u => ?_) h3
      constructor
      · rintro (⟨k0, k⟩ | ⟨k1, e, k2⟩)
        · exact ⟨by omega, k⟩
        · rw [e]; exact ⟨by omega, k1, k2⟩
      · rintro ⟨k0, k1, k2⟩
        by_cases q : c = j
        · rw [q] at k1; exact Or.inr ⟨k1, q, k2⟩
        · exact Or.inl ⟨by omega, k1, k2⟩
    have hi := isin_iff (r := r1) (σ := σ1) (c := v) (u := j) hv ⟨j0, by omega⟩
    rw [x215_134]
    refine ⟨⟨by omega, by omega⟩, fun _ => ?_, fun h => by omega⟩
    simp only [x215_142, e210 (hl102 hr) hv (show 0 ≤ j ∧ j < 192 by omega), x215_150, aft_l, aft_r, optL_s, optL_n, xgo_n, xgo_s, List.cons_append, List.nil_append, List.append_nil, true_and, and_true, Nat.sub_zero, Nat.zero_le, true_implies, false_implies, implies_true, not_true_eq_false, not_false_eq_true, true_or, or_true]
    refine ⟨b2i_in _, fun a => ?_, fun a => ?_⟩
    · rw [b2i_0] at a
      rw [x215_162]
      refine lst2 hr hv hw hq d (j + 1) σ1 _ _ _ _ (by omega) (by omega) (step σ1 (FW_if (fun k => ?_) (fun _ => rfl)))
      rw [hi.mpr k] at a; cases a
    · have a := b2i_ne a
      rw [x215_153]
      refine c214 hr ⟨j0, by omega⟩ hw (fun σ2 g => ?_)
      simp only [x215_162, aft_l, aft_r, optL_s, optL_n, xgo_n, xgo_s, List.cons_append, List.nil_append, List.append_nil, true_and, and_true, Nat.sub_zero, Nat.zero_le, true_implies, false_implies, implies_true, not_true_eq_false, not_false_eq_true, true_or, or_true]
      exact lst2 hr hv hw hq d (j + 1) σ2 _ _ _ _ (by omega) (by omega) (step σ2 (FW_if (fun _ => g) (fun k => absurd (hi.mp a) k)))
def oD (v w o : Int) (j : Int) (A : Fa) (c u : Int) : Prop := c = v ∧ ((o = 0 ∧ (u < j ∧ A w u)) ∨ (o ≠ 0 ∧ ∃ x, x < j ∧ (A w x ∧ (128 ≤ x ∧ ((x - 128) % 3 + o ≤ 2 ∧ u = x + o)))))
theorem lof {r1 : Nat} (hr : r1 = 62 ∨ r1 = 63) {v w o p : Int} (hv : 0 ≤ v ∧ v < 152) (hw : 0 ≤ w ∧ w < 152) (ho : 0 ≤ o ∧ o ≤ 3) (hp : 0 ≤ p ∧ p < 48) (h57 : ∀ σ', fr fM σ σ' → gI σ' 57 p = o) (hq : ∀ σ', FW r1 (oD v w o 152) σ σ' → Q (.inl none) σ') :
    ∀ (d : Nat) (j : Int) (σ1 : St) (a3 a4 a8 : Option AV), 0 ≤ j → j + d = 152 → FW r1 (oD v w o j) σ σ1 → wp t 215 194 [some (vR 53), some (vR r1), some (vI p), a3, a4, some (vI v), some (vI w), some (vI j), a8] [] σ1 Q
  | 0, j, σ1, a3, a4, a8, j0, hd, h => by
    have e : j = 152 := by omega
    subst e
    rw [x215_194]
    refine ⟨⟨by omega, by omega⟩, fun h => by omega, fun _ => ?_⟩
    rw [x215_284, x215_350]
    exact hq σ1 h
  | d + 1, j, σ1, a3, a4, a8, j0, hd, h => by
    have step : ∀ σ2, FW r1 (fun A c u => A w j ∧ ((o = 0 ∧ (c = v ∧ u = j)) ∨ (o ≠ 0 ∧ ((128 ≤ j ∧ (j - 128) % 3 + o ≤ 2) ∧ (c = v ∧ u = j + o))))) σ1 σ2 → FW r1 (oD v w o (j + 1)) σ σ2 := fun σ2 h2 => by
      have h3 := FW_comp hr (D2 := fun A c u => A w j ∧ ((o = 0 ∧ (c = v ∧ u = j)) ∨ (o ≠ 0 ∧ ((128 ≤ j ∧ (j - 128) % 3 + o ≤ 2) ∧ (c = v ∧ u = j + o))))) (fun A B hAB c u k => ⟨hAB _ _ k.1, k.2⟩) h h2
      refine FW_congr (fun A c u => ?_) h3
      unfold oD
      constructor
      · rintro (⟨e, ⟨k0, k1, k2⟩ | ⟨k0, x, k1, k2⟩⟩ | ⟨k1, ⟨k2, e, k3⟩ | ⟨k2, k4, e, k3⟩⟩)
        · exact ⟨e, Or.inl ⟨k0, by omega, k2⟩⟩
        · exact ⟨e, Or.inr ⟨k0, x, by omega, k2⟩⟩
        · exact ⟨e, Or.inl ⟨k2, by omega, by rw [k3]; exact k1⟩⟩
        · exact ⟨e, Or.inr ⟨k2, j, by omega, k1, k4.1, k4.2, k3⟩⟩
      · rintro ⟨e, ⟨k0, k1, k2⟩ | ⟨k0, x, k1, k2, k3, k4, k5⟩⟩
        · by_cases q : u = j
          · rw [q] at k2; exact Or.inr ⟨k2, Or.inl ⟨k0, e, q⟩⟩
          · exact Or.inl ⟨e, Or.inl ⟨k0, by omega, k2⟩⟩
        · by_cases q : x = j
          · rw [q] at k2 k3 k4 k5; exact Or.inr ⟨k2, Or.inr ⟨k0, ⟨k3, k4⟩, e, k5⟩⟩
          · exact Or.inl ⟨e, Or.inr ⟨k0, x, by omega, k2, k3, k4, k5⟩⟩
    have hi := isin_iff (r := r1) (σ := σ1) (c := w) (u := j) hw ⟨j0, by omega⟩
    have o1 := h57 σ1 h.2.2.2.2
    rw [x215_194]
    refine ⟨⟨by omega, by omega⟩, fun _ => ?_, fun h => by omega⟩
    simp only [x215_202, e210 (hl102 hr) hw (show 0 ≤ j ∧ j < 192 by omega), x215_210, aft_l, aft_r, optL_s, optL_n, xgo_n, xgo_s, List.cons_append, List.nil_append, List.append_nil, true_and, and_true, Nat.sub_zero, Nat.zero_le, true_implies, false_implies, implies_true, not_true_eq_false, not_false_eq_true, true_or, or_true]
    refine ⟨b2i_in _, fun a => ?_, fun a => ?_⟩
    · rw [b2i_0] at a
      rw [x215_213, x215_278]
      refine lof hr hv hw ho hp h57 hq d (j + 1) σ1 _ _ _ (by omega) (by omega) (step σ1 (FW_if (fun k => ?_) (fun _ => rfl)))
      rw [hi.mpr k] at a; cases a
    · have a := b2i_ne a
      rw [x215_216, o1]
      refine ⟨⟨by omega, by omega⟩, ⟨by omega, by omega⟩, fun b => ?_, fun b => ?_⟩
      · rw [x215_225]
        refine c213 (r1 := r1) hv ⟨j0, by omega⟩ (fun σ2 g => ?_)
        simp only [x215_233, x215_278, aft_l, aft_r, optL_s, optL_n, xgo_n, xgo_s, List.cons_append, List.nil_append, List.append_nil, true_and, and_true, Nat.sub_zero, Nat.zero_le, true_implies, false_implies, implies_true, not_true_eq_false, not_false_eq_true, true_or, or_true]
        exact lof hr hv hw ho hp h57 hq d (j + 1) σ2 _ _ _ (by omega) (by omega) (step σ2 (FW_if (fun _ => FW_congr (fun A c u => ⟨fun k => Or.inl ⟨b, k⟩, fun k => k.elim (fun k => k.2) (fun k => absurd b k.1)⟩) g) (fun k => absurd (hi.mp a) k)))
      · rw [x215_236]
        have nope : ¬ (128 ≤ j ∧ (j - 128) % 3 + o ≤ 2) → wp t 215 278 [some (vR 53), some (vR r1), some (vI p), a3, a4, some (vI v), some (vI w), some (vI j), a8] [] σ1 Q := fun nn => by
          rw [x215_278]
          refine lof hr hv hw ho hp h57 hq d (j + 1) σ1 _ _ _ (by omega) (by omega) (step σ1 (FW_refl (fun c u k => ?_)))
          rcases k.2 with k | k
          · exact absurd k.1 b
          · exact absurd k.2.1 nn
        refine ⟨⟨by omega, by omega⟩, fun b2 => nope (fun k => by omega), fun b2 => ?_⟩
        rw [x215_244, o1]
        refine ⟨⟨by omega, by omega⟩, ⟨by omega, by omega⟩, ⟨by omega, by omega⟩, fun b3 => nope (fun k => by omega), fun b3 => ?_⟩
        rw [x215_263, o1]
        refine ⟨⟨by omega, by omega⟩, c213 (r1 := r1) hv (show 0 ≤ j + o ∧ j + o < 152 by omega) (fun σ2 g => ?_)⟩
        simp only [x215_278, aft_l, aft_r, optL_s, optL_n, xgo_n, xgo_s, List.cons_append, List.nil_append, List.append_nil, true_and, and_true, Nat.sub_zero, Nat.zero_le, true_implies, false_implies, implies_true, not_true_eq_false, not_false_eq_true, true_or, or_true]
        exact lof hr hv hw ho hp h57 hq d (j + 1) σ2 _ _ _ (by omega) (by omega) (step σ2 (FW_if (fun _ => FW_congr (fun A c u => ⟨fun k => Or.inr ⟨b, ⟨by omega, by omega⟩, k⟩, fun k => k.elim (fun k => absurd k.1 b) (fun k => k.2.2)⟩) g) (fun k => absurd (hi.mp a) k)))
theorem LX_f {σ σ' : St} (h : LX σ xs) (g : fr fM σ σ') : LX σ' xs := LX_fr h g (by unfold fM; omega) (fun j => by unfold fM; omega) (fun j => by unfold fM; omega)
theorem LPr_f {σ σ' : St} (h : LPr σ P) (g : fr fM σ σ') : LPr σ' P := LP_fr h g (fun c j k => by unfold fM at k; omega)
/-- follows -/
theorem c215 {r1 : Nat} (hr : r1 = 62 ∨ r1 = 63) (hP : okP P) (hl : 0 ≤ lim ∧ lim ≤ 2) (hLP : LPr σ P) (hX : LX σ xs) (hC : isC P lim xs) {i n : Int} (hi : itm P xs i n) (hA : okF xs (Gc r1 σ)) (hq : ∀ σ', FW r1 (fun A => DD P xs lim A i n) σ σ' → Q (.inl none) σ') : Call t 215 [vR 53, vR r1, vI (plc P n), vI i, vI lim] σ Q := by
  have hx := xok_of hP hC
  obtain ⟨hk, ⟨hv, hw, hn⟩, h5⟩ := hP.2.1 n hi.2.1.1 hi.2.1.2
  have ht := tot_rng hP.1
  have n0 := hi.2.1.1
  have n1 := hi.2.1.2
  have hp := plc_rng hP.1 n0 n1
  have rv := vld_152 hx (clo_vld (xs := xs) hv.1 hi.1.1 hi.1.2)
  have rw' := vld_152 hx (clo_vld (xs := xs) hw.1 hi.1.1 hi.1.2)
  have hv2 : ∀ c u, Gc r1 σ c u → (0 ≤ c ∧ c < 152) ∧ (0 ≤ u ∧ u < 152) := fun c u k => ⟨vld_152 hx (hA c u k).1, vld_152 hx (hA c u k).2⟩
  simp only [x215_0, LP_vv hLP hP.1 n0 n1, e211 hv.1 hv.2, x215_10, LP_ww hLP hP.1 n0 n1, e211 hw.1 hw.2, x215_22, LP_kd hLP hP.1 n0 n1, aft_l, aft_r, optL_s, optL_n, xgo_n, xgo_s, List.cons_append, List.nil_append, List.append_nil, true_and, and_true, Nat.sub_zero, Nat.zero_le, true_implies, false_implies, implies_true, not_true_eq_false, not_false_eq_true, true_or, or_true]
  refine ⟨⟨hp.1, by omega⟩, ⟨hp.1, by omega⟩, ⟨hp.1, by omega⟩, ⟨by omega, by omega⟩, fun hk5 => ?_, fun hk6 => ?_⟩
  · rcases (show kd P n = 0 ∨ kd P n = 1 ∨ kd P n = 2 ∨ kd P n = 3 ∨ kd P n = 4 ∨ kd P n = 5 by omega) with e | e | e | e | e | e
    · rw [e]
      show wp t 215 68 _ _ _ _
      rw [x215_68]
      refine c213 (r1 := r1) rv rw' (fun σ' g => ?_)
      simp only [x215_76, x215_350, aft_l, aft_r, optL_s, optL_n, xgo_n, xgo_s, List.cons_append, List.nil_append, List.append_nil, true_and, and_true, Nat.sub_zero, Nat.zero_le, true_implies, false_implies, implies_true, not_true_eq_false, not_false_eq_true, true_or, or_true]
      exact hq σ' (FW_congr (fun A c u => by unfold DD; simp [e]) g)
    · rw [e]
      show wp t 215 79 _ _ _ _
      rw [x215_79]
      refine c214 hr rv rw' (fun σ' g => ?_)
      simp only [x215_88, x215_350, aft_l, aft_r, optL_s, optL_n, xgo_n, xgo_s, List.cons_append, List.nil_append, List.append_nil, true_and, and_true, Nat.sub_zero, Nat.zero_le, true_implies, false_implies, implies_true, not_true_eq_false, not_false_eq_true, true_or, or_true]
      exact hq σ' (FW_congr (fun A c u => by unfold DD; simp [e]) g)
    · rw [e]
      show wp t 215 91 _ _ _ _
      rw [x215_91]
      refine lld hr rv rw' (fun σ' g => hq σ' (FW_weak (fun c u k => ?_) (fun Y c u k => ?_) g)) 152 0 σ _ _ _ _ (by omega) (by omega) (FW_refl (fun c u k => ?_))
      · have k2 : c = clo (vv P n) i ∧ ∃ x, Gc r1 σ (clo (ww P n) i) x ∧ Gc r1 σ x u := by unfold DD at k; simpa [e] using k
        obtain ⟨e1, x, k3, k4⟩ := k2
        exact ⟨e1, x, (hv2 _ _ k3).2.2, k3, k4⟩
      · obtain ⟨e1, x, _, k3, k4⟩ := k
        unfold DD; simp [e]; exact ⟨e1, x, k3, k4⟩
      · obtain ⟨_, x, k1, k2, _⟩ := k
        have := k2.2.1.1
        omega
    · rw [e]
      show wp t 215 131 _ _ _ _
      rw [x215_131]
      refine lst2 hr rv rw' (fun σ' g => hq σ' (FW_weak (fun c u k => ?_) (fun Y c u k => ?_) g)) 152 0 σ _ _ _ _ (by omega) (by omega) (FW_refl (fun c u k => ?_))
      · have k2 : Gc r1 σ (clo (vv P n) i) c ∧ Gc r1 σ (clo (ww P n) i) u := by unfold DD at k; simpa [e] using k
        exact ⟨(hv2 _ _ k2.1).2.2, k2⟩
      · unfold DD; simp [e]; exact k.2
      · have := k.2.1.2.1.1
        omega
    · have hs := sn_lt hP n0 n1 e
      rw [e]
      show wp t 215 171 _ _ _ _
      simp only [x215_171, e185 hLP hP n0 n1, x215_183, aft_l, aft_r, optL_s, optL_n, xgo_n, xgo_s, List.cons_append, List.nil_append, List.append_nil, true_and, and_true, Nat.sub_zero, Nat.zero_le, true_implies, false_implies, implies_true, not_true_eq_false, not_false_eq_true, true_or, or_true]
      refine c213 (r1 := r1) rv (show 0 ≤ 128 + 3 * sn P n ∧ 128 + 3 * sn P n < 152 by omega) (fun σ' g => ?_)
      simp only [x215_188, x215_350, aft_l, aft_r, optL_s, optL_n, xgo_n, xgo_s, List.cons_append, List.nil_append, List.append_nil, true_and, and_true, Nat.sub_zero, Nat.zero_le, true_implies, false_implies, implies_true, not_true_eq_false, not_false_eq_true, true_or, or_true]
      exact hq σ' (FW_congr (fun A c u => by unfold DD; simp [e]) g)
    · have h57 : ∀ σ', fr fM σ σ' → gI σ' 57 (plc P n) = nn P n := fun σ' g => LP_nn (LPr_f hLP g) hP.1 n0 n1
      rw [e]
      show wp t 215 191 _ _ _ _
      rw [x215_191]
      refine lof hr rv rw' hn hp h57 (fun σ' g => hq σ' (FW_weak (fun c u k => ?_) (fun Y c u k => ?_) g)) 152 0 σ _ _ _ (by omega) (by omega) (FW_refl (fun c u k => ?_))
      · have k2 : c = clo (vv P n) i ∧ ((nn P n = 0 ∧ Gc r1 σ (clo (ww P n) i) u) ∨ (nn P n ≠ 0 ∧ ∃ x, Gc r1 σ (clo (ww P n) i) x ∧ (128 ≤ x ∧ ((x - 128) % 3 + nn P n ≤ 2 ∧ u = x + nn P n)))) := by
          rcases k with ⟨q, _⟩ | ⟨q, _⟩ | ⟨q, _⟩ | ⟨q, _⟩ | ⟨q, _⟩ | ⟨q, k⟩ | ⟨q, _⟩
          · omega
          · omega
          · omega
          · omega
          · omega
          · exact k
          · omega
        obtain ⟨e1, ⟨k3, k4⟩ | ⟨k3, x, k4, k5⟩⟩ := k2
        · exact ⟨e1, Or.inl ⟨k3, (hv2 _ _ k4).2.2, k4⟩⟩
        · exact ⟨e1, Or.inr ⟨k3, x, (hv2 _ _ k4).2.2, k4, k5⟩⟩
      · obtain ⟨e1, k⟩ := k
        refine Or.inr (Or.inr (Or.inr (Or.inr (Or.inr (Or.inl ⟨e, e1, ?_⟩)))))
        rcases k with ⟨k3, _, k4⟩ | ⟨k3, x, _, k4, k5⟩
        · exact Or.inl ⟨k3, k4⟩
        · exact Or.inr ⟨k3, x, k4, k5⟩
      · obtain ⟨_, ⟨_, k1, k2⟩ | ⟨_, x, k1, k2, k3, _⟩⟩ := k
        · have := k2.2.1.1; omega
        · omega
  · have e : kd P n = 6 := by omega
    obtain ⟨⟨p0, p1⟩, p2⟩ := plf_ok hC hi e
    have hle := hX.1.2
    have hi2 := hi.1.2
    obtain ⟨g1, g2⟩ := hX.2.1 i hi.1.1 hi.1.2
    have hir := hX.2.2 _ (la_mem hi.1.1 hi.1.2)
    have he2 := ext_rng (lim := lim) (k := la xs i % 2353) (c := n) (by omega) (by omega) n0 (by omega)
    simp only [x215_287, LP_nn hLP hP.1 n0 n1, g2, e183 hLP hP.1 hp.1 hp.2, num_plc hP.1 n0 n1, x215_309, e207 (show 0 ≤ la xs i % 2353 by omega) (show la xs i % 2353 < 2353 by omega) n0 (show n < 48 by omega) hl, x215_314, aft_l, aft_r, optL_s, optL_n, xgo_n, xgo_s, List.cons_append, List.nil_append, List.append_nil, true_and, and_true, Nat.sub_zero, Nat.zero_le, true_implies, false_implies, implies_true, not_true_eq_false, not_false_eq_true, true_or, or_true]
    refine ⟨⟨hp.1, by omega⟩, ⟨hi.1.1, by omega⟩, c206 hX hn.1 hn.2 he2.1 he2.2 (fun q q0 q1 hm => ?_) (fun hm => ?_)⟩
    · have eq : q = plf P xs lim i n := nd_la (asc_nd hC.1) q0 q1 p0 p1 (by rw [hm, p2])
      simp only [x215_317, aft_l, aft_r, optL_s, optL_n, xgo_n, xgo_s, List.cons_append, List.nil_append, List.append_nil, true_and, and_true, Nat.sub_zero, Nat.zero_le, true_implies, false_implies, implies_true, not_true_eq_false, not_false_eq_true, true_or, or_true]
      rw [eq]
      have c1 : 0 ≤ 4 + 4 * plf P xs lim i n ∧ 4 + 4 * plf P xs lim i n < 152 := by omega
      have c2 : 0 ≤ 4 + 4 * plf P xs lim i n + 1 ∧ 4 + 4 * plf P xs lim i n + 1 < 152 := by omega
      refine c214 hr c1 rw' (fun σ1 h1 => ?_)
      simp only [x215_332, aft_l, aft_r, optL_s, optL_n, xgo_n, xgo_s, List.cons_append, List.nil_append, List.append_nil, true_and, and_true, Nat.sub_zero, Nat.zero_le, true_implies, false_implies, implies_true, not_true_eq_false, not_false_eq_true, true_or, or_true]
      refine c214 hr rv c2 (fun σ2 h2 => ?_)
      simp only [x215_347, x215_350, aft_l, aft_r, optL_s, optL_n, xgo_n, xgo_s, List.cons_append, List.nil_append, List.append_nil, true_and, and_true, Nat.sub_zero, Nat.zero_le, true_implies, false_implies, implies_true, not_true_eq_false, not_false_eq_true, true_or, or_true]
      exact hq σ2 (FW_congr (fun A c u => by unfold DD; simp [e]) (FW_comp hr (D2 := fun A c' u' => c' = clo (vv P n) i ∧ A (4 + 4 * plf P xs lim i n + 1) u') (fun A B hAB c u k => ⟨k.1, hAB _ _ k.2⟩) h1 h2))
    · exact absurd (la_mem p0 p1) (by rw [p2]; exact hm)
end LI2
