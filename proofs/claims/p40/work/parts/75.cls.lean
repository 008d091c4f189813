/-! the class: what it keeps -/
def CI (P : Pg) (lim : Int) (σ : St) : Prop :=
  (RB 5 σ P ∧ (RN 5 σ P ∧ gI σ 5 2 = lim)) ∧ ((GE 20 σ ∧ (gI σ 19 8 = 1 ∨ ∃ xs, INr 19 σ P lim xs)) ∧ ((GE 31 σ ∧ (gI σ 30 8 = 1 ∨ ∃ ys, INr 30 σ P 0 ys)) ∧ (gI σ 41 2 = 1 ∨ UNr σ P)))
def cK (M : Nat → Int → Prop) : Prop := ∀ c j, M c j → c ≤ 4 ∨ (12 ≤ c ∧ c ≤ 18) ∨ c = 26 ∨ c = 37 ∨ 44 ≤ c
theorem UNr_fr' {M : Nat → Int → Prop} {σ σ' : St} {P : Pg} (h : UNr σ P) (g : fr M σ σ') (hM : ∀ c j, M c j → c < 41 ∨ 43 < c) : UNr σ' P := by
  have n : ∀ c j, 41 ≤ c → c ≤ 43 → ¬ M c j := fun c j a b k => by have := hM c j k; omega
  obtain ⟨h1, ρ, u, h2, h3, h4, h5⟩ := h
  have e42 : gI σ' 42 = gI σ 42 := funext fun j => fr_I g _ _ (n _ _ (by decide) (by decide))
  have e43 : gI σ' 43 = gI σ 43 := funext fun j => fr_I g _ _ (n _ _ (by decide) (by decide))
  refine ⟨(fr_I g _ _ (n _ _ (by decide) (by decide))).trans h1, ρ, u, ?_⟩
  rw [e42, e43]
  exact ⟨h2, h3, h4, h5⟩
theorem GE_fr {M : Nat → Int → Prop} {b : Nat} {σ σ' : St} (h : GE b σ) (g : fr M σ σ') (h1 : ∀ j, ¬ M (b + 1) j) : GE b σ' := fun i i0 i1 => by rw [fr_I g _ _ (h1 i)]; exact h i i0 i1
theorem CI_fr {M : Nat → Int → Prop} {P : Pg} {lim : Int} {σ σ' : St} (h : CI P lim σ) (g : fr M σ σ') (hM : cK M) : CI P lim σ' := by
  obtain ⟨⟨h1, h2, h3⟩, ⟨h4, h5⟩, ⟨h6, h7⟩, h8⟩ := h
  have n : ∀ c j, ¬ (c ≤ 4 ∨ (12 ≤ c ∧ c ≤ 18) ∨ c = 26 ∨ c = 37 ∨ 44 ≤ c) → ¬ M c j := fun c j a b => a (hM c j b)
  refine ⟨⟨RB_fr h1 g (fun j => n _ _ (by omega)) (fun j => n _ _ (by omega)), RN_fr h2 g (fun j => n _ _ (by omega)) (fun j => n _ _ (by omega)) (fun j => n _ _ (by omega)) (fun j => n _ _ (by omega)) (n _ _ (by omega)), (fr_I g _ _ (n _ _ (by omega))).trans h3⟩, ⟨GE_fr h4 g (fun j => n _ _ (by omega)), ?_⟩, ⟨GE_fr h6 g (fun j => n _ _ (by omega)), ?_⟩, ?_⟩
  · rcases h5 with k | ⟨xs, k⟩
    · exact Or.inl ((fr_I g _ _ (n _ _ (by omega))).trans k)
    · exact Or.inr ⟨xs, INr_fr_19 k g (fun c j z => by have := hM c j z; omega)⟩
  · rcases h7 with k | ⟨xs, k⟩
    · exact Or.inl ((fr_I g _ _ (n _ _ (by omega))).trans k)
    · exact Or.inr ⟨xs, INr_fr_30 k g (fun c j z => by have := hM c j z; omega)⟩
  · rcases h8 with k | k
    · exact Or.inl ((fr_I g _ _ (n _ _ (by omega))).trans k)
    · exact Or.inr (UNr_fr' k g (fun c j z => by have := hM c j z; omega))
section CT
variable {t : Nat} {σ : St} {Q : Res → St → Prop} {P : Pg} {lim : Int} {xs ys : List Int}
theorem e87' (h : CI P lim σ) (hP : okP P) : Call t 87 [vR 5] σ Q ↔ Q (.inl (some (vI (mny P 4 (-1))))) σ := by
  rw [mny_all hP.1]; exact e87 h.1.2.1
theorem e79 (h : CI P lim σ) : Call t 79 [vR 5] σ Q ↔ Q (.inl (some (vI lim))) σ := by rw [x79_0, h.1.2.2]
/-- the answers by inclusion are made up -/
theorem s19 (hP : okP P) (hl : 0 ≤ lim ∧ lim ≤ 2) (hC : isC P lim xs) (h : CI P lim σ) (hq : ∀ σ', INr 19 σ' P lim xs → CI P lim σ' → fr (fun c _ => 19 ≤ c ∧ c ≤ 29) σ σ' → Q (.inl none) σ') : Call t 42 [vR 19, vR 5, vI lim] σ Q := by
  obtain ⟨h1, ⟨h4, h5⟩, ⟨h6, h7⟩, h8⟩ := h
  refine c42_19 hP hl h1.2.1 h4 (by rcases h5 with k | ⟨zs, k⟩; exact Or.inr k; exact Or.inl k.2.1) (fun e => ?_) (fun e σ' zs k g => ?_)
  · rcases h5 with k | ⟨zs, k⟩
    · rw [k] at e; cases e
    · have ez : zs = xs := isC_eq k.1.1 hC
      rw [ez] at k
      exact hq σ k ⟨h1, ⟨h4, Or.inr ⟨xs, k⟩⟩, ⟨h6, h7⟩, h8⟩ fr_refl
  · have ez : zs = xs := isC_eq k.1.1 hC
    rw [ez] at k
    have g' : fr (fun c _ => 19 ≤ c ∧ c ≤ 29) σ σ' := fr_mono g (fun c j z => by omega)
    refine hq σ' k ⟨⟨RB_fr h1.1 g' (fun j => by omega) (fun j => by omega), RN_fr h1.2.1 g' (fun j => by omega) (fun j => by omega) (fun j => by omega) (fun j => by omega) (by omega), (fr_I g' _ _ (by omega)).trans h1.2.2⟩, ⟨k.1.2.1.1.2, Or.inr ⟨xs, k⟩⟩, ⟨GE_fr h6 g' (fun j => by omega), ?_⟩, ?_⟩ g'
    · rcases h7 with z | ⟨ws, z⟩
      · exact Or.inl ((fr_I g' _ _ (by omega)).trans z)
      · exact Or.inr ⟨ws, INr_fr_30 z g' (fun c j z => by omega)⟩
    · rcases h8 with z | z
      · exact Or.inl ((fr_I g' _ _ (by omega)).trans z)
      · exact Or.inr (UNr_fr' z g' (fun c j z => by omega))
theorem s30 (hP : okP P) (hC : isC P 0 ys) (h : CI P lim σ) (hq : ∀ σ', INr 30 σ' P 0 ys → CI P lim σ' → fr (fun c _ => 30 ≤ c ∧ c ≤ 40) σ σ' → Q (.inl none) σ') : Call t 42 [vR 30, vR 5, vI 0] σ Q := by
  obtain ⟨h1, ⟨h4, h5⟩, ⟨h6, h7⟩, h8⟩ := h
  refine c42_30 hP (lim := 0) ⟨by omega, by omega⟩ h1.2.1 h6 (by rcases h7 with k | ⟨zs, k⟩; exact Or.inr k; exact Or.inl k.2.1) (fun e => ?_) (fun e σ' zs k g => ?_)
  · rcases h7 with k | ⟨zs, k⟩
    · rw [k] at e; cases e
    · have ez : zs = ys := isC_eq k.1.1 hC
      rw [ez] at k
      exact hq σ k ⟨h1, ⟨h4, h5⟩, ⟨h6, Or.inr ⟨ys, k⟩⟩, h8⟩ fr_refl
  · have ez : zs = ys := isC_eq k.1.1 hC
    rw [ez] at k
    have g' : fr (fun c _ => 30 ≤ c ∧ c ≤ 40) σ σ' := fr_mono g (fun c j z => by omega)
    refine hq σ' k ⟨⟨RB_fr h1.1 g' (fun j => by omega) (fun j => by omega), RN_fr h1.2.1 g' (fun j => by omega) (fun j => by omega) (fun j => by omega) (fun j => by omega) (by omega), (fr_I g' _ _ (by omega)).trans h1.2.2⟩, ⟨GE_fr h4 g' (fun j => by omega), ?_⟩, ⟨k.1.2.1.1.2, Or.inr ⟨ys, k⟩⟩, ?_⟩ g'
    · rcases h5 with z | ⟨ws, z⟩
      · exact Or.inl ((fr_I g' _ _ (by omega)).trans z)
      · exact Or.inr ⟨ws, INr_fr_19 z g' (fun c j z => by omega)⟩
    · rcases h8 with z | z
      · exact Or.inl ((fr_I g' _ _ (by omega)).trans z)
      · exact Or.inr (UNr_fr' z g' (fun c j z => by omega))
theorem s41 (hP : okP P) (h : CI P lim σ) (hq : ∀ σ', UNr σ' P → CI P lim σ' → fr (fun c _ => 41 ≤ c ∧ c ≤ 43) σ σ' → Q (.inl none) σ') : Call t 109 [vR 41, vR 5] σ Q := by
  obtain ⟨h1, ⟨h4, h5⟩, ⟨h6, h7⟩, h8⟩ := h
  refine c109 hP h1.2.1 (by rcases h8 with k | k; exact Or.inr k; exact Or.inl k.1) (fun e => ?_) (fun e σ' k g => ?_)
  · rcases h8 with k | k
    · rw [k] at e; cases e
    · exact hq σ k ⟨h1, ⟨h4, h5⟩, ⟨h6, h7⟩, Or.inr k⟩ fr_refl
  · have g' : fr (fun c _ => 41 ≤ c ∧ c ≤ 43) σ σ' := fr_mono g (fun c j z => by omega)
    refine hq σ' k ⟨⟨RB_fr h1.1 g' (fun j => by omega) (fun j => by omega), RN_fr h1.2.1 g' (fun j => by omega) (fun j => by omega) (fun j => by omega) (fun j => by omega) (by omega), (fr_I g' _ _ (by omega)).trans h1.2.2⟩, ⟨GE_fr h4 g' (fun j => by omega), ?_⟩, ⟨GE_fr h6 g' (fun j => by omega), ?_⟩, Or.inr k⟩ g'
    · rcases h5 with z | ⟨ws, z⟩
      · exact Or.inl ((fr_I g' _ _ (by omega)).trans z)
      · exact Or.inr ⟨ws, INr_fr_19 z g' (fun c j z => by omega)⟩
    · rcases h7 with z | ⟨ws, z⟩
      · exact Or.inl ((fr_I g' _ _ (by omega)).trans z)
      · exact Or.inr ⟨ws, INr_fr_30 z g' (fun c j z => by omega)⟩
/-! what a question may ask -/
theorem c162 (ht : 1 ≤ t) {f : Int} (hf : inR f) (h1 : (0 ≤ f ∧ f < 4) → Q (.inl none) σ) (h0 : ¬ (0 ≤ f ∧ f < 4) → Q (.inr 3) σ) : Call t 162 [vR 0, vI f] σ Q := by
  rw [x162_0]
  refine ⟨hf, fun a => ?_, fun a => ?_⟩
  · rw [x162_9]; exact ⟨ht, h0 (by omega)⟩
  · rw [x162_4]
    refine ⟨hf, fun b => ?_, fun b => ?_⟩
    · rw [x162_20]; exact h1 (by omega)
    · rw [x162_9]; exact ⟨ht, h0 (by omega)⟩
theorem c164 (ht : 1 ≤ t) (hP : okP P) (h : CI P lim σ) {n : Int} (hn : inR n) (h1 : (0 ≤ n ∧ n < tot P) → Q (.inl none) σ) (h0 : ¬ (0 ≤ n ∧ n < tot P) → Q (.inr 3) σ) : Call t 164 [vR 0, vI n] σ Q := by
  have hr := tot_rng hP.1
  rw [x164_0]
  refine ⟨hn, fun a => ?_, fun a => ?_⟩
  · rw [x164_15]; exact ⟨ht, h0 (by omega)⟩
  · simp only [x164_4, e86 h.1.2.1, x164_12, aft_l, aft_r, optL_s, optL_n, xgo_n, xgo_s, List.cons_append, List.nil_append, List.append_nil, true_and, and_true, Nat.sub_zero, Nat.zero_le, true_implies, false_implies, implies_true, not_true_eq_false, not_false_eq_true, true_or, or_true]
    refine ⟨⟨hn, ⟨by omega, by omega⟩⟩, fun b => ?_, fun b => ?_⟩
    · rw [x164_26]; exact h1 (by omega)
    · rw [x164_15]; exact ⟨ht, h0 (by omega)⟩
theorem c165 (ht : 1 ≤ t) {v : Int} (hv : inR v) (h1 : (0 ≤ v ∧ v < 20) → Q (.inl none) σ) (h0 : ¬ (0 ≤ v ∧ v < 20) → Q (.inr 3) σ) : Call t 165 [vR 0, vI v] σ Q := by
  rw [x165_0]
  refine ⟨hv, fun a => ?_, fun a => ?_⟩
  · rw [x165_10]; exact ⟨ht, h0 (by omega)⟩
  · rw [x165_4]
    refine ⟨hv, fun b => ?_, fun b => ?_⟩
    · rw [x165_21]; exact h1 (by omega)
    · rw [x165_10]; exact ⟨ht, h0 (by omega)⟩
theorem c166 (ht : 1 ≤ t) (hP : okP P) (h : CI P lim σ) {s f : Int} (hs : inR s) (hf : inR f) (h1 : ((0 ≤ s ∧ s < mny P 4 (-1)) ∧ (0 ≤ f ∧ f < 3)) → Q (.inl none) σ) (h0 : ¬ ((0 ≤ s ∧ s < mny P 4 (-1)) ∧ (0 ≤ f ∧ f < 3)) → Q (.inr 3) σ) : Call t 166 [vR 0, vI s, vI f] σ Q := by
  have hm := m8_rng hP
  have bad : ∀ a0 a1 a2, ¬ ((0 ≤ s ∧ s < mny P 4 (-1)) ∧ (0 ≤ f ∧ f < 3)) → wp t 166 24 [a0, a1, a2] [] σ Q := fun a0 a1 a2 hn => by rw [x166_24]; exact ⟨ht, h0 hn⟩
  rw [x166_0]
  refine ⟨hs, fun a => bad _ _ _ (by omega), fun a => ?_⟩
  simp only [x166_4, e87' h hP, x166_12, aft_l, aft_r, optL_s, optL_n, xgo_n, xgo_s, List.cons_append, List.nil_append, List.append_nil, true_and, and_true, Nat.sub_zero, Nat.zero_le, true_implies, false_implies, implies_true, not_true_eq_false, not_false_eq_true, true_or, or_true]
  refine ⟨⟨hs, ⟨by omega, by omega⟩⟩, fun b => ?_, fun b => bad _ _ _ (by omega)⟩
  rw [x166_15]
  refine ⟨hf, fun c => bad _ _ _ (by omega), fun c => ?_⟩
  rw [x166_19]
  refine ⟨hf, fun d => ?_, fun d => bad _ _ _ (by omega)⟩
  rw [x166_35]; exact h1 (by omega)
theorem c167 (ht : 3 ≤ t) (hP : okP P) (h : CI P lim σ) (hI : INr 30 σ P 0 ys) {v w : Int} (hv : inR v) (hw : inR w) (h0 : ¬ fAsk P v w → Q (.inr 3) σ) (h2 : fAsk P v w → ¬ im ys (Lf P ys 0) v w → Q (.inr 4) σ) (h1 : fAsk P v w → im ys (Lf P ys 0) v w → Q (.inl none) σ) : Call t 167 [vR 0, vI v, vI w] σ Q := by
  have hm := m8_rng hP
  rw [x167_0]
  refine ⟨by omega, c165 (by omega) hv (fun a => ?_) (fun a => ?_)⟩
  · have bad : ∀ a0 a1 a2, ¬ fAsk P v w → wp (t - 1) 167 24 [a0, a1, a2] [] σ Q := fun a0 a1 a2 hn => by rw [x167_24]; exact ⟨by omega, h0 hn⟩
    simp only [x167_5, aft_l, aft_r, optL_s, optL_n, xgo_n, xgo_s, List.cons_append, List.nil_append, List.append_nil, true_and, and_true, Nat.sub_zero, Nat.zero_le, true_implies, false_implies, implies_true, not_true_eq_false, not_false_eq_true, true_or, or_true]
    refine ⟨hw, fun b => bad _ _ _ (fun z => by have := z.2; omega), fun b => ?_⟩
    simp only [x167_9, e87' h hP, x167_17, k171, x167_21, aft_l, aft_r, optL_s, optL_n, xgo_n, xgo_s, List.cons_append, List.nil_append, List.append_nil, true_and, and_true, Nat.sub_zero, Nat.zero_le, true_implies, false_implies, implies_true, not_true_eq_false, not_false_eq_true, true_or, or_true]
    refine ⟨⟨hw, ⟨by omega, by omega⟩⟩, fun c => ?_, fun c => bad _ _ _ (fun z => by have := z.2; omega)⟩
    have hf : fAsk P v w := ⟨a, by omega, by omega⟩
    have hSW := INr_SW_30 hI (a := v) a.1 (by omega)
    have hat := SW_at hSW (z := w) (by omega) (by omega)
    simp only [x167_35, e58_30 a.1 (show v < 44 by omega), x167_43, k173, x167_47, eq_true (b2i_in _), b2i_0, aft_l, aft_r, optL_s, optL_n, xgo_n, xgo_s, List.cons_append, List.nil_append, List.append_nil, true_and, and_true, Nat.sub_zero, Nat.zero_le, true_implies, false_implies, implies_true, not_true_eq_false, not_false_eq_true, true_or, or_true]
    refine ⟨fun d => ?_, fun d => ?_⟩
    · rw [x167_50]
      exact ⟨by omega, h2 hf (fun z => by rw [hat.mpr z] at d; cases d)⟩
    · rw [x167_61]
      refine h1 hf (hat.mp ?_)
      cases z : (gL σ 38 v).getLsbD (sh6 w) with
      | true => rfl
      | false => exact absurd z d
  · simp only [xgo_n, aft_l, aft_r, optL_s, optL_n, xgo_n, xgo_s, List.cons_append, List.nil_append, List.append_nil, true_and, and_true, Nat.sub_zero, Nat.zero_le, true_implies, false_implies, implies_true, not_true_eq_false, not_false_eq_true, true_or, or_true]
    exact h0 (fun z => a z.1)
end CT

