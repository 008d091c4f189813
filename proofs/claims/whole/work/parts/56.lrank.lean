/-! the law's ranks -/
section LR
variable {t : Nat} {σ : St} {Q : Res → St → Prop} {P : Pg} {xs : List Int} {lim : Int}
theorem cll (hq : ∀ σ', (∀ c u, ¬ Gc 62 σ' c u) → fr (fun c _ => c = 62) σ σ' → Q (.inl none) σ') : ∀ (d : Nat) (j : Int) (σ1 : St), 0 ≤ j → j + d = 456 → fr (fun c _ => c = 62) σ σ1 → (∀ k, 0 ≤ k → k < j → gL σ1 62 k = BitVec.ofNat 64 0) → wp t 216 2 [some (vR 53), some (vI j)] [] σ1 Q
  | 0, j, σ1, j0, hd, hf, h => by
    rw [x216_2]
    refine ⟨⟨by omega, by omega⟩, fun h => by omega, fun _ => ?_⟩
    rw [x216_24]
    refine hq σ1 (fun c u k => ?_) hf
    have k3 := k.2.2
    unfold bt at k3
    rw [h _ (by have := k.1; have := k.2.1; omega) (by have := k.1; have := k.2.1; omega)] at k3
    simp at k3
  | d + 1, j, σ1, j0, hd, hf, h => by
    rw [x216_2]
    refine ⟨⟨by omega, by omega⟩, fun _ => ?_, fun h => by omega⟩
    rw [x216_11]
    refine ⟨⟨j0, by omega⟩, cll hq d (j + 1) _ (by omega) (by omega) (fr_sL hf rfl) (fun k k0 k1 => ?_)⟩
    rw [gL_sL]
    by_cases q : k = j
    · rw [if_pos ⟨rfl, q⟩]
    · rw [if_neg (fun g => q g.2)]; exact h k k0 (by omega)
/-- clears -/
theorem c216 (hq : ∀ σ', (∀ c u, ¬ Gc 62 σ' c u) → fr (fun c _ => c = 62) σ σ' → Q (.inl none) σ') : Call t 216 [vR 53] σ Q := by
  rw [x216_0]
  exact cll hq 456 0 σ (by omega) (by omega) fr_refl (fun k k0 k1 => by omega)
/-- a fact's round and statement are noted -/
def NW (xs : List Int) (r s : Int) (Δ : Fa) (σ σ' : St) : Prop := ∀ a b, 0 ≤ a → a < 44 → 0 ≤ b → b < 44 →
  (0 < gI σ 64 (44 * a + b) → gI σ' 64 (44 * a + b) = gI σ 64 (44 * a + b) ∧ gI σ' 65 (44 * a + b) = gI σ 65 (44 * a + b)) ∧
  (¬ 0 < gI σ 64 (44 * a + b) → (im xs Δ a b → gI σ' 64 (44 * a + b) = r ∧ gI σ' 65 (44 * a + b) = s) ∧ (¬ im xs Δ a b → gI σ' 64 (44 * a + b) = gI σ 64 (44 * a + b) ∧ gI σ' 65 (44 * a + b) = gI σ 65 (44 * a + b)))
def nM : Nat → Int → Prop := fun c _ => c = 64 ∨ c = 65
def upto (F : Fa) (c j : Int) : Fa := fun x u => F x u ∧ (x < c ∨ (x = c ∧ u < j))
theorem upto_n {F : Fa} {c j : Int} (h : ¬ F c j) : upto F c (j + 1) = upto F c j := iff_fun (fun x u => by
  unfold upto
  constructor
  · rintro ⟨k, q | ⟨e, q⟩⟩
    · exact ⟨k, Or.inl q⟩
    · by_cases z : u = j
      · rw [e, z] at k; exact absurd k h
      · exact ⟨k, Or.inr ⟨e, by omega⟩⟩
  · rintro ⟨k, q⟩; exact ⟨k, by omega⟩)
theorem upto_y {F : Fa} {c j : Int} (h : F c j) (x u : Int) : upto F c (j + 1) x u ↔ (upto F c j x u ∨ (x = c ∧ u = j)) := by
  unfold upto
  constructor
  · rintro ⟨k, q⟩
    by_cases z : x = c ∧ u = j
    · exact Or.inr z
    · exact Or.inl ⟨k, by omega⟩
  · rintro (⟨k, q⟩ | ⟨e1, e2⟩)
    · exact ⟨k, by omega⟩
    · rw [e1, e2]; exact ⟨h, Or.inr ⟨rfl, by omega⟩⟩
theorem NW_skip {r s : Int} {F : Fa} {c j : Int} {σ σ1 : St} (hr : 0 < r) (h : NW xs r s (upto F c j) σ σ1) (hf : F c j) (hp : 0 < gI σ1 64 (44 * cdf xs c + cdf xs j)) (hc : 0 ≤ cdf xs c ∧ cdf xs c < 44) (hj : 0 ≤ cdf xs j ∧ cdf xs j < 44) : NW xs r s (upto F c (j + 1)) σ σ1 := by
  intro a b a0 a1 b0 b1
  obtain ⟨h1, h2⟩ := h a b a0 a1 b0 b1
  have e : im xs (upto F c (j + 1)) a b ↔ (im xs (upto F c j) a b ∨ (a = cdf xs c ∧ b = cdf xs j)) := by
    constructor
    · rintro ⟨x, u, k, e1, e2⟩
      rcases (upto_y hf x u).mp k with k | ⟨k1, k2⟩
      · exact Or.inl ⟨x, u, k, e1, e2⟩
      · rw [k1] at e1; rw [k2] at e2; exact Or.inr ⟨e1.symm, e2.symm⟩
    · rintro (⟨x, u, k, e1, e2⟩ | ⟨e1, e2⟩)
      · exact ⟨x, u, (upto_y hf x u).mpr (Or.inl k), e1, e2⟩
      · exact ⟨c, j, (upto_y hf c j).mpr (Or.inr ⟨rfl, rfl⟩), e1.symm, e2.symm⟩
  refine ⟨h1, fun hn => ⟨fun k => ?_, fun k => (h2 hn).2 (fun q => k (e.mpr (Or.inl q)))⟩⟩
  rcases e.mp k with k | ⟨k1, k2⟩
  · exact (h2 hn).1 k
  · by_cases q : im xs (upto F c j) a b
    · exact (h2 hn).1 q
    · have := ((h2 hn).2 q).1
      rw [← k1, ← k2] at hp; omega
theorem NW_put {r s : Int} {F : Fa} {c j : Int} {σ σ1 : St} (hr : 0 < r) (h : NW xs r s (upto F c j) σ σ1) (hf : F c j) (hp : ¬ 0 < gI σ1 64 (44 * cdf xs c + cdf xs j)) (hc : 0 ≤ cdf xs c ∧ cdf xs c < 44) (hj : 0 ≤ cdf xs j ∧ cdf xs j < 44) : NW xs r s (upto F c (j + 1)) σ (sI (sI σ1 64 (44 * cdf xs c + cdf xs j) r) 65 (44 * cdf xs c + cdf xs j) s) := by
  intro a b a0 a1 b0 b1
  obtain ⟨h1, h2⟩ := h a b a0 a1 b0 b1
  have e : im xs (upto F c (j + 1)) a b ↔ (im xs (upto F c j) a b ∨ (a = cdf xs c ∧ b = cdf xs j)) := by
    constructor
    · rintro ⟨x, u, k, e1, e2⟩
      rcases (upto_y hf x u).mp k with k | ⟨k1, k2⟩
      · exact Or.inl ⟨x, u, k, e1, e2⟩
      · rw [k1] at e1; rw [k2] at e2; exact Or.inr ⟨e1.symm, e2.symm⟩
    · rintro (⟨x, u, k, e1, e2⟩ | ⟨e1, e2⟩)
      · exact ⟨x, u, (upto_y hf x u).mpr (Or.inl k), e1, e2⟩
      · exact ⟨c, j, (upto_y hf c j).mpr (Or.inr ⟨rfl, rfl⟩), e1.symm, e2.symm⟩
  rw [gI_rne (show (64 : Nat) ≠ 65 by decide), gI_sI, gI_sI, gI_rne (show (65 : Nat) ≠ 64 by decide)]
  by_cases q : 44 * a + b = 44 * cdf xs c + cdf xs j
  · have ea : a = cdf xs c := by omega
    have eb : b = cdf xs j := by omega
    rw [if_pos ⟨rfl, q⟩, if_pos ⟨rfl, q⟩]
    refine ⟨fun k => ?_, fun hn => ⟨fun _ => ⟨rfl, rfl⟩, fun k => absurd (e.mpr (Or.inr ⟨ea, eb⟩)) k⟩⟩
    have := (h1 k).1
    rw [q] at this k; omega
  · rw [if_neg (fun k => q k.2), if_neg (fun k => q k.2)]
    refine ⟨h1, fun hn => ⟨fun k => ?_, fun k => (h2 hn).2 (fun q => k (e.mpr (Or.inl q)))⟩⟩
    rcases e.mp k with k | ⟨k1, k2⟩
    · exact (h2 hn).1 k
    · exact absurd (by rw [k1, k2]) q
theorem nt2 (hx : xok xs) (hX : LX σ xs) (hA : okF xs (Gc 62 σ)) {r s : Int} (hr : 0 < r) (hir : ∀ k, 0 ≤ k → k < 1936 → inR (gI σ 64 k)) (hri : inR r) {c : Int} (c0 : 0 ≤ c) (c1 : c < 152) (hq : ∀ σ' a5, NW xs r s (upto (Gc 62 σ) (c + 1) 0) σ σ' → (∀ k, 0 ≤ k → k < 1936 → inR (gI σ' 64 k)) → fr nM σ σ' → wp t 217 88 [some (vR 53), some (vI s), some (vI r), some (vI c), some (vI 152), a5] [] σ' Q) :
    ∀ (d : Nat) (j : Int) (σ1 : St) (a5 : Option AV), 0 ≤ j → j + d = 152 → NW xs r s (upto (Gc 62 σ) c j) σ σ1 → (∀ k, 0 ≤ k → k < 1936 → inR (gI σ1 64 k)) → fr nM σ σ1 → wp t 217 12 [some (vR 53), some (vI s), some (vI r), some (vI c), some (vI j), a5] [] σ1 Q
  | 0, j, σ1, a5, j0, hd, h, hi, hf => by
    have e : j = 152 := by omega
    subst e
    rw [x217_12]
    refine ⟨⟨by omega, by omega⟩, fun h => by omega, fun _ => hq σ1 a5 ?_ hi hf⟩
    have e : upto (Gc 62 σ) (c + 1) 0 = upto (Gc 62 σ) c 152 := iff_fun (fun x u => by
      unfold upto
      constructor
      · rintro ⟨k, q⟩
        have := vld_152 hx (hA x u k).2
        exact ⟨k, by omega⟩
      · rintro ⟨k, q⟩
        have := vld_152 hx (hA x u k).2
        exact ⟨k, by omega⟩)
    rw [e]; exact h
  | d + 1, j, σ1, a5, j0, hd, h, hi, hf => by
    have eG : Gc 62 σ1 = Gc 62 σ := Gc_fr hf (fun j => by unfold nM; omega)
    have hiff := isin_iff (r := 62) (σ := σ1) (c := c) (u := j) ⟨c0, c1⟩ ⟨j0, by omega⟩
    rw [eG] at hiff
    have hX1 : LX σ1 xs := LX_fr hX hf (by unfold nM; omega) (fun j => by unfold nM; omega) (fun j => by unfold nM; omega)
    rw [x217_12]
    refine ⟨⟨by omega, by omega⟩, fun _ => ?_, fun h => by omega⟩
    simp only [x217_20, e210 (r := 62) ⟨rfl, rfl⟩ (show 0 ≤ c ∧ c < 152 from ⟨c0, c1⟩) (show 0 ≤ j ∧ j < 192 by omega), x217_30, aft_l, aft_r, optL_s, optL_n, xgo_n, xgo_s, List.cons_append, List.nil_append, List.append_nil, true_and, and_true, Nat.sub_zero, Nat.zero_le, true_implies, false_implies, implies_true, not_true_eq_false, not_false_eq_true, true_or, or_true]
    refine ⟨b2i_in _, fun a => ?_, fun a => ?_⟩
    · rw [b2i_0] at a
      have hn : ¬ Gc 62 σ c j := fun k => by rw [hiff.mpr k] at a; cases a
      rw [x217_33, x217_82]
      exact nt2 hx hX hA hr hir hri c0 c1 hq d (j + 1) σ1 _ (by omega) (by omega) (by rw [upto_n hn]; exact h) hi hf
    · have hy := hiff.mp (b2i_ne a)
      obtain ⟨v1, v2⟩ := hA c j hy
      have r1 := cdf_rng hx v1
      have r2 := cdf_rng hx v2
      simp only [x217_36, e212 hX1 v1, x217_43, e212 hX1 v2, x217_50, aft_l, aft_r, optL_s, optL_n, xgo_n, xgo_s, List.cons_append, List.nil_append, List.append_nil, true_and, and_true, Nat.sub_zero, Nat.zero_le, true_implies, false_implies, implies_true, not_true_eq_false, not_false_eq_true, true_or, or_true]
      refine ⟨⟨by omega, by omega⟩, hi _ (by omega) (by omega), fun b => ?_, fun b => ?_⟩
      · rw [x217_63, x217_82]
        exact nt2 hx hX hA hr hir hri c0 c1 hq d (j + 1) σ1 _ (by omega) (by omega) (NW_skip hr h hy b r1 r2) hi hf
      · rw [x217_66, x217_82]
        refine ⟨⟨by omega, by omega⟩, ⟨by omega, by omega⟩, nt2 hx hX hA hr hir hri c0 c1 hq d (j + 1) _ _ (by omega) (by omega) (NW_put hr h hy b r1 r2) (fun k k0 k1 => ?_) (fr_sI (fr_sI hf (by unfold nM; omega)) (by unfold nM; omega))⟩
        rw [gI_rne (by decide), gI_sI]
        split
        · exact hri
        · exact hi k k0 k1
theorem nt1 (hx : xok xs) (hX : LX σ xs) (hA : okF xs (Gc 62 σ)) {r s : Int} (hr : 0 < r) (hir : ∀ k, 0 ≤ k → k < 1936 → inR (gI σ 64 k)) (hri : inR r) (hq : ∀ σ', NW xs r s (Gc 62 σ) σ σ' → (∀ k, 0 ≤ k → k < 1936 → inR (gI σ' 64 k)) → fr nM σ σ' → Q (.inl none) σ') :
    ∀ (d : Nat) (c : Int) (σ1 : St) (a4 a5 : Option AV), 0 ≤ c → c + d = 152 → NW xs r s (upto (Gc 62 σ) c 0) σ σ1 → (∀ k, 0 ≤ k → k < 1936 → inR (gI σ1 64 k)) → fr nM σ σ1 → wp t 217 2 [some (vR 53), some (vI s), some (vI r), some (vI c), a4, a5] [] σ1 Q
  | 0, c, σ1, a4, a5, c0, hd, h, hi, hf => by
    have e : c = 152 := by omega
    subst e
    rw [x217_2]
    refine ⟨⟨by omega, by omega⟩, fun h => by omega, fun _ => ?_⟩
    rw [x217_94]
    have e : upto (Gc 62 σ) 152 0 = Gc 62 σ := iff_fun (fun x u => by
      unfold upto
      exact ⟨fun k => k.1, fun k => ⟨k, Or.inl (vld_152 hx (hA x u k).1).2⟩⟩)
    rw [e] at h
    exact hq σ1 h hi hf
  | d + 1, c, σ1, a4, a5, c0, hd, h, hi, hf => by
    rw [x217_2]
    refine ⟨⟨by omega, by omega⟩, fun _ => ?_, fun h => by omega⟩
    rw [x217_9]
    exact nt2 hx hX hA hr hir hri c0 (by omega) (fun σ' a5 g1 g2 g3 => by
      rw [x217_88]
      exact nt1 hx hX hA hr hir hri hq d (c + 1) σ' _ _ (by omega) (by omega) g1 g2 g3) 152 0 σ1 _ (by omega) (by omega) h hi hf
/-- notes -/
theorem c217 (hx : xok xs) (hX : LX σ xs) (hA : okF xs (Gc 62 σ)) {r s : Int} (hr : 0 < r) (hir : ∀ k, 0 ≤ k → k < 1936 → inR (gI σ 64 k)) (hri : inR r) (hq : ∀ σ', NW xs r s (Gc 62 σ) σ σ' → (∀ k, 0 ≤ k → k < 1936 → inR (gI σ' 64 k)) → fr nM σ σ' → Q (.inl none) σ') : Call t 217 [vR 53, vI s, vI r] σ Q := by
  rw [x217_0]
  refine nt1 hx hX hA hr hir hri hq 152 0 σ _ _ (by omega) (by omega) ?_ hir fr_refl
  intro a b a0 a1 b0 b1
  refine ⟨fun _ => ⟨rfl, rfl⟩, fun _ => ⟨fun ⟨x, u, k, _⟩ => ?_, fun _ => ⟨rfl, rfl⟩⟩⟩
  have := k.1.1
  have := k.1.2.1
  have := k.2
  omega
end LR
