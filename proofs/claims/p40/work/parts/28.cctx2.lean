/-! the class's contexts, sorted; their questions -/
def CXr (b : Nat) (σ : St) (P : Pg) (lim : Int) (xs : List Int) : Prop := isC P lim xs ∧ (CA b σ xs ∧ ((∀ f, 0 ≤ f → f ≤ 4 → gI σ (b + 2) f = cbl xs (f * 2353)) ∧ gI σ b 3 = lim))
section CC2
variable {t : Nat} {σ : St} {Q : Res → St → Prop} {P : Pg}
theorem ge_20 {σ : St} {p x : Int} (h : GE 20 σ) (hx : 0 ≤ x ∧ x < 9412) : GE 20 (sI σ 21 p x) := fun i i0 i1 => by
  show 0 ≤ gI (sI σ 21 p x) 21 i ∧ gI (sI σ 21 p x) 21 i < 9412
  rw [gI_sI]
  by_cases c : i = p
  · rw [if_pos ⟨rfl, c⟩]; exact hx
  · rw [if_neg (fun g => c g.2)]; exact h i i0 i1
theorem si_20 {xs zs : List Int} {k x : Int} (hxs : xs.length ≤ 31) (hk : (zs.length : Int) = k) (hkn : k < xs.length) (hz : zs.Pairwise (· < ·)) (hxz : x ∉ zs) (hxr : 0 ≤ x ∧ x < 9412) (hzr : ∀ z ∈ zs, 0 ≤ z ∧ z < 9412)
    (hq : ∀ σ' (p a3 : Int), 0 ≤ p → p ≤ zs.length → (insA p.toNat x zs).Pairwise (· < ·) → (∀ i : Int, 0 ≤ i → i ≤ k → gI σ' 21 i = la (insA p.toNat x zs) i) → (∀ i : Int, k < i → i < xs.length → gI σ' 21 i = la xs i) → GE 20 σ' → fr (fun c _ => c = 21) σ σ' → wp t 20 72 [some (vR 20), some (vI k), some (vI x), some (vI a3)] [] σ' Q) :
    ∀ (p : Nat) (σ1 : St), (p : Int) ≤ k → fr (fun c _ => c = 21) σ σ1 → (∀ i : Int, 0 ≤ i → i < p → gI σ1 21 i = la zs i) → (∀ i : Int, (p : Int) < i → i ≤ k → gI σ1 21 i = la zs (i - 1)) → (∀ i : Int, k < i → i < xs.length → gI σ1 21 i = la xs i) → (∀ i : Int, (p : Int) ≤ i → i < k → x < la zs i) → GE 20 σ1 →
    wp t 20 21 [some (vR 20), some (vI k), some (vI x), some (vI p)] [] σ1 Q := by
  have done : ∀ (p : Nat) (σ1 : St), (p : Int) ≤ k → fr (fun c _ => c = 21) σ σ1 → (∀ i : Int, 0 ≤ i → i < p → gI σ1 21 i = la zs i) → (∀ i : Int, (p : Int) < i → i ≤ k → gI σ1 21 i = la zs (i - 1)) → (∀ i : Int, k < i → i < xs.length → gI σ1 21 i = la xs i) → (∀ i : Int, (p : Int) ≤ i → i < k → x < la zs i) → (∀ i : Int, 0 ≤ i → i < (p : Int) → la zs i < x) → GE 20 σ1 →
      wp t 20 63 [some (vR 20), some (vI k), some (vI x), some (vI p)] [] σ1 Q := by
    intro p σ1 hp hf h1 h2 h3 h4 h5 hG
    have w : ∀ v, wrI σ1 21 (p : Int) v = sI σ1 21 (p : Int) v := fun v => wrI_in (n := 31) rfl (by omega) (by omega)
    simp only [x20_63_20, k98 (show lc 21 = 101 from rfl), w, aft_l, aft_r, optL_s, optL_n, xgo_n, xgo_s, List.cons_append, List.nil_append, List.append_nil, true_and, and_true, Nat.sub_zero, Nat.zero_le, true_implies, false_implies, implies_true, not_true_eq_false, not_false_eq_true, true_or, or_true]
    refine ⟨⟨by omega, by omega⟩, hq _ p p (by omega) (by omega) (insA_asc hz (by omega) (fun i i0 i1 => h5 i i0 (by omega)) (fun i i0 i1 => h4 i (by omega) (by omega))) (fun i i0 i1 => ?_) (fun i i0 i1 => ?_) (ge_20 hG hxr) (fr_sI hf rfl)⟩
    · rw [gI_sI, insA_la (by omega) i0, show ((p : Int).toNat) = p by omega]
      by_cases c : i = p
      · rw [if_pos ⟨rfl, c⟩, if_neg (by omega), if_pos c]
      · rw [if_neg (fun g => c g.2)]
        by_cases d : i < p
        · rw [if_pos d]; exact h1 i i0 d
        · rw [if_neg d, if_neg c]; exact h2 i (by omega) i1
    · rw [gI_sI, if_neg (by omega)]; exact h3 i i0 i1
  intro p
  have hx : inR x := ⟨by omega, by omega⟩
  induction p with
  | zero =>
    intro σ1 hp hf h1 h2 h3 h4 hG
    rw [x20_21_20]
    exact ⟨⟨by omega, by omega⟩, fun h => by omega, fun _ => done 0 σ1 hp hf h1 h2 h3 h4 (fun i i0 i1 => by omega) hG⟩
  | succ p ih =>
    intro σ1 hp hf h1 h2 h3 h4 hG
    have e1 : (((p + 1 : Nat) : Int) - 1) = (p : Int) := by omega
    have hr : rdI σ1 21 (((p + 1 : Nat) : Int) - 1) = la zs p := by rw [rdI_in (n := 31) rfl (by omega) (by omega), e1]; exact h1 p (by omega) (by omega)
    have hzp := hzr _ (la_mem (xs := zs) (i := p) (by omega) (by omega))
    have w : ∀ v, wrI σ1 21 ((p + 1 : Nat) : Int) v = sI σ1 21 ((p + 1 : Nat) : Int) v := fun v => wrI_in (n := 31) rfl (by omega) (by omega)
    rw [x20_21_20]
    refine ⟨⟨by omega, by omega⟩, fun h => ?_, fun g => by omega⟩
    simp only [x20_25_20, x20_35_20, x20_39_20, x20_54_20, x20_57_20, k96 (show lc 21 = 101 from rfl), k98 (show lc 21 = 101 from rfl), hr, w, aft_l, aft_r, optL_s, optL_n, xgo_n, xgo_s, List.cons_append, List.nil_append, List.append_nil, true_and, and_true, Nat.sub_zero, Nat.zero_le, true_implies, false_implies, implies_true, not_true_eq_false, not_false_eq_true, true_or, or_true]
    refine ⟨⟨by omega, by omega⟩, ⟨⟨by omega, by omega⟩, hx⟩, fun hlt => ⟨⟨by omega, by omega⟩, ⟨by omega, by omega⟩, ?_⟩, fun hge => ?_⟩
    · rw [show ((p + 1 : Nat) : Int) + -1 = (p : Int) by omega]
      refine ih _ (by omega) (fr_sI hf rfl) (fun i i0 i1 => ?_) (fun i i0 i1 => ?_) (fun i i0 i1 => ?_) (fun i i0 i1 => ?_) (ge_20 hG hzp)
      · rw [gI_sI, if_neg (by omega)]; exact h1 i i0 (by omega)
      · rw [gI_sI]
        by_cases c : i = ((p + 1 : Nat) : Int)
        · rw [if_pos ⟨rfl, c⟩, c, e1]
        · rw [if_neg (fun g => c g.2)]; exact h2 i (by omega) i1
      · rw [gI_sI, if_neg (by omega)]; exact h3 i i0 i1
      · by_cases c : i = p
        · rw [c]; exact hlt
        · exact h4 i (by omega) i1
    · refine done (p + 1) σ1 hp hf h1 h2 h3 h4 (fun i i0 i1 => ?_) hG
      have hne : la zs p ≠ x := fun e => hxz (e ▸ la_mem (by omega) (by omega))
      by_cases c : i = p
      · rw [c]; omega
      · have := asc_la hz i0 (show i < p by omega) (by omega); omega
theorem so_20 {xs : List Int} (hxs : xs.length ≤ 31) (hnd : xs.Nodup) (hxr : ∀ z ∈ xs, 0 ≤ z ∧ z < 9412)
    (hq : ∀ σ' zs, CA 20 σ' zs → zs.Pairwise (· < ·) → (∀ e, e ∈ zs ↔ e ∈ xs) → fr (fun c _ => c = 21) σ σ' → Q (.inl none) σ') :
    ∀ (d : Nat) (k : Int) (σ1 : St) (zs : List Int) (a2 a3 : Option AV), 1 ≤ k → k + d = xs.length → (zs.length : Int) = k → zs.Pairwise (· < ·) → (∀ e, e ∈ zs ↔ ∃ i, 0 ≤ i ∧ i < k ∧ la xs i = e) → gI σ1 20 2 = xs.length → fr (fun c _ => c = 21) σ σ1 → (∀ i : Int, 0 ≤ i → i < k → gI σ1 21 i = la zs i) → (∀ i : Int, k ≤ i → i < xs.length → gI σ1 21 i = la xs i) → GE 20 σ1 →
    wp t 20 2 [some (vR 20), some (vI k), a2, a3] [] σ1 Q
  | 0, k, σ1, zs, a2, a3, k1, hd, hzl, hz, hm, hs, hf, h1, h2, hG => by
    rw [x20_2_20, hs]
    refine ⟨⟨⟨by omega, by omega⟩, ⟨by omega, by omega⟩⟩, fun h => by omega, fun _ => ?_⟩
    rw [x20_78_20]
    refine hq σ1 zs ⟨⟨fun i i0 i1 => h1 i i0 (by omega), hG⟩, by omega, by omega⟩ hz (fun e => ?_) hf
    rw [hm]
    exact ⟨fun ⟨i, i0, i1, h⟩ => h ▸ la_mem i0 (by omega), fun h => by
      obtain ⟨i, i0, i1, h⟩ := mem_la h
      exact ⟨i, i0, by omega, h⟩⟩
  | d + 1, k, σ1, zs, a2, a3, k1, hd, hzl, hz, hm, hs, hf, h1, h2, hG => by
    have hr : rdI σ1 21 k = la xs k := by rw [rdI_in (n := 31) rfl (by omega) (by omega)]; exact h2 k (by omega) (by omega)
    rw [x20_2_20, hs]
    refine ⟨⟨⟨by omega, by omega⟩, ⟨by omega, by omega⟩⟩, fun h => ?_, fun g => by omega⟩
    simp only [x20_10_20, x20_18_20, k96 (show lc 21 = 101 from rfl), hr, aft_l, aft_r, optL_s, optL_n, xgo_n, xgo_s, List.cons_append, List.nil_append, List.append_nil, true_and, and_true, Nat.sub_zero, Nat.zero_le, true_implies, false_implies, implies_true, not_true_eq_false, not_false_eq_true, true_or, or_true]
    refine ⟨⟨by omega, by omega⟩, ?_⟩
    have hzk : ∀ z ∈ zs, z ∈ xs := fun z hz' => by
      obtain ⟨i, i0, i1, e⟩ := (hm z).mp hz'
      exact e ▸ la_mem i0 (by omega)
    have hkz : la xs k ∉ zs := fun g => by
      obtain ⟨i, i0, i1, e⟩ := (hm _).mp g
      have := nd_la hnd i0 (by omega) (show 0 ≤ k by omega) (by omega) e
      omega
    have hkN : ((k.toNat : Nat) : Int) = k := by omega
    have key := si_20 (t := t) (Q := Q) (σ := σ1) (xs := xs) (zs := zs) (k := k) (x := la xs k) hxs hzl (by omega) hz hkz (hxr _ (la_mem (by omega) (by omega))) (fun z hz' => hxr z (hzk z hz'))
      (fun σ' p a3 p0 p1 g1 g2 g3 g5 g4 => by
        rw [x20_72_20]
        refine so_20 hxs hnd hxr hq d (k + 1) σ' (insA p.toNat (la xs k) zs) _ _ (by omega) (by omega) (by rw [insA_len (by omega)]; omega) g1 (fun e => ?_) ((fr_I g4 _ _ (by omega)).trans hs) (fr_trans hf g4) (fun i i0 i1 => g2 i i0 (by omega)) (fun i i0 i1 => g3 i (by omega) i1) g5
        rw [insA_mem, hm]
        constructor
        · rintro (rfl | ⟨i, i0, i1, h⟩)
          · exact ⟨k, by omega, by omega, rfl⟩
          · exact ⟨i, i0, by omega, h⟩
        · rintro ⟨i, i0, i1, h⟩
          by_cases c : i = k
          · left; rw [← h, c]
          · exact Or.inr ⟨i, i0, by omega, h⟩) k.toNat σ1 (by omega) fr_refl (fun i i0 i1 => h1 i i0 (by omega)) (fun i i0 i1 => by omega) (fun i i0 i1 => h2 i (by omega) i1) (fun i i0 i1 => by omega) hG
    rw [hkN] at key
    exact key
/-- Contexts.sort -/
theorem c20_20 {xs : List Int} (hC : CA 20 σ xs) (h1 : 1 ≤ xs.length) (hnd : xs.Nodup) (hxr : ∀ z ∈ xs, 0 ≤ z ∧ z < 9412)
    (hq : ∀ σ' zs, CA 20 σ' zs → zs.Pairwise (· < ·) → (∀ e, e ∈ zs ↔ e ∈ xs) → fr (fun c _ => c = 21) σ σ' → Q (.inl none) σ') : Call t 20 [vR 20] σ Q := by
  rw [x20_0_20]
  refine so_20 hC.2.2 hnd hxr hq (xs.length - 1) 1 σ [la xs 0] _ _ (by omega) (by omega) rfl (List.pairwise_singleton _ _) (fun e => ?_) hC.2.1 fr_refl (fun i i0 i1 => ?_) (fun i i0 i1 => hC.1.1 i (by omega) i1) hC.1.2
  · rw [List.mem_singleton]
    constructor
    · rintro rfl; exact ⟨0, by omega, by omega, rfl⟩
    · rintro ⟨i, i0, i1, h⟩; rw [← h, show i = 0 by omega]
  · rw [show i = 0 by omega]; exact hC.1.1 0 (by omega) (by omega)
theorem cb_20 {xs : List Int} {w : Int} (hC : CA 20 σ xs) (hx : ∀ x ∈ xs, inR x) (hw : inR w) (hq : Q (.inl (some (vI (cbl xs w)))) σ) :
    ∀ (d n : Nat), n + d = xs.length → wp t 21 4 [some (vR 20), some (vI w), some (vI (cn (fun i => decide (la xs i < w)) n)), some (vI n)] [] σ Q
  | 0, n, hd => by
    have hl := hC.2.2
    rw [x21_4_20, hC.2.1]
    refine ⟨⟨⟨by omega, by omega⟩, ⟨by omega, by omega⟩⟩, fun h => by omega, fun _ => ?_⟩
    rw [x21_38_20]
    have e : n = xs.length := by omega
    rw [e]; exact hq
  | d + 1, n, hd => by
    have hl := hC.2.2
    have hr : rdI σ 21 n = la xs n := by rw [rdI_in (n := 31) rfl (by omega) (by omega)]; exact hC.1.1 n (by omega) (by omega)
    have ih := cb_20 hC hx hw hq d (n + 1) (by omega)
    rw [x21_4_20, hC.2.1]
    refine ⟨⟨⟨by omega, by omega⟩, ⟨by omega, by omega⟩⟩, fun h => ?_, fun g => by omega⟩
    rw [cn_succ] at ih
    simp only [x21_0_20, x21_12_20, x21_21_20, x21_25_20, x21_29_20, x21_30_20, x21_38_20, k96 (show lc 21 = 101 from rfl), hr, aft_l, aft_r, optL_s, optL_n, xgo_n, xgo_s, List.cons_append, List.nil_append, List.append_nil, true_and, and_true, Nat.sub_zero, Nat.zero_le, true_implies, false_implies, implies_true, not_true_eq_false, not_false_eq_true, true_or, or_true]
    refine ⟨⟨by omega, by omega⟩, ⟨hx _ (la_mem (by omega) (by omega)), hw⟩, fun c => ?_, fun c => ?_⟩
    · rw [if_pos (by rw [decide_eq_true_eq]; exact c)] at ih; exact ih
    · rw [if_neg (by rw [decide_eq_true_eq]; exact c)] at ih; exact ih
/-- Contexts.countBelow -/
theorem c21_20 {xs : List Int} {w : Int} (hC : CA 20 σ xs) (hx : ∀ x ∈ xs, inR x) (hw : inR w) (hq : Q (.inl (some (vI (cbl xs w)))) σ) : Call t 21 [vR 20, vI w] σ Q := by
  rw [x21_0_20]
  exact cb_20 hC hx hw hq xs.length 0 (by omega)
theorem ar2_20 (hP : okP P) {lim : Int} {xs : List Int} (hX : isC P lim xs) (hq : ∀ σ' xs, CXr 20 σ' P lim xs → fr (fun c j => c = 21 ∨ c = 22 ∨ (c = 20 ∧ (j = 2 ∨ j = 3))) σ σ' → Q (.inl none) σ') :
    ∀ (d : Nat) (f : Int) (σ1 : St) (a1 a2 : Option AV), 0 ≤ f → f + d = 5 → CA 20 σ1 xs → gI σ1 20 3 = lim → fr (fun c j => c = 21 ∨ c = 22 ∨ (c = 20 ∧ (j = 2 ∨ j = 3))) σ σ1 → (∀ g, 0 ≤ g → g < f → gI σ1 22 g = cbl xs (g * 2353)) → wp t 14 56 [some (vR 20), a1, a2, some (vI f)] [] σ1 Q
  | 0, f, σ1, a1, a2, f0, hd, hC, hl, hf, hg => by
    rw [x14_56_20]
    refine ⟨⟨by omega, by omega⟩, fun _ => ?_, fun h => by omega⟩
    rw [x14_84_20]
    exact hq σ1 xs ⟨hX, hC, fun g g0 g1 => hg g g0 (by omega), hl⟩ hf
  | d + 1, f, σ1, a1, a2, f0, hd, hC, hl, hf, hg => by
    have hin : ∀ x ∈ xs, inR x := fun x hx => by
      have := RS_rng hP ((hX.2 x).mp hx); exact ⟨by omega, by omega⟩
    have w : ∀ v, wrI σ1 22 f v = sI σ1 22 f v := fun v => wrI_in (n := 5) rfl (by omega) (by omega)
    rw [x14_56_20]
    refine ⟨⟨by omega, by omega⟩, fun h => by omega, fun _ => ?_⟩
    rw [x14_61_20]
    refine c21_20 hC hin ⟨by omega, by omega⟩ ?_
    simp only [x14_75_20, x14_78_20, k98 (show lc 22 = 101 from rfl), w, aft_l, aft_r, optL_s, optL_n, xgo_n, xgo_s, List.cons_append, List.nil_append, List.append_nil, true_and, and_true, Nat.sub_zero, Nat.zero_le, true_implies, false_implies, implies_true, not_true_eq_false, not_false_eq_true, true_or, or_true]
    refine ⟨⟨by omega, by omega⟩, ar2_20 hP hX hq d (f + 1) _ _ _ (by omega) (by omega) (CA_fr_20 (M := fun c _ => c = 22) hC (fr_sI fr_refl rfl) (fun j => by omega) (by omega)) ?_ (fr_sI hf (by omega)) (fun g g0 g1 => ?_)⟩
    · rw [gI_sI, if_neg (by omega)]; exact hl
    · rw [gI_sI]
      by_cases c : g = f
      · rw [if_pos ⟨rfl, c⟩, c]
      · rw [if_neg (fun h => c h.2)]; exact hg g g0 (by omega)
theorem ar1_20 (hP : okP P) {lim : Int} (hl0 : 0 ≤ lim ∧ lim ≤ 2) (hq : ∀ σ' xs, CXr 20 σ' P lim xs → fr (fun c j => c = 21 ∨ c = 22 ∨ (c = 20 ∧ (j = 2 ∨ j = 3))) σ σ' → Q (.inl none) σ') :
    ∀ (d : Nat) (i : Int) (σ1 : St) (xs : List Int) (a2 : Option AV), 0 ≤ i → i + d = 31 → RN 5 σ1 P → WL P lim xs → CA 20 σ1 xs → (0 : Int) ∈ xs → gI σ1 20 3 = lim → fr (fun c j => c = 21 ∨ c = 22 ∨ (c = 20 ∧ (j = 2 ∨ j = 3))) σ σ1 → i ≤ xs.length → (∀ j : Int, 0 ≤ j → j < i → ∀ e', stepC P lim (la xs j) e' → e' ∈ xs) → wp t 14 17 [some (vR 20), some (vR 5), a2, some (vI i)] [] σ1 Q := by
  have done : ∀ (i : Int) (σ1 : St) (xs : List Int) (a2 : Option AV), RN 5 σ1 P → WL P lim xs → CA 20 σ1 xs → (0 : Int) ∈ xs → gI σ1 20 3 = lim → fr (fun c j => c = 21 ∨ c = 22 ∨ (c = 20 ∧ (j = 2 ∨ j = 3))) σ σ1 → (∀ j : Int, 0 ≤ j → j < xs.length → ∀ e', stepC P lim (la xs j) e' → e' ∈ xs) → wp t 14 50 [some (vR 20), some (vR 5), a2, some (vI i)] [] σ1 Q := by
    intro i σ1 xs a2 hN hW hC h0 hl hf hcl
    have hlen : 1 ≤ xs.length := by
      cases xs with
      | nil => cases h0
      | cons x xs => exact Nat.succ_le_succ (Nat.zero_le _)
    rw [x14_50_20]
    refine c20_20 hC hlen hW.1 (fun x hx => RS_rng hP (hW.2 x hx)) (fun σ' zs hC' hz hm hf' => ?_)
    simp only [x14_54_20, aft_l, aft_r, optL_s, optL_n, xgo_n, xgo_s, List.cons_append, List.nil_append, List.append_nil, true_and, and_true, Nat.sub_zero, Nat.zero_le, true_implies, false_implies, implies_true, not_true_eq_false, not_false_eq_true, true_or, or_true]
    refine ar2_20 hP (xs := zs) ⟨hz, fun e => ?_⟩ hq 5 0 σ' _ _ (by omega) (by omega) hC' ((fr_I hf' _ _ (by omega)).trans hl) (fr_trans hf (fr_mono hf' (fun c j h => by omega))) (fun g g0 g1 => by omega)
    rw [hm]
    constructor
    · exact hW.2 e
    · intro hR
      exact hR (fun e => e ∈ xs) h0 (fun a b ha hs => by
        obtain ⟨j, j0, j1, rfl⟩ := mem_la ha
        exact hcl j j0 j1 b hs)
  intro d
  induction d with
  | zero =>
    intro i σ1 xs a2 i0 hd hN hW hC h0 hl hf hi hcl
    have := hC.2.2
    rw [x14_17_20]
    exact ⟨⟨by omega, by omega⟩, fun h => by omega, fun _ => done i σ1 xs a2 hN hW hC h0 hl hf (fun j j0 j1 => hcl j j0 (by omega))⟩
  | succ d ih =>
    intro i σ1 xs a2 i0 hd hN hW hC h0 hl hf hi hcl
    have hlen := hC.2.2
    rw [x14_17_20]
    refine ⟨⟨by omega, by omega⟩, fun _ => ?_, fun h => by omega⟩
    rw [x14_23_20, hC.2.1]
    refine ⟨⟨⟨by omega, by omega⟩, ⟨by omega, by omega⟩⟩, fun h => ?_, fun h => done i σ1 xs a2 hN hW hC h0 hl hf (fun j j0 j1 => hcl j j0 (by omega))⟩
    have hr : rdI σ1 21 i = la xs i := by rw [rdI_in (n := 31) rfl i0 (by omega)]; exact hC.1.1 i i0 h
    simp only [x14_31_20, x14_41_20, k96 (show lc 21 = 101 from rfl), hr, aft_l, aft_r, optL_s, optL_n, xgo_n, xgo_s, List.cons_append, List.nil_append, List.append_nil, true_and, and_true, Nat.sub_zero, Nat.zero_le, true_implies, false_implies, implies_true, not_true_eq_false, not_false_eq_true, true_or, or_true]
    refine ⟨⟨by omega, by omega⟩, c15_20 hP hl0 (la_mem i0 h) hN hl hW hC (fun σ' ys hW' hC' hs hf' => ?_)⟩
    simp only [x14_44_20, aft_l, aft_r, optL_s, optL_n, xgo_n, xgo_s, List.cons_append, List.nil_append, List.append_nil, true_and, and_true, Nat.sub_zero, Nat.zero_le, true_implies, false_implies, implies_true, not_true_eq_false, not_false_eq_true, true_or, or_true]
    refine ih (i + 1) σ' (xs ++ ys) _ (by omega) (by omega) (RN_fr hN hf' (fun j => by omega) (fun j => by omega) (fun j => by omega) (fun j => by omega) (by omega)) hW' hC' (List.mem_append_left _ h0) ((fr_I hf' _ _ (by omega)).trans hl) (fr_trans hf (fr_mono hf' (fun c j h => by omega))) (by rw [List.length_append]; omega) (fun j j0 j1 e' hs' => ?_)
    rw [la_app_l j0 (by omega)] at hs'
    by_cases c : j = i
    · rw [c] at hs'; exact hs e' hs'
    · exact List.mem_append_left _ (hcl j j0 (by omega) e' hs')
/-- Contexts.arrange -/
theorem c14_20 (hP : okP P) {lim : Int} (hl0 : 0 ≤ lim ∧ lim ≤ 2) (hN : RN 5 σ P) (hG : GE 20 σ) (hq : ∀ σ' xs, CXr 20 σ' P lim xs → fr (fun c j => c = 21 ∨ c = 22 ∨ (c = 20 ∧ (j = 2 ∨ j = 3))) σ σ' → Q (.inl none) σ') : Call t 14 [vR 20, vR 5, vI lim] σ Q := by
  have hf : fr (fun c j => c = 21 ∨ c = 22 ∨ (c = 20 ∧ (j = 2 ∨ j = 3))) σ (sI (sI σ 20 3 lim) 20 2 0) := fr_sI (fr_sI fr_refl (by omega)) (by omega)
  have hC : CA 20 (sI (sI σ 20 3 lim) 20 2 0) [] := ⟨⟨fun i i0 i1 => by rw [List.length_nil] at i1; omega, fun i i0 i1 => by
    show 0 ≤ gI (sI (sI σ 20 3 lim) 20 2 0) 21 i ∧ gI (sI (sI σ 20 3 lim) 20 2 0) 21 i < 9412
    rw [gI_sI, if_neg (by omega), gI_sI, if_neg (by omega)]; exact hG i i0 i1⟩, by rw [gI_sI, if_pos ⟨rfl, rfl⟩]; rfl, Nat.zero_le _⟩
  rw [x14_0_20]
  refine c18_20 hC (fun x hx => by cases hx) ⟨by omega, by omega⟩ (fun _ => by decide) (fun h => by cases h) (fun _ σ' hC' hf' => ?_)
  simp only [x14_15_20, aft_l, aft_r, optL_s, optL_n, xgo_n, xgo_s, List.cons_append, List.nil_append, List.append_nil, true_and, and_true, Nat.sub_zero, Nat.zero_le, true_implies, false_implies, implies_true, not_true_eq_false, not_false_eq_true, true_or, or_true]
  rw [List.nil_append] at hC'
  refine ar1_20 hP hl0 hq 31 0 σ' [0] _ (by omega) (by omega) (RN_fr hN (fr_trans hf (fr_mono hf' (fun c j h => by omega))) (fun j => by omega) (fun j => by omega) (fun j => by omega) (fun j => by omega) (by omega)) ⟨by unfold List.Nodup; exact List.pairwise_singleton _ _, fun x hx => by rw [List.mem_singleton.mp hx]; exact RS_0 P lim⟩ hC' (List.mem_singleton.mpr rfl) ?_ (fr_trans hf (fr_mono hf' (fun c j h => by omega))) (by simp) (fun j j0 j1 => by omega)
  rw [fr_I hf' _ _ (by omega), gI_sI, if_neg (by omega), gI_sI, if_pos ⟨rfl, rfl⟩]
theorem ge_31 {σ : St} {p x : Int} (h : GE 31 σ) (hx : 0 ≤ x ∧ x < 9412) : GE 31 (sI σ 32 p x) := fun i i0 i1 => by
  show 0 ≤ gI (sI σ 32 p x) 32 i ∧ gI (sI σ 32 p x) 32 i < 9412
  rw [gI_sI]
  by_cases c : i = p
  · rw [if_pos ⟨rfl, c⟩]; exact hx
  · rw [if_neg (fun g => c g.2)]; exact h i i0 i1
theorem si_31 {xs zs : List Int} {k x : Int} (hxs : xs.length ≤ 31) (hk : (zs.length : Int) = k) (hkn : k < xs.length) (hz : zs.Pairwise (· < ·)) (hxz : x ∉ zs) (hxr : 0 ≤ x ∧ x < 9412) (hzr : ∀ z ∈ zs, 0 ≤ z ∧ z < 9412)
    (hq : ∀ σ' (p a3 : Int), 0 ≤ p → p ≤ zs.length → (insA p.toNat x zs).Pairwise (· < ·) → (∀ i : Int, 0 ≤ i → i ≤ k → gI σ' 32 i = la (insA p.toNat x zs) i) → (∀ i : Int, k < i → i < xs.length → gI σ' 32 i = la xs i) → GE 31 σ' → fr (fun c _ => c = 32) σ σ' → wp t 20 72 [some (vR 31), some (vI k), some (vI x), some (vI a3)] [] σ' Q) :
    ∀ (p : Nat) (σ1 : St), (p : Int) ≤ k → fr (fun c _ => c = 32) σ σ1 → (∀ i : Int, 0 ≤ i → i < p → gI σ1 32 i = la zs i) → (∀ i : Int, (p : Int) < i → i ≤ k → gI σ1 32 i = la zs (i - 1)) → (∀ i : Int, k < i → i < xs.length → gI σ1 32 i = la xs i) → (∀ i : Int, (p : Int) ≤ i → i < k → x < la zs i) → GE 31 σ1 →
    wp t 20 21 [some (vR 31), some (vI k), some (vI x), some (vI p)] [] σ1 Q := by
  have done : ∀ (p : Nat) (σ1 : St), (p : Int) ≤ k → fr (fun c _ => c = 32) σ σ1 → (∀ i : Int, 0 ≤ i → i < p → gI σ1 32 i = la zs i) → (∀ i : Int, (p : Int) < i → i ≤ k → gI σ1 32 i = la zs (i - 1)) → (∀ i : Int, k < i → i < xs.length → gI σ1 32 i = la xs i) → (∀ i : Int, (p : Int) ≤ i → i < k → x < la zs i) → (∀ i : Int, 0 ≤ i → i < (p : Int) → la zs i < x) → GE 31 σ1 →
      wp t 20 63 [some (vR 31), some (vI k), some (vI x), some (vI p)] [] σ1 Q := by
    intro p σ1 hp hf h1 h2 h3 h4 h5 hG
    have w : ∀ v, wrI σ1 32 (p : Int) v = sI σ1 32 (p : Int) v := fun v => wrI_in (n := 31) rfl (by omega) (by omega)
    simp only [x20_63_31, k98 (show lc 32 = 101 from rfl), w, aft_l, aft_r, optL_s, optL_n, xgo_n, xgo_s, List.cons_append, List.nil_append, List.append_nil, true_and, and_true, Nat.sub_zero, Nat.zero_le, true_implies, false_implies, implies_true, not_true_eq_false, not_false_eq_true, true_or, or_true]
    refine ⟨⟨by omega, by omega⟩, hq _ p p (by omega) (by omega) (insA_asc hz (by omega) (fun i i0 i1 => h5 i i0 (by omega)) (fun i i0 i1 => h4 i (by omega) (by omega))) (fun i i0 i1 => ?_) (fun i i0 i1 => ?_) (ge_31 hG hxr) (fr_sI hf rfl)⟩
    · rw [gI_sI, insA_la (by omega) i0, show ((p : Int).toNat) = p by omega]
      by_cases c : i = p
      · rw [if_pos ⟨rfl, c⟩, if_neg (by omega), if_pos c]
      · rw [if_neg (fun g => c g.2)]
        by_cases d : i < p
        · rw [if_pos d]; exact h1 i i0 d
        · rw [if_neg d, if_neg c]; exact h2 i (by omega) i1
    · rw [gI_sI, if_neg (by omega)]; exact h3 i i0 i1
  intro p
  have hx : inR x := ⟨by omega, by omega⟩
  induction p with
  | zero =>
    intro σ1 hp hf h1 h2 h3 h4 hG
    rw [x20_21_31]
    exact ⟨⟨by omega, by omega⟩, fun h => by omega, fun _ => done 0 σ1 hp hf h1 h2 h3 h4 (fun i i0 i1 => by omega) hG⟩
  | succ p ih =>
    intro σ1 hp hf h1 h2 h3 h4 hG
    have e1 : (((p + 1 : Nat) : Int) - 1) = (p : Int) := by omega
    have hr : rdI σ1 32 (((p + 1 : Nat) : Int) - 1) = la zs p := by rw [rdI_in (n := 31) rfl (by omega) (by omega), e1]; exact h1 p (by omega) (by omega)
    have hzp := hzr _ (la_mem (xs := zs) (i := p) (by omega) (by omega))
    have w : ∀ v, wrI σ1 32 ((p + 1 : Nat) : Int) v = sI σ1 32 ((p + 1 : Nat) : Int) v := fun v => wrI_in (n := 31) rfl (by omega) (by omega)
    rw [x20_21_31]
    refine ⟨⟨by omega, by omega⟩, fun h => ?_, fun g => by omega⟩
    simp only [x20_25_31, x20_35_31, x20_39_31, x20_54_31, x20_57_31, k96 (show lc 32 = 101 from rfl), k98 (show lc 32 = 101 from rfl), hr, w, aft_l, aft_r, optL_s, optL_n, xgo_n, xgo_s, List.cons_append, List.nil_append, List.append_nil, true_and, and_true, Nat.sub_zero, Nat.zero_le, true_implies, false_implies, implies_true, not_true_eq_false, not_false_eq_true, true_or, or_true]
    refine ⟨⟨by omega, by omega⟩, ⟨⟨by omega, by omega⟩, hx⟩, fun hlt => ⟨⟨by omega, by omega⟩, ⟨by omega, by omega⟩, ?_⟩, fun hge => ?_⟩
    · rw [show ((p + 1 : Nat) : Int) + -1 = (p : Int) by omega]
      refine ih _ (by omega) (fr_sI hf rfl) (fun i i0 i1 => ?_) (fun i i0 i1 => ?_) (fun i i0 i1 => ?_) (fun i i0 i1 => ?_) (ge_31 hG hzp)
      · rw [gI_sI, if_neg (by omega)]; exact h1 i i0 (by omega)
      · rw [gI_sI]
        by_cases c : i = ((p + 1 : Nat) : Int)
        · rw [if_pos ⟨rfl, c⟩, c, e1]
        · rw [if_neg (fun g => c g.2)]; exact h2 i (by omega) i1
      · rw [gI_sI, if_neg (by omega)]; exact h3 i i0 i1
      · by_cases c : i = p
        · rw [c]; exact hlt
        · exact h4 i (by omega) i1
    · refine done (p + 1) σ1 hp hf h1 h2 h3 h4 (fun i i0 i1 => ?_) hG
      have hne : la zs p ≠ x := fun e => hxz (e ▸ la_mem (by omega) (by omega))
      by_cases c : i = p
      · rw [c]; omega
      · have := asc_la hz i0 (show i < p by omega) (by omega); omega
theorem so_31 {xs : List Int} (hxs : xs.length ≤ 31) (hnd : xs.Nodup) (hxr : ∀ z ∈ xs, 0 ≤ z ∧ z < 9412)
    (hq : ∀ σ' zs, CA 31 σ' zs → zs.Pairwise (· < ·) → (∀ e, e ∈ zs ↔ e ∈ xs) → fr (fun c _ => c = 32) σ σ' → Q (.inl none) σ') :
    ∀ (d : Nat) (k : Int) (σ1 : St) (zs : List Int) (a2 a3 : Option AV), 1 ≤ k → k + d = xs.length → (zs.length : Int) = k → zs.Pairwise (· < ·) → (∀ e, e ∈ zs ↔ ∃ i, 0 ≤ i ∧ i < k ∧ la xs i = e) → gI σ1 31 2 = xs.length → fr (fun c _ => c = 32) σ σ1 → (∀ i : Int, 0 ≤ i → i < k → gI σ1 32 i = la zs i) → (∀ i : Int, k ≤ i → i < xs.length → gI σ1 32 i = la xs i) → GE 31 σ1 →
    wp t 20 2 [some (vR 31), some (vI k), a2, a3] [] σ1 Q
  | 0, k, σ1, zs, a2, a3, k1, hd, hzl, hz, hm, hs, hf, h1, h2, hG => by
    rw [x20_2_31, hs]
    refine ⟨⟨⟨by omega, by omega⟩, ⟨by omega, by omega⟩⟩, fun h => by omega, fun _ => ?_⟩
    rw [x20_78_31]
    refine hq σ1 zs ⟨⟨fun i i0 i1 => h1 i i0 (by omega), hG⟩, by omega, by omega⟩ hz (fun e => ?_) hf
    rw [hm]
    exact ⟨fun ⟨i, i0, i1, h⟩ => h ▸ la_mem i0 (by omega), fun h => by
      obtain ⟨i, i0, i1, h⟩ := mem_la h
      exact ⟨i, i0, by omega, h⟩⟩
  | d + 1, k, σ1, zs, a2, a3, k1, hd, hzl, hz, hm, hs, hf, h1, h2, hG => by
    have hr : rdI σ1 32 k = la xs k := by rw [rdI_in (n := 31) rfl (by omega) (by omega)]; exact h2 k (by omega) (by omega)
    rw [x20_2_31, hs]
    refine ⟨⟨⟨by omega, by omega⟩, ⟨by omega, by omega⟩⟩, fun h => ?_, fun g => by omega⟩
    simp only [x20_10_31, x20_18_31, k96 (show lc 32 = 101 from rfl), hr, aft_l, aft_r, optL_s, optL_n, xgo_n, xgo_s, List.cons_append, List.nil_append, List.append_nil, true_and, and_true, Nat.sub_zero, Nat.zero_le, true_implies, false_implies, implies_true, not_true_eq_false, not_false_eq_true, true_or, or_true]
    refine ⟨⟨by omega, by omega⟩, ?_⟩
    have hzk : ∀ z ∈ zs, z ∈ xs := fun z hz' => by
      obtain ⟨i, i0, i1, e⟩ := (hm z).mp hz'
      exact e ▸ la_mem i0 (by omega)
    have hkz : la xs k ∉ zs := fun g => by
      obtain ⟨i, i0, i1, e⟩ := (hm _).mp g
      have := nd_la hnd i0 (by omega) (show 0 ≤ k by omega) (by omega) e
      omega
    have hkN : ((k.toNat : Nat) : Int) = k := by omega
    have key := si_31 (t := t) (Q := Q) (σ := σ1) (xs := xs) (zs := zs) (k := k) (x := la xs k) hxs hzl (by omega) hz hkz (hxr _ (la_mem (by omega) (by omega))) (fun z hz' => hxr z (hzk z hz'))
      (fun σ' p a3 p0 p1 g1 g2 g3 g5 g4 => by
        rw [x20_72_31]
        refine so_31 hxs hnd hxr hq d (k + 1) σ' (insA p.toNat (la xs k) zs) _ _ (by omega) (by omega) (by rw [insA_len (by omega)]; omega) g1 (fun e => ?_) ((fr_I g4 _ _ (by omega)).trans hs) (fr_trans hf g4) (fun i i0 i1 => g2 i i0 (by omega)) (fun i i0 i1 => g3 i (by omega) i1) g5
        rw [insA_mem, hm]
        constructor
        · rintro (rfl | ⟨i, i0, i1, h⟩)
          · exact ⟨k, by omega, by omega, rfl⟩
          · exact ⟨i, i0, by omega, h⟩
        · rintro ⟨i, i0, i1, h⟩
          by_cases c : i = k
          · left; rw [← h, c]
          · exact Or.inr ⟨i, i0, by omega, h⟩) k.toNat σ1 (by omega) fr_refl (fun i i0 i1 => h1 i i0 (by omega)) (fun i i0 i1 => by omega) (fun i i0 i1 => h2 i (by omega) i1) (fun i i0 i1 => by omega) hG
    rw [hkN] at key
    exact key
/-- Contexts.sort -/
theorem c20_31 {xs : List Int} (hC : CA 31 σ xs) (h1 : 1 ≤ xs.length) (hnd : xs.Nodup) (hxr : ∀ z ∈ xs, 0 ≤ z ∧ z < 9412)
    (hq : ∀ σ' zs, CA 31 σ' zs → zs.Pairwise (· < ·) → (∀ e, e ∈ zs ↔ e ∈ xs) → fr (fun c _ => c = 32) σ σ' → Q (.inl none) σ') : Call t 20 [vR 31] σ Q := by
  rw [x20_0_31]
  refine so_31 hC.2.2 hnd hxr hq (xs.length - 1) 1 σ [la xs 0] _ _ (by omega) (by omega) rfl (List.pairwise_singleton _ _) (fun e => ?_) hC.2.1 fr_refl (fun i i0 i1 => ?_) (fun i i0 i1 => hC.1.1 i (by omega) i1) hC.1.2
  · rw [List.mem_singleton]
    constructor
    · rintro rfl; exact ⟨0, by omega, by omega, rfl⟩
    · rintro ⟨i, i0, i1, h⟩; rw [← h, show i = 0 by omega]
  · rw [show i = 0 by omega]; exact hC.1.1 0 (by omega) (by omega)
theorem cb_31 {xs : List Int} {w : Int} (hC : CA 31 σ xs) (hx : ∀ x ∈ xs, inR x) (hw : inR w) (hq : Q (.inl (some (vI (cbl xs w)))) σ) :
    ∀ (d n : Nat), n + d = xs.length → wp t 21 4 [some (vR 31), some (vI w), some (vI (cn (fun i => decide (la xs i < w)) n)), some (vI n)] [] σ Q
  | 0, n, hd => by
    have hl := hC.2.2
    rw [x21_4_31, hC.2.1]
    refine ⟨⟨⟨by omega, by omega⟩, ⟨by omega, by omega⟩⟩, fun h => by omega, fun _ => ?_⟩
    rw [x21_38_31]
    have e : n = xs.length := by omega
    rw [e]; exact hq
  | d + 1, n, hd => by
    have hl := hC.2.2
    have hr : rdI σ 32 n = la xs n := by rw [rdI_in (n := 31) rfl (by omega) (by omega)]; exact hC.1.1 n (by omega) (by omega)
    have ih := cb_31 hC hx hw hq d (n + 1) (by omega)
    rw [x21_4_31, hC.2.1]
    refine ⟨⟨⟨by omega, by omega⟩, ⟨by omega, by omega⟩⟩, fun h => ?_, fun g => by omega⟩
    rw [cn_succ] at ih
    simp only [x21_0_31, x21_12_31, x21_21_31, x21_25_31, x21_29_31, x21_30_31, x21_38_31, k96 (show lc 32 = 101 from rfl), hr, aft_l, aft_r, optL_s, optL_n, xgo_n, xgo_s, List.cons_append, List.nil_append, List.append_nil, true_and, and_true, Nat.sub_zero, Nat.zero_le, true_implies, false_implies, implies_true, not_true_eq_false, not_false_eq_true, true_or, or_true]
    refine ⟨⟨by omega, by omega⟩, ⟨hx _ (la_mem (by omega) (by omega)), hw⟩, fun c => ?_, fun c => ?_⟩
    · rw [if_pos (by rw [decide_eq_true_eq]; exact c)] at ih; exact ih
    · rw [if_neg (by rw [decide_eq_true_eq]; exact c)] at ih; exact ih
/-- Contexts.countBelow -/
theorem c21_31 {xs : List Int} {w : Int} (hC : CA 31 σ xs) (hx : ∀ x ∈ xs, inR x) (hw : inR w) (hq : Q (.inl (some (vI (cbl xs w)))) σ) : Call t 21 [vR 31, vI w] σ Q := by
  rw [x21_0_31]
  exact cb_31 hC hx hw hq xs.length 0 (by omega)
theorem ar2_31 (hP : okP P) {lim : Int} {xs : List Int} (hX : isC P lim xs) (hq : ∀ σ' xs, CXr 31 σ' P lim xs → fr (fun c j => c = 32 ∨ c = 33 ∨ (c = 31 ∧ (j = 2 ∨ j = 3))) σ σ' → Q (.inl none) σ') :
    ∀ (d : Nat) (f : Int) (σ1 : St) (a1 a2 : Option AV), 0 ≤ f → f + d = 5 → CA 31 σ1 xs → gI σ1 31 3 = lim → fr (fun c j => c = 32 ∨ c = 33 ∨ (c = 31 ∧ (j = 2 ∨ j = 3))) σ σ1 → (∀ g, 0 ≤ g → g < f → gI σ1 33 g = cbl xs (g * 2353)) → wp t 14 56 [some (vR 31), a1, a2, some (vI f)] [] σ1 Q
  | 0, f, σ1, a1, a2, f0, hd, hC, hl, hf, hg => by
    rw [x14_56_31]
    refine ⟨⟨by omega, by omega⟩, fun _ => ?_, fun h => by omega⟩
    rw [x14_84_31]
    exact hq σ1 xs ⟨hX, hC, fun g g0 g1 => hg g g0 (by omega), hl⟩ hf
  | d + 1, f, σ1, a1, a2, f0, hd, hC, hl, hf, hg => by
    have hin : ∀ x ∈ xs, inR x := fun x hx => by
      have := RS_rng hP ((hX.2 x).mp hx); exact ⟨by omega, by omega⟩
    have w : ∀ v, wrI σ1 33 f v = sI σ1 33 f v := fun v => wrI_in (n := 5) rfl (by omega) (by omega)
    rw [x14_56_31]
    refine ⟨⟨by omega, by omega⟩, fun h => by omega, fun _ => ?_⟩
    rw [x14_61_31]
    refine c21_31 hC hin ⟨by omega, by omega⟩ ?_
    simp only [x14_75_31, x14_78_31, k98 (show lc 33 = 101 from rfl), w, aft_l, aft_r, optL_s, optL_n, xgo_n, xgo_s, List.cons_append, List.nil_append, List.append_nil, true_and, and_true, Nat.sub_zero, Nat.zero_le, true_implies, false_implies, implies_true, not_true_eq_false, not_false_eq_true, true_or, or_true]
    refine ⟨⟨by omega, by omega⟩, ar2_31 hP hX hq d (f + 1) _ _ _ (by omega) (by omega) (CA_fr_31 (M := fun c _ => c = 33) hC (fr_sI fr_refl rfl) (fun j => by omega) (by omega)) ?_ (fr_sI hf (by omega)) (fun g g0 g1 => ?_)⟩
    · rw [gI_sI, if_neg (by omega)]; exact hl
    · rw [gI_sI]
      by_cases c : g = f
      · rw [if_pos ⟨rfl, c⟩, c]
      · rw [if_neg (fun h => c h.2)]; exact hg g g0 (by omega)
theorem ar1_31 (hP : okP P) {lim : Int} (hl0 : 0 ≤ lim ∧ lim ≤ 2) (hq : ∀ σ' xs, CXr 31 σ' P lim xs → fr (fun c j => c = 32 ∨ c = 33 ∨ (c = 31 ∧ (j = 2 ∨ j = 3))) σ σ' → Q (.inl none) σ') :
    ∀ (d : Nat) (i : Int) (σ1 : St) (xs : List Int) (a2 : Option AV), 0 ≤ i → i + d = 31 → RN 5 σ1 P → WL P lim xs → CA 31 σ1 xs → (0 : Int) ∈ xs → gI σ1 31 3 = lim → fr (fun c j => c = 32 ∨ c = 33 ∨ (c = 31 ∧ (j = 2 ∨ j = 3))) σ σ1 → i ≤ xs.length → (∀ j : Int, 0 ≤ j → j < i → ∀ e', stepC P lim (la xs j) e' → e' ∈ xs) → wp t 14 17 [some (vR 31), some (vR 5), a2, some (vI i)] [] σ1 Q := by
  have done : ∀ (i : Int) (σ1 : St) (xs : List Int) (a2 : Option AV), RN 5 σ1 P → WL P lim xs → CA 31 σ1 xs → (0 : Int) ∈ xs → gI σ1 31 3 = lim → fr (fun c j => c = 32 ∨ c = 33 ∨ (c = 31 ∧ (j = 2 ∨ j = 3))) σ σ1 → (∀ j : Int, 0 ≤ j → j < xs.length → ∀ e', stepC P lim (la xs j) e' → e' ∈ xs) → wp t 14 50 [some (vR 31), some (vR 5), a2, some (vI i)] [] σ1 Q := by
    intro i σ1 xs a2 hN hW hC h0 hl hf hcl
    have hlen : 1 ≤ xs.length := by
      cases xs with
      | nil => cases h0
      | cons x xs => exact Nat.succ_le_succ (Nat.zero_le _)
    rw [x14_50_31]
    refine c20_31 hC hlen hW.1 (fun x hx => RS_rng hP (hW.2 x hx)) (fun σ' zs hC' hz hm hf' => ?_)
    simp only [x14_54_31, aft_l, aft_r, optL_s, optL_n, xgo_n, xgo_s, List.cons_append, List.nil_append, List.append_nil, true_and, and_true, Nat.sub_zero, Nat.zero_le, true_implies, false_implies, implies_true, not_true_eq_false, not_false_eq_true, true_or, or_true]
    refine ar2_31 hP (xs := zs) ⟨hz, fun e => ?_⟩ hq 5 0 σ' _ _ (by omega) (by omega) hC' ((fr_I hf' _ _ (by omega)).trans hl) (fr_trans hf (fr_mono hf' (fun c j h => by omega))) (fun g g0 g1 => by omega)
    rw [hm]
    constructor
    · exact hW.2 e
    · intro hR
      exact hR (fun e => e ∈ xs) h0 (fun a b ha hs => by
        obtain ⟨j, j0, j1, rfl⟩ := mem_la ha
        exact hcl j j0 j1 b hs)
  intro d
  induction d with
  | zero =>
    intro i σ1 xs a2 i0 hd hN hW hC h0 hl hf hi hcl
    have := hC.2.2
    rw [x14_17_31]
    exact ⟨⟨by omega, by omega⟩, fun h => by omega, fun _ => done i σ1 xs a2 hN hW hC h0 hl hf (fun j j0 j1 => hcl j j0 (by omega))⟩
  | succ d ih =>
    intro i σ1 xs a2 i0 hd hN hW hC h0 hl hf hi hcl
    have hlen := hC.2.2
    rw [x14_17_31]
    refine ⟨⟨by omega, by omega⟩, fun _ => ?_, fun h => by omega⟩
    rw [x14_23_31, hC.2.1]
    refine ⟨⟨⟨by omega, by omega⟩, ⟨by omega, by omega⟩⟩, fun h => ?_, fun h => done i σ1 xs a2 hN hW hC h0 hl hf (fun j j0 j1 => hcl j j0 (by omega))⟩
    have hr : rdI σ1 32 i = la xs i := by rw [rdI_in (n := 31) rfl i0 (by omega)]; exact hC.1.1 i i0 h
    simp only [x14_31_31, x14_41_31, k96 (show lc 32 = 101 from rfl), hr, aft_l, aft_r, optL_s, optL_n, xgo_n, xgo_s, List.cons_append, List.nil_append, List.append_nil, true_and, and_true, Nat.sub_zero, Nat.zero_le, true_implies, false_implies, implies_true, not_true_eq_false, not_false_eq_true, true_or, or_true]
    refine ⟨⟨by omega, by omega⟩, c15_31 hP hl0 (la_mem i0 h) hN hl hW hC (fun σ' ys hW' hC' hs hf' => ?_)⟩
    simp only [x14_44_31, aft_l, aft_r, optL_s, optL_n, xgo_n, xgo_s, List.cons_append, List.nil_append, List.append_nil, true_and, and_true, Nat.sub_zero, Nat.zero_le, true_implies, false_implies, implies_true, not_true_eq_false, not_false_eq_true, true_or, or_true]
    refine ih (i + 1) σ' (xs ++ ys) _ (by omega) (by omega) (RN_fr hN hf' (fun j => by omega) (fun j => by omega) (fun j => by omega) (fun j => by omega) (by omega)) hW' hC' (List.mem_append_left _ h0) ((fr_I hf' _ _ (by omega)).trans hl) (fr_trans hf (fr_mono hf' (fun c j h => by omega))) (by rw [List.length_append]; omega) (fun j j0 j1 e' hs' => ?_)
    rw [la_app_l j0 (by omega)] at hs'
    by_cases c : j = i
    · rw [c] at hs'; exact hs e' hs'
    · exact List.mem_append_left _ (hcl j j0 (by omega) e' hs')
/-- Contexts.arrange -/
theorem c14_31 (hP : okP P) {lim : Int} (hl0 : 0 ≤ lim ∧ lim ≤ 2) (hN : RN 5 σ P) (hG : GE 31 σ) (hq : ∀ σ' xs, CXr 31 σ' P lim xs → fr (fun c j => c = 32 ∨ c = 33 ∨ (c = 31 ∧ (j = 2 ∨ j = 3))) σ σ' → Q (.inl none) σ') : Call t 14 [vR 31, vR 5, vI lim] σ Q := by
  have hf : fr (fun c j => c = 32 ∨ c = 33 ∨ (c = 31 ∧ (j = 2 ∨ j = 3))) σ (sI (sI σ 31 3 lim) 31 2 0) := fr_sI (fr_sI fr_refl (by omega)) (by omega)
  have hC : CA 31 (sI (sI σ 31 3 lim) 31 2 0) [] := ⟨⟨fun i i0 i1 => by rw [List.length_nil] at i1; omega, fun i i0 i1 => by
    show 0 ≤ gI (sI (sI σ 31 3 lim) 31 2 0) 32 i ∧ gI (sI (sI σ 31 3 lim) 31 2 0) 32 i < 9412
    rw [gI_sI, if_neg (by omega), gI_sI, if_neg (by omega)]; exact hG i i0 i1⟩, by rw [gI_sI, if_pos ⟨rfl, rfl⟩]; rfl, Nat.zero_le _⟩
  rw [x14_0_31]
  refine c18_31 hC (fun x hx => by cases hx) ⟨by omega, by omega⟩ (fun _ => by decide) (fun h => by cases h) (fun _ σ' hC' hf' => ?_)
  simp only [x14_15_31, aft_l, aft_r, optL_s, optL_n, xgo_n, xgo_s, List.cons_append, List.nil_append, List.append_nil, true_and, and_true, Nat.sub_zero, Nat.zero_le, true_implies, false_implies, implies_true, not_true_eq_false, not_false_eq_true, true_or, or_true]
  rw [List.nil_append] at hC'
  refine ar1_31 hP hl0 hq 31 0 σ' [0] _ (by omega) (by omega) (RN_fr hN (fr_trans hf (fr_mono hf' (fun c j h => by omega))) (fun j => by omega) (fun j => by omega) (fun j => by omega) (fun j => by omega) (by omega)) ⟨by unfold List.Nodup; exact List.pairwise_singleton _ _, fun x hx => by rw [List.mem_singleton.mp hx]; exact RS_0 P lim⟩ hC' (List.mem_singleton.mpr rfl) ?_ (fr_trans hf (fr_mono hf' (fun c j h => by omega))) (by simp) (fun j j0 j1 => by omega)
  rw [fr_I hf' _ _ (by omega), gI_sI, if_neg (by omega), gI_sI, if_pos ⟨rfl, rfl⟩]
end CC2

