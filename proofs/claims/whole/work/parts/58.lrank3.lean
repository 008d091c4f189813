/-! the law's ranks: findRanks -/
section LR3
variable {t : Nat} {σ : St} {Q : Res → St → Prop} {P : Pg} {xs : List Int}
theorem cpb {a3 a4 : Option AV} (hq : ∀ σ' a1 a2, (∀ k, 0 ≤ k → k < 456 → gL σ' 63 k = gL σ 62 k) → fr (fun c _ => c = 63) σ σ' → wp t 218 73 [some (vR 53), a1, a2, a3, a4] [] σ' Q) :
    ∀ (d : Nat) (j : Int) (σ1 : St) (a1 : Option AV), 0 ≤ j → j + d = 456 → fr (fun c _ => c = 63) σ σ1 → (∀ k, 0 ≤ k → k < j → gL σ1 63 k = gL σ 62 k) → wp t 218 46 [some (vR 53), a1, some (vI j), a3, a4] [] σ1 Q
  | 0, j, σ1, a1, j0, hd, hf, h => by
    rw [x218_46]
    refine ⟨⟨by omega, by omega⟩, fun h => by omega, fun _ => ?_⟩
    exact hq σ1 _ _ (fun k k0 k1 => h k k0 (by omega)) hf
  | d + 1, j, σ1, a1, j0, hd, hf, h => by
    rw [x218_46]
    refine ⟨⟨by omega, by omega⟩, fun _ => ?_, fun h => by omega⟩
    rw [x218_55]
    have e : gL σ1 62 j = gL σ 62 j := fr_L hf _ _ (by decide)
    refine ⟨⟨j0, by omega⟩, ⟨j0, by omega⟩, cpb hq d (j + 1) _ _ (by omega) (by omega) (fr_sL hf rfl) (fun k k0 k1 => ?_)⟩
    rw [gL_sL]
    by_cases q : k = j
    · rw [if_pos ⟨rfl, q⟩, q]; exact e
    · rw [if_neg (fun g => q g.2)]; exact h k k0 (by omega)
theorem rkr (hP : okP P) (hC : isC P 0 xs) (hq : ∀ σ', LPr σ' P → FRK P σ' → fr rkM σ σ' → Q (.inl none) σ') :
    ∀ (d j : Nat) (σ1 : St) (N : Int) (a2 a3 a4 : Option AV), N = fpop (gL σ1 62) → 23104 - N < d → (j : Int) ≤ N → LPr σ1 P → LX σ1 xs → (∀ c u, Gc 62 σ1 c u ↔ Gr P xs 0 j c u) → RKS P xs (Gr P xs 0 j) σ1 → gI σ1 53 23 = j → (∀ i, i < j → ∃ c u, Gr P xs 0 (i + 1) c u ∧ ¬ Gr P xs 0 i c u) → fr rkM σ σ1 → wp t 218 40 [some (vR 53), some (vI 1), a2, a3, a4] [] σ1 Q
  | 0, j, σ1, N, a2, a3, a4, hN, hd, hj, h1, h2, h3, h4, h5, h6, hf => by
    have hx := xok_of hP hC
    have hb := Gc_bound (g := 62) (σ := σ1) hx (by
      have e : Gc 62 σ1 = Gr P xs 0 j := iff_fun h3
      rw [e]; exact Gr_ok hP hC j)
    rw [← hN] at hb
    omega
  | d + 1, j, σ1, N, a2, a3, a4, hN, hd, hj, h1, h2, h3, h4, h5, h6, hf => by
    have hx := xok_of hP hC
    have e62 : Gc 62 σ1 = Gr P xs 0 j := iff_fun h3
    have hb := Gc_bound (g := 62) (σ := σ1) hx (by rw [e62]; exact Gr_ok hP hC j)
    rw [← hN] at hb
    rw [x218_40]
    refine ⟨by decide, fun h => absurd h (by decide), fun _ => ?_⟩
    rw [x218_44]
    refine cpb (fun σ2 b1 b2 g1 g2 => ?_) 456 0 σ1 _ (by omega) (by omega) fr_refl (fun k k0 k1 => by omega)
    rw [x218_73]
    have eL : gL σ2 62 = gL σ1 62 := funext fun j => fr_L g2 _ _ (by decide)
    have eW : ∀ c u, Gc 63 σ2 c u ↔ Gr P xs 0 j c u := fun c u => by
      rw [← h3 c u]
      unfold Gc bt
      constructor
      · rintro ⟨k1, k2, k3⟩
        rw [g1 _ (by omega) (by omega)] at k3; exact ⟨k1, k2, k3⟩
      · rintro ⟨k1, k2, k3⟩
        rw [← g1 _ (by omega) (by omega)] at k3; exact ⟨k1, k2, k3⟩
    have h2' : LX σ2 xs := LX_fr h2 g2 (by omega) (fun j => by omega) (fun j => by omega)
    have hRI : RI P xs j 0 0 σ2 := ⟨LP_fr h1 g2 (fun c j k => by omega), h2', eW, fun c u => by
        rw [GB_lt0, ← h3 c u]
        unfold Gc
        rw [eL], by rw [GB_lt0]; exact RKS_fr h4 g2 (fun j => by omega) (fun j => by omega), (fr_I g2 _ _ (by omega)).trans h5, Or.inl ⟨rfl, fun c u k => by rw [GB_lt0] at k; exact k⟩⟩
    have ht := tot_rng hP.1
    refine rki hP hC (by omega) (fun σ3 more b3 b4 hR hk => ?_) (tot P).toNat 0 σ2 0 _ _ (by omega) (by omega) hRI fr_refl
    have hf3 : fr rkM σ σ3 := fr_trans hf (fr_trans (fr_mono g2 (fun c j k => by unfold rkM; omega)) (fr_mono hk (fun c j k => by unfold kM at k; unfold rkM; omega)))
    obtain ⟨q1, q2, q3, q4, q5, q6, q7⟩ := hR
    rw [GB_ltt] at q4 q5 q7
    have e62' : Gc 62 σ3 = Gr P xs 0 (j + 1) := iff_fun q4
    have hb' := Gc_bound (g := 62) (σ := σ3) hx (by rw [e62']; exact Gr_ok hP hC (j + 1))
    rcases q7 with ⟨e, k⟩ | ⟨e, c, u, k1, k2⟩
    · rw [e, x218_156]
      refine ⟨by decide, fun _ => ?_, fun h => absurd rfl h⟩
      rw [x218_169, x218_170, q6, x218_40]
      refine ⟨by decide, fun _ => ?_, fun h => absurd rfl h⟩
      rw [x218_177]
      have hL : Lf P xs 0 = Gr P xs 0 (j + 1) := iff_fun (fun c u => (LF_Gr k).trans ⟨Or.inl, k c u⟩)
      have hfe : fr (fun c j => c = 53 ∧ j = 23) σ3 (sI σ3 53 23 ((j : Int) + 0)) := fr_sI fr_refl ⟨rfl, rfl⟩
      refine hq _ (LP_fr q1 hfe (fun c j k => by omega)) ⟨xs, hC, by rw [hL]; exact RKS_fr q5 hfe (fun j => by omega) (fun j => by omega), j, ?_, k, h6⟩ (fr_trans hf3 (fr_mono hfe (fun c j k => by unfold rkM; omega)))
      rw [gI_sI, if_pos ⟨rfl, rfl⟩]; omega
    · rw [e, x218_156]
      refine ⟨by decide, fun h => absurd h (by decide), fun _ => ?_⟩
      rw [x218_165, x218_170, q6]
      have hfe : fr (fun c j => c = 53 ∧ j = 23) σ3 (sI σ3 53 23 ((j : Int) + 1)) := fr_sI fr_refl ⟨rfl, rfl⟩
      have eLe : gL (sI σ3 53 23 ((j : Int) + 1)) 62 = gL σ3 62 := rfl
      have hlt : fpop (gL σ1 62) < fpop (gL σ3 62) := by
        have hsub : ∀ c u, Gc 62 σ1 c u → Gc 62 σ3 c u := fun c u k => by rw [e62']; rw [e62] at k; exact Or.inl k
        have hle := fpop_le (Gc_le hsub)
        apply Classical.byContradiction
        intro hno
        have ew := fun k (q0 : (0 : Int) ≤ k) (q1 : k < 456) => fpop_eq (Gc_le hsub) (Int.not_lt.mp hno) q0 q1
        exact k2 ((h3 c u).mp ((Gc_words ew c u).mpr ((q4 c u).mpr k1)))
      rw [← hN] at hlt
      refine rkr hP hC hq d (j + 1) _ (fpop (gL σ3 62)) _ _ _ (by rw [eLe]) (by omega) (by omega) (LP_fr q1 hfe (fun c j k => by omega)) (LX_fr q2 hfe (by omega) (fun j => by omega) (fun j => by omega)) (fun c u => by rw [Gc_fr hfe (fun j => by omega)]; exact q4 c u) (RKS_fr q5 hfe (fun j => by omega) (fun j => by omega)) (by rw [gI_sI, if_pos ⟨rfl, rfl⟩]; omega) (fun i hi => ?_) (fr_trans hf3 (fr_mono hfe (fun c j k => by unfold rkM; omega)))
      by_cases q : i = j
      · rw [q]; exact ⟨c, u, k1, k2⟩
      · exact h6 i (by omega)
theorem rkz (hq : ∀ σ' a1, (∀ k, 0 ≤ k → k < 1936 → gI σ' 64 k = 0) → fr (fun c _ => c = 64) σ σ' → wp t 218 33 [some (vR 53), a1, none, none, none] [] σ' Q) :
    ∀ (d : Nat) (j : Int) (σ1 : St), 0 ≤ j → j + d = 1936 → fr (fun c _ => c = 64) σ σ1 → (∀ k, 0 ≤ k → k < j → gI σ1 64 k = 0) → wp t 218 11 [some (vR 53), some (vI j), none, none, none] [] σ1 Q
  | 0, j, σ1, j0, hd, hf, h => by
    rw [x218_11]
    refine ⟨⟨by omega, by omega⟩, fun h => by omega, fun _ => hq σ1 _ (fun k k0 k1 => h k k0 (by omega)) hf⟩
  | d + 1, j, σ1, j0, hd, hf, h => by
    rw [x218_11]
    refine ⟨⟨by omega, by omega⟩, fun _ => ?_, fun h => by omega⟩
    rw [x218_20]
    refine ⟨⟨j0, by omega⟩, rkz hq d (j + 1) _ (by omega) (by omega) (fr_sI hf rfl) (fun k k0 k1 => ?_)⟩
    rw [gI_sI]
    by_cases q : k = j
    · rw [if_pos ⟨rfl, q⟩]
    · rw [if_neg (fun g => q g.2)]; exact h k k0 (by omega)
/-- findRanks -/
theorem c218 (hP : okP P) (hLP : LPr σ P) (hq : ∀ σ', LPr σ' P → FRK P σ' → fr rkM σ σ' → Q (.inl none) σ') : Call t 218 [vR 53] σ Q := by
  rw [x218_0]
  refine c209 hP (lim := 0) ⟨by omega, by omega⟩ hLP (fun σ1 xs hX hC hf1 => ?_)
  simp only [x218_5, aft_l, aft_r, optL_s, optL_n, xgo_n, xgo_s, List.cons_append, List.nil_append, List.append_nil, true_and, and_true, Nat.sub_zero, Nat.zero_le, true_implies, false_implies, implies_true, not_true_eq_false, not_false_eq_true, true_or, or_true]
  refine c216 (fun σ2 hE hf2 => ?_)
  simp only [x218_9, aft_l, aft_r, optL_s, optL_n, xgo_n, xgo_s, List.cons_append, List.nil_append, List.append_nil, true_and, and_true, Nat.sub_zero, Nat.zero_le, true_implies, false_implies, implies_true, not_true_eq_false, not_false_eq_true, true_or, or_true]
  refine rkz (fun σ3 a1 hz hf3 => ?_) 1936 0 σ2 (by omega) (by omega) fr_refl (fun k k0 k1 => by omega)
  rw [x218_33]
  have hfe : fr (fun c j => c = 53 ∧ j = 23) σ3 (sI σ3 53 23 0) := fr_sI fr_refl ⟨rfl, rfl⟩
  have hf : fr rkM σ (sI σ3 53 23 0) := fr_trans (fr_mono hf1 (fun c j k => by unfold cM at k; unfold rkM; omega)) (fr_trans (fr_mono hf2 (fun c j k => by unfold rkM; omega)) (fr_trans (fr_mono hf3 (fun c j k => by unfold rkM; omega)) (fr_mono hfe (fun c j k => by unfold rkM; omega))))
  have f13 : fr (fun c j => c = 62 ∨ c = 64 ∨ (c = 53 ∧ j = 23)) σ1 (sI σ3 53 23 0) := fr_trans (fr_mono hf2 (fun c j k => by omega)) (fr_trans (fr_mono hf3 (fun c j k => by omega)) (fr_mono hfe (fun c j k => by omega)))
  have eG : ∀ c u, ¬ Gc 62 (sI σ3 53 23 0) c u := fun c u k => by
    rw [Gc_fr hfe (fun j => by omega), Gc_fr hf3 (fun j => by omega)] at k
    exact hE c u k
  have hnn := fpop_nn (gL (sI σ3 53 23 0) 62)
  refine rkr hP hC (fun σ' h1 h2 h3 => hq σ' h1 h2 (fr_trans hf h3)) 23105 0 (sI σ3 53 23 0) (fpop (gL (sI σ3 53 23 0) 62)) _ _ _ rfl (by omega) (by omega) (LP_fr hLP hf (fun c j k => by unfold rkM at k; omega)) (LX_fr hX f13 (by omega) (fun j => by omega) (fun j => by omega)) (fun c u => ⟨fun k => absurd k (eG c u), fun k => k.elim⟩) ⟨fun k k0 k1 => ?_, fun a b a0 a1 b0 b1 => ?_⟩ ?_ (fun i hi => absurd hi (Nat.not_lt_zero i)) fr_refl
  · rw [gI_rne (by decide), hz k k0 k1]; exact ⟨by decide, by decide⟩
  · rw [gI_rne (by decide), hz _ (by omega) (by omega)]
    exact ⟨⟨fun k => absurd k (by decide), fun ⟨c, u, k, _⟩ => k.elim⟩, fun ⟨c, u, k, _⟩ => k.elim, by decide⟩
  · rw [gI_sI, if_pos ⟨rfl, rfl⟩]; rfl
end LR3
