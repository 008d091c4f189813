/-! the class's reader: a body -/
theorem rsC_n {σ : St} {Q : Res → St → Prop} {p : Int} : rsC σ Q (p, none) ↔ Q (.inl (some (vI 0))) (sI σ 1 2 p) := Iff.rfl
theorem rsC_s {σ : St} {Q : Res → St → Prop} {p : Int} {s : St4} : rsC σ Q (p, some s) ↔ Q (.inl (some (vI 1))) (dadd s (sI σ 1 2 p)) := Iff.rfl
def pk4 (s : St4) : Int := spk s.1 s.2.1 s.2.2.1 s.2.2.2
def DR (τ : St) (L : List St4) : Prop := gI τ 3 1 = L.length ∧ (gI τ 3 2 = cq 4 L ∧ (gI τ 3 3 = cq 6 L ∧ ∀ i : Nat, i < L.length → i < 12 → gI τ 4 i = pk4 (L.getD i s0)))
theorem DR_fr {M : Nat → Int → Prop} {σ σ' : St} {L : List St4} (h : DR σ L) (g : fr M σ σ') (hM : ∀ c j, M c j → c ≠ 3 ∧ c ≠ 4) : DR σ' L :=
  ⟨(fr_I g _ _ (fun k => (hM _ _ k).1 rfl)).trans h.1, (fr_I g _ _ (fun k => (hM _ _ k).1 rfl)).trans h.2.1, (fr_I g _ _ (fun k => (hM _ _ k).1 rfl)).trans h.2.2.1, fun i h1 h2 => (fr_I g _ _ (fun k => (hM _ _ k).2 rfl)).trans (h.2.2.2 i h1 h2)⟩
theorem DR_add {τ : St} {L : List St4} {s : St4} (h : DR τ L) : DR (dadd s τ) (L ++ [s]) := by
  obtain ⟨h1, h2, h3, h4⟩ := h
  have g3 : ∀ j v, gI (wrI τ 4 j v) 3 = gI τ 3 := fun j v => by
    unfold wrI
    split
    · exact gI_rne (by decide)
    · rfl
  unfold dadd
  refine ⟨?_, ?_, ?_, fun i i0 i1 => ?_⟩
  · rw [gI_sI, if_neg (by omega), gI_sI, if_neg (by omega), gI_sI, if_pos ⟨rfl, rfl⟩, h1, List.length_append, List.length_singleton]; omega
  · rw [gI_sI, if_neg (by omega), gI_sI, if_pos ⟨rfl, rfl⟩, h2, cq_app]
  · rw [gI_sI, if_pos ⟨rfl, rfl⟩, h3, cq_app]
  · rw [gI_sI, if_neg (by omega), gI_sI, if_neg (by omega), gI_sI, if_neg (by omega), h1]
    rw [List.length_append, List.length_singleton] at i0
    by_cases q : i = L.length
    · rw [q, wrI_in (n := 12) rfl (by omega) (by omega), gI_sI, if_pos ⟨rfl, rfl⟩, gl_last]; rfl
    · rw [gl_app (by omega)]
      unfold wrI
      split
      · rw [gI_sI, if_neg (by omega)]; exact h4 i (by omega) i1
      · exact h4 i (by omega) i1
def rM : Nat → Int → Prop := fun c j => c = 3 ∨ c = 4 ∨ (c = 1 ∧ (j = 2 ∨ j = 3))
theorem fr_dadd {s : St4} {τ : St} : fr rM τ (dadd s τ) := by
  unfold dadd
  refine fr_sI (fr_sI (fr_sI ?_ (by unfold rM; omega)) (by unfold rM; omega)) (by unfold rM; omega)
  unfold wrI
  split
  · exact fr_sI fr_refl (by unfold rM; omega)
  · exact fr_refl
/-- what reading a body tells, and the statements -/
def rT (σ : St) (f : Int) : Int × List St4 := if gI σ 1 1 = 0 then (-1, []) else pT (CH σ) (4 + 4 * f) (gI σ 1 1) 80 0 []
theorem CH_fr {σ τ : St} (h : fr rM σ τ) : CH τ = CH σ := funext fun p => by
  unfold CH
  rw [fr_I h 1 1 (by unfold rM; omega), fr_I h 2 p (by unfold rM; omega)]
theorem tx1_fr {M : Nat → Int → Prop} {σ τ : St} (h : tx1 σ) (g : fr M σ τ) (h1 : ¬ M 1 1) (h2 : ∀ j, ¬ M 2 j) : tx1 τ := by
  unfold tx1
  rw [fr_I g 1 1 h1]
  exact ⟨h.1, fun i i0 i1 => by rw [fr_I g 2 i (h2 i)]; exact h.2 i i0 i1⟩
section TX3
variable {t : Nat} {σ : St} {Q : Res → St → Prop}
theorem rdl {σ0 : St} {f : Int} (h : tx1 σ0) (hf : 4 ≤ f ∧ f ≤ 16) :
    ∀ (d : Nat) (i p : Int) (L : List St4) (τ : St) (a1 : Option AV), i + d = 80 → fr rM σ0 τ → gI τ 1 3 = f → gI τ 1 2 = p → DR τ L → 0 ≤ p → p ≤ gI σ0 1 1 → (L.length : Int) ≤ i → (∀ σ', DR σ' (pT (CH σ0) f (gI σ0 1 1) d p L).2 → fr rM σ0 σ' → Q (.inl (some (vI (pT (CH σ0) f (gI σ0 1 1) d p L).1))) σ') → wp t 3 28 [some (vR 1), a1, some (vR 3), some (vI i)] [] τ Q
  | 0, i, p, L, τ, a1, hd, hfr, h3, h2, hD, p0, p1, hl, hq => by
    rw [x3_28]
    refine ⟨⟨by omega, by omega⟩, fun h => by omega, fun _ => ?_⟩
    rw [x3_80, h2]
    exact hq τ hD hfr
  | d + 1, i, p, L, τ, a1, hd, hfr, h3, h2, hD, p0, p1, hl, hq => by
    have hlen := h.1
    have hN := txN_CH h
    have ht := tx1_fr h hfr (by unfold rM; omega) (fun j => by unfold rM; omega)
    have hs := pS_ok hN hf p0 p1
    have eC := CH_fr hfr
    have e1 : gI τ 1 1 = gI σ0 1 1 := fr_I hfr _ _ (by unfold rM; omega)
    have eτ : sI τ 1 2 p = τ := by rw [← h2]; exact sI_self
    have e4' := e4 (t := 0) (σ := τ) (Q := fun r σ' => aft r (fun vs => wp t 3 39 [some (vR 1), a1, some (vR 3), some (vI i)] (vs ++ []) σ' Q) (fun X => Q (.inr X) σ')) ht (by rw [h3]; exact hf) (by rw [hD.1]; exact ⟨by omega, by omega⟩) (p := p) (by omega)
    rw [eτ, eC, h3] at e4'
    unfold pT at hq
    rw [x3_28]
    refine ⟨⟨by omega, by omega⟩, fun _ => ?_, fun h => by omega⟩
    rw [x3_34, e4']
    generalize hr : pS (CH σ0) f p = r at hs hq
    obtain ⟨q, o⟩ := r
    obtain ⟨⟨q0, q1⟩, hs⟩ := hs
    have q0 : p ≤ q := q0
    have q1 : q ≤ gI σ0 1 1 := q1
    have hfq : fr rM τ (sI τ 1 2 q) := fr_sI fr_refl (by unfold rM; omega)
    cases o with
    | none =>
      rw [rsC_n]
      simp only [x3_39, (show inR (0 : Int) = True from eq_true ⟨by decide, by decide⟩), Int.reduceEq, x3_42, g1p, aft_l, aft_r, optL_s, optL_n, xgo_n, xgo_s, List.cons_append, List.nil_append, List.append_nil, true_and, and_true, Nat.sub_zero, Nat.zero_le, true_implies, false_implies, implies_true, not_true_eq_false, not_false_eq_true, true_or, or_true]
      exact hq _ (DR_fr (M := fun c j => c = 1 ∧ j = 2) hD (fr_sI fr_refl ⟨rfl, rfl⟩) (fun c j k => by omega)) (fr_trans hfr hfq)
    | some s =>
      have hs := hs s rfl
      have hD2 : DR (dadd s (sI τ 1 2 q)) (L ++ [s]) := DR_add (DR_fr (M := fun c j => c = 1 ∧ j = 2) hD (fr_sI fr_refl ⟨rfl, rfl⟩) (fun c j k => by omega))
      have hf2 : fr rM σ0 (dadd s (sI τ 1 2 q)) := fr_trans hfr (fr_trans hfq fr_dadd)
      have g2 : gI (dadd s (sI τ 1 2 q)) 1 = gI (sI τ 1 2 q) 1 := by
        unfold dadd
        rw [gI_rne (by decide), gI_rne (by decide), gI_rne (by decide)]
        unfold wrI
        split
        · exact gI_rne (by decide)
        · rfl
      have g12 : gI (dadd s (sI τ 1 2 q)) 1 2 = q := by rw [g2]; exact g1p
      have g11 : gI (dadd s (sI τ 1 2 q)) 1 1 = gI σ0 1 1 := fr_I hf2 _ _ (by unfold rM; omega)
      have g13 : gI (dadd s (sI τ 1 2 q)) 1 3 = f := by rw [g2, gI_sI, if_neg (by omega)]; exact h3
      have hl2 : ((L ++ [s]).length : Int) ≤ i + 1 := by rw [List.length_append, List.length_singleton]; omega
      rw [rsC_s]
      generalize dadd s (sI τ 1 2 q) = τ2 at hD2 hf2 g12 g11 g13
      have ht2 := tx1_fr h hf2 (by unfold rM; omega) (fun j => by unfold rM; omega)
      have eτ2 : sI τ2 1 2 q = τ2 := by rw [← g12]; exact sI_self
      simp only [x3_39, (show inR (1 : Int) = True from eq_true ⟨by decide, by decide⟩), Int.reduceEq, x3_47, g12, g11, aft_l, aft_r, optL_s, optL_n, xgo_n, xgo_s, List.cons_append, List.nil_append, List.append_nil, true_and, and_true, Nat.sub_zero, Nat.zero_le, true_implies, false_implies, implies_true, not_true_eq_false, not_false_eq_true, true_or, or_true]
      refine ⟨⟨⟨by omega, by omega⟩, ⟨by omega, by omega⟩⟩, fun e => ?_, fun e => ?_⟩
      · rw [x3_58]
        simp only [if_pos e] at hq
        exact hq τ2 hD2 hf2
      · simp only [if_neg e] at hq
        have e9' := e9 (t := 0) (σ := τ2) (Q := fun r σ' => aft r (fun vs => wp t 3 66 [some (vR 1), a1, some (vR 3), some (vI i)] (vs ++ []) σ' Q) (fun X => Q (.inr X) σ')) ht2 (p := q) (c := 59) (by omega)
        rw [eτ2, CH_fr hf2] at e9'
        rw [x3_60, e9']
        refine ⟨by decide, fun b => ?_, fun b => ?_⟩
        · simp only [if_pos b] at hq
          simp only [x3_66, (show inR (1 : Int) = True from eq_true ⟨by decide, by decide⟩), Int.reduceEq, x3_74, aft_l, aft_r, optL_s, optL_n, xgo_n, xgo_s, List.cons_append, List.nil_append, List.append_nil, true_and, and_true, Nat.sub_zero, Nat.zero_le, true_implies, false_implies, implies_true, not_true_eq_false, not_false_eq_true, true_or, or_true]
          have hfq2 : fr rM τ2 (sI τ2 1 2 (q + 1)) := fr_sI fr_refl (by unfold rM; omega)
          exact rdl h hf d (i + 1) (q + 1) (L ++ [s]) _ a1 (by omega) (fr_trans hf2 hfq2) (by rw [gI_sI, if_neg (by omega)]; exact g13) g1p (DR_fr (M := fun c j => c = 1 ∧ j = 2) hD2 (fr_sI fr_refl ⟨rfl, rfl⟩) (fun c j k => by omega)) (by omega) (by omega) hl2 hq
        · simp only [if_neg b] at hq
          simp only [x3_66, (show inR (0 : Int) = True from eq_true ⟨by decide, by decide⟩), Int.reduceEq, x3_69, g12, aft_l, aft_r, optL_s, optL_n, xgo_n, xgo_s, List.cons_append, List.nil_append, List.append_nil, true_and, and_true, Nat.sub_zero, Nat.zero_le, true_implies, false_implies, implies_true, not_true_eq_false, not_false_eq_true, true_or, or_true]
          exact hq τ2 hD2 hf2
/-- BodyText.read -/
theorem c3 (h : tx1 σ) {f : Int} (f0 : 0 ≤ f) (f1 : f ≤ 3) (hq : ∀ σ', DR σ' (rT σ f).2 → fr rM σ σ' → Q (.inl (some (vI (rT σ f).1))) σ') : Call t 3 [vR 1, vI f, vR 3] σ Q := by
  have hl := h.1
  have e11 : gI (sI (sI (sI (sI (sI σ 1 3 (4 + 4 * f)) 1 2 0) 3 1 0) 3 2 0) 3 3 0) 1 1 = gI σ 1 1 := by
    rw [gI_rne (by decide), gI_rne (by decide), gI_rne (by decide), gI_sI, if_neg (by omega), gI_sI, if_neg (by omega)]
  have hf0 : fr rM σ (sI (sI (sI (sI (sI σ 1 3 (4 + 4 * f)) 1 2 0) 3 1 0) 3 2 0) 3 3 0) := fr_sI (fr_sI (fr_sI (fr_sI (fr_sI fr_refl (by unfold rM; omega)) (by unfold rM; omega)) (by unfold rM; omega)) (by unfold rM; omega)) (by unfold rM; omega)
  have hD0 : DR (sI (sI (sI (sI (sI σ 1 3 (4 + 4 * f)) 1 2 0) 3 1 0) 3 2 0) 3 3 0) [] := ⟨by rw [gI_sI, if_neg (by omega), gI_sI, if_neg (by omega), gI_sI, if_pos ⟨rfl, rfl⟩]; rfl, by rw [gI_sI, if_neg (by omega), gI_sI, if_pos ⟨rfl, rfl⟩]; rfl, by rw [gI_sI, if_pos ⟨rfl, rfl⟩]; rfl, fun i hi => absurd hi (Nat.not_lt_zero i)⟩
  unfold rT at hq
  simp only [x3_0, k168, x3_5, k30, x3_17, e11, aft_l, aft_r, optL_s, optL_n, xgo_n, xgo_s, List.cons_append, List.nil_append, List.append_nil, true_and, and_true, Nat.sub_zero, Nat.zero_le, true_implies, false_implies, implies_true, not_true_eq_false, not_false_eq_true, true_or, or_true]
  refine ⟨⟨by omega, by omega⟩, fun e => ?_, fun e => ?_⟩
  · rw [if_pos e] at hq
    rw [x3_24]; exact hq _ hD0 hf0
  · rw [if_neg e] at hq
    rw [x3_26]
    refine rdl (σ0 := σ) h (f := 4 + 4 * f) (by omega) 80 0 0 [] _ _ (by omega) hf0 ?_ ?_ hD0 (by omega) (by omega) (by simp) hq
    · rw [gI_rne (by decide), gI_rne (by decide), gI_rne (by decide), gI_sI, if_neg (by omega), gI_sI, if_pos ⟨rfl, rfl⟩]
    · rw [gI_rne (by decide), gI_rne (by decide), gI_rne (by decide), gI_sI, if_pos ⟨rfl, rfl⟩]
end TX3

