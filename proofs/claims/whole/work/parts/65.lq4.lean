/-! the law's questions: unification -/
section LQ4
variable {t : Nat} {σ : St} {Q : Res → St → Prop} {P : Pg} {xs : List Int} {lim : Int}
/-- what a fresh law's unification says -/
theorem UQ (h : FQ P lim xs σ) : ∃ (N : Int) (tm : Int → Tm) (ρ : Int → Int) (u : Nat), (28 ≤ N ∧ N ≤ 96) ∧ (LU σ N tm (EQs P (tot P)) ∧ (FO N (gI σ 66) ρ u ∧ ((∀ k, 0 ≤ k → k < N → inR (ρ k)) ∧ ((∀ k q, 0 ≤ k → k < N → 0 ≤ q → q < N → (ρ k = ρ q ↔ ugE P (tm k) (tm q))) ∧ ∀ k, 0 ≤ k → k < 28 → tm k = (k, 0))))) := by
  obtain ⟨N, tm, hLU, hN⟩ := h.2.2.2.2.2.2.2
  obtain ⟨ρ, u, h1, h2, h3⟩ := hLU.1
  refine ⟨N, tm, ρ, u, ⟨hLU.2.2.1, hN⟩, hLU, h2, fun k k0 k1 => ?_, fun k q k0 k1 q0 q1 => US_iff h1 k0 k1 q0 q1, hLU.2.2.2⟩
  have := (h1.1 k k0 k1).1.1
  exact ⟨by omega, by omega⟩
theorem ut1 {N : Int} {ρ : Int → Int} {u : Nat} (hN : 28 ≤ N ∧ N ≤ 96) (hF : FO N (gI σ 66) ρ u) (hr : ∀ k, 0 ≤ k → k < N → inR (ρ k)) {w : Int} (hw : inR w) {E : Int → Prop} (hE : ∀ k, 0 ≤ k → k < 28 → (ρ k = w ↔ E k))
    (hq : ∀ a1 a4 a5, wp t 248 53 [some (vR 53), a1, some (vI w), some (vL (wS (fun t => t < 20 ∧ E t))), a4, a5] [] σ Q) :
    ∀ (d : Nat) (i : Int) (a1 a4 : Option AV), 0 ≤ i → i + d = 20 → wp t 248 19 [some (vR 53), a1, some (vI w), some (vL (wS (fun t => t < i ∧ E t))), a4, some (vI i)] [] σ Q
  | 0, i, a1, a4, i0, hd => by
    have e : i = 20 := by omega
    subst e
    rw [x248_19]
    exact ⟨⟨by omega, by omega⟩, fun a => by omega, fun _ => hq _ _ _⟩
  | d + 1, i, a1, a4, i0, hd => by
    have ih := fun a1 a4 => ut1 hN hF hr hw hE hq d (i + 1) a1 a4 (by omega) (by omega)
    rw [x248_19]
    refine ⟨⟨by omega, by omega⟩, fun _ => ?_, fun a => by omega⟩
    simp only [x248_26, e242 (show N ≤ 120 by omega) hF i0 (show i < N by omega), x248_33, aft_l, aft_r, optL_s, optL_n, xgo_n, xgo_s, List.cons_append, List.nil_append, List.append_nil, true_and, and_true, Nat.sub_zero, Nat.zero_le, true_implies, false_implies, implies_true, not_true_eq_false, not_false_eq_true, true_or, or_true]
    refine ⟨⟨hr i i0 (by omega), hw⟩, fun a => ?_, fun a => ?_⟩
    · have a := (hE i i0 (by omega)).mp a
      simp only [x248_37, x248_45, aft_l, aft_r, optL_s, optL_n, xgo_n, xgo_s, List.cons_append, List.nil_append, List.append_nil, true_and, and_true, Nat.sub_zero, Nat.zero_le, true_implies, false_implies, implies_true, not_true_eq_false, not_false_eq_true, true_or, or_true]
      rw [wS_of (SW_one i0 (show i < 64 by omega)), wS_or, show wS (fun t => (t < i ∧ E t) ∨ t = i) = wS (fun t => t < i + 1 ∧ E t) from wS_congr (fun s hs => ⟨fun k => by
        rcases k with k | k
        · exact ⟨by omega, k.2⟩
        · rw [k]; exact ⟨by omega, a⟩, fun k => by
        by_cases z : (s : Int) = i
        · exact Or.inr z
        · exact Or.inl ⟨by omega, k.2⟩⟩)]
      exact ih _ _
    · have a : ¬ E i := fun k => a ((hE i i0 (by omega)).mpr k)
      have e0 : BitVec.ofNat 64 0 = wS (fun _ => False) := wS_of SW_0
      simp only [x248_44, x248_45, aft_l, aft_r, optL_s, optL_n, xgo_n, xgo_s, List.cons_append, List.nil_append, List.append_nil, true_and, and_true, Nat.sub_zero, Nat.zero_le, true_implies, false_implies, implies_true, not_true_eq_false, not_false_eq_true, true_or, or_true]
      rw [e0, wS_or, show wS (fun t => (t < i ∧ E t) ∨ False) = wS (fun t => t < i + 1 ∧ E t) from wS_congr (fun s hs => ⟨fun k => by
        have k := k.resolve_right (fun k => k)
        exact ⟨by omega, k.2⟩, fun k => by
        by_cases z : (s : Int) = i
        · rw [z] at k; exact absurd k.2 a
        · exact Or.inl ⟨by omega, k.2⟩⟩)]
      exact ih _ _
theorem ut2 (hLP : LPr σ P) (hP : okP P) {N : Int} {ρ : Int → Int} {u : Nat} (hN : 28 ≤ N ∧ N ≤ 96) (hF : FO N (gI σ 66) ρ u) (hr : ∀ k, 0 ≤ k → k < N → inR (ρ k)) {w : Int} (hw : inR w) {A E : Int → Prop} (hE : ∀ k, 0 ≤ k → k < 28 → (ρ k = w ↔ E k))
    (hq : Q (.inl (some (vL (wS (fun t => A t ∨ ∃ s, 0 ≤ s ∧ (s < mny P 4 (-1) ∧ ((20 + 3 * s ≤ t ∧ t < 23 + 3 * s) ∧ E (20 + s)))))))) σ) :
    ∀ (d : Nat) (i : Int) (a1 a4 : Option AV), 0 ≤ i → i + d = mny P 4 (-1) → wp t 248 56 [some (vR 53), a1, some (vI w), some (vL (wS (fun t => A t ∨ ∃ s, 0 ≤ s ∧ (s < i ∧ ((20 + 3 * s ≤ t ∧ t < 23 + 3 * s) ∧ E (20 + s)))))), a4, some (vI i)] [] σ Q
  | 0, i, a1, a4, i0, hd => by
    have hm := m8_rng hP
    have e : i = mny P 4 (-1) := by omega
    simp only [x248_56, e203 hLP hP, x248_62, aft_l, aft_r, optL_s, optL_n, xgo_n, xgo_s, List.cons_append, List.nil_append, List.append_nil, true_and, and_true, Nat.sub_zero, Nat.zero_le, true_implies, false_implies, implies_true, not_true_eq_false, not_false_eq_true, true_or, or_true]
    refine ⟨⟨⟨by omega, by omega⟩, ⟨by omega, by omega⟩⟩, fun a => by omega, fun _ => ?_⟩
    rw [x248_102, e]; exact hq
  | d + 1, i, a1, a4, i0, hd => by
    have hm := m8_rng hP
    have ih := fun a1 a4 => ut2 hLP hP hN hF hr hw hE hq d (i + 1) a1 a4 (by omega) (by omega)
    simp only [x248_56, e203 hLP hP, x248_62, aft_l, aft_r, optL_s, optL_n, xgo_n, xgo_s, List.cons_append, List.nil_append, List.append_nil, true_and, and_true, Nat.sub_zero, Nat.zero_le, true_implies, false_implies, implies_true, not_true_eq_false, not_false_eq_true, true_or, or_true]
    refine ⟨⟨⟨by omega, by omega⟩, ⟨by omega, by omega⟩⟩, fun _ => ?_, fun a => by omega⟩
    simp only [x248_65, e242 (show N ≤ 120 by omega) hF (show 0 ≤ 20 + i by omega) (show 20 + i < N by omega), x248_75, aft_l, aft_r, optL_s, optL_n, xgo_n, xgo_s, List.cons_append, List.nil_append, List.append_nil, true_and, and_true, Nat.sub_zero, Nat.zero_le, true_implies, false_implies, implies_true, not_true_eq_false, not_false_eq_true, true_or, or_true]
    refine ⟨⟨hr _ (by omega) (by omega), hw⟩, fun a => ?_, fun a => ?_⟩
    · have a := (hE (20 + i) (by omega) (by omega)).mp a
      simp only [x248_79, x248_94, aft_l, aft_r, optL_s, optL_n, xgo_n, xgo_s, List.cons_append, List.nil_append, List.append_nil, true_and, and_true, Nat.sub_zero, Nat.zero_le, true_implies, false_implies, implies_true, not_true_eq_false, not_false_eq_true, true_or, or_true]
      rw [wS_of (SW_seven (show 0 ≤ 20 + 3 * i by omega) (show 20 + 3 * i ≤ 61 by omega)), wS_or]
      rw [show wS (fun t => (A t ∨ ∃ s, 0 ≤ s ∧ (s < i ∧ ((20 + 3 * s ≤ t ∧ t < 23 + 3 * s) ∧ E (20 + s)))) ∨ (20 + 3 * i ≤ t ∧ t < 20 + 3 * i + 3)) = wS (fun t => A t ∨ ∃ s, 0 ≤ s ∧ (s < i + 1 ∧ ((20 + 3 * s ≤ t ∧ t < 23 + 3 * s) ∧ E (20 + s)))) from wS_congr (fun b hb => ⟨fun k => by
        rcases k with (k | ⟨s, k0, k1, k2⟩) | k
        · exact Or.inl k
        · exact Or.inr ⟨s, k0, by omega, k2⟩
        · exact Or.inr ⟨i, i0, by omega, by omega, a⟩, fun k => by
        rcases k with k | ⟨s, k0, k1, k2, k3⟩
        · exact Or.inl (Or.inl k)
        · by_cases z : s = i
          · exact Or.inr (by omega)
          · exact Or.inl (Or.inr ⟨s, k0, by omega, k2, k3⟩)⟩)]
      exact ih _ _
    · have a : ¬ E (20 + i) := fun k => a ((hE (20 + i) (by omega) (by omega)).mpr k)
      have e0 : BitVec.ofNat 64 0 = wS (fun _ => False) := wS_of SW_0
      simp only [x248_93, x248_94, aft_l, aft_r, optL_s, optL_n, xgo_n, xgo_s, List.cons_append, List.nil_append, List.append_nil, true_and, and_true, Nat.sub_zero, Nat.zero_le, true_implies, false_implies, implies_true, not_true_eq_false, not_false_eq_true, true_or, or_true]
      rw [e0, wS_or]
      rw [show wS (fun t => (A t ∨ ∃ s, 0 ≤ s ∧ (s < i ∧ ((20 + 3 * s ≤ t ∧ t < 23 + 3 * s) ∧ E (20 + s)))) ∨ False) = wS (fun t => A t ∨ ∃ s, 0 ≤ s ∧ (s < i + 1 ∧ ((20 + 3 * s ≤ t ∧ t < 23 + 3 * s) ∧ E (20 + s)))) from wS_congr (fun b hb => ⟨fun k => by
        rcases k with (k | ⟨s, k0, k1, k2⟩) | k
        · exact Or.inl k
        · exact Or.inr ⟨s, k0, by omega, k2⟩
        · exact k.elim, fun k => by
        rcases k with k | ⟨s, k0, k1, k2, k3⟩
        · exact Or.inl (Or.inl k)
        · by_cases z : s = i
          · rw [z] at k3; exact absurd k3 a
          · exact Or.inl (Or.inr ⟨s, k0, by omega, k2, k3⟩)⟩)]
      exact ih _ _
theorem ut0 (hP : okP P) (h : FQ P lim xs σ) {v : Int} (v0 : 0 ≤ v) (v1 : v < 20) {a2 a3 a4 a5 : Option AV} (hq : Q (.inl (some (vL (wS (ugT P (mny P 4 (-1)) v))))) σ) : wp t 248 4 [some (vR 53), some (vI v), a2, a3, a4, a5] [] σ Q := by
  obtain ⟨N, tm, ρ, u, hN, hLU, hF, hr, hE, htm⟩ := UQ h
  have hm := m8_rng hP
  rw [x248_4]
  refine pV hLU (by omega) v0 (by omega) (fun q q0 q1 hc => ?_)
  have hE2 : ∀ k, 0 ≤ k → k < 28 → (ρ k = ρ q ↔ ugE P (v, 1) (k, 0)) := fun k k0 k1 => by
    rw [hE k q k0 (by omega) q0 q1, htm k k0 k1]
    exact ⟨fun g => cg_symm (cg_trans g hc), fun g => cg_trans (cg_symm g) (cg_symm hc)⟩
  simp only [x248_10, e242 (show N ≤ 120 by omega) hF q0 q1, x248_13, aft_l, aft_r, optL_s, optL_n, xgo_n, xgo_s, List.cons_append, List.nil_append, List.append_nil, true_and, and_true, Nat.sub_zero, Nat.zero_le, true_implies, false_implies, implies_true, not_true_eq_false, not_false_eq_true, true_or, or_true]
  have z0 : BitVec.ofNat 64 0 = wS (fun t => t < 0 ∧ ugE P (v, 1) (t, 0)) := ((wS_z _).mpr (fun t ht k => by omega)).symm
  rw [z0]
  refine ut1 hN hF hr (hr q q0 q1) hE2 (fun b1 b4 b5 => ?_) 20 0 _ _ (by omega) (by omega)
  simp only [x248_53, aft_l, aft_r, optL_s, optL_n, xgo_n, xgo_s, List.cons_append, List.nil_append, List.append_nil, true_and, and_true, Nat.sub_zero, Nat.zero_le, true_implies, false_implies, implies_true, not_true_eq_false, not_false_eq_true, true_or, or_true]
  have e1 : wS (fun t => t < 20 ∧ ugE P (v, 1) (t, 0)) = wS (fun t => (t < 20 ∧ ugE P (v, 1) (t, 0)) ∨ ∃ s, 0 ≤ s ∧ (s < 0 ∧ ((20 + 3 * s ≤ t ∧ t < 23 + 3 * s) ∧ ugE P (v, 1) (20 + s, 0)))) := wS_congr (fun t ht => ⟨Or.inl, fun k => k.resolve_right (fun ⟨s, k0, k1, _⟩ => by omega)⟩)
  rw [e1]
  exact ut2 (E := fun k => ugE P (v, 1) (k, 0)) (A := fun t => t < 20 ∧ ugE P (v, 1) (t, 0)) h.1 hP hN hF hr (hr q q0 q1) hE2 hq (mny P 4 (-1)).toNat 0 _ _ (by omega) (by omega)
theorem e248 (hP : okP P) (hl : 0 ≤ lim ∧ lim ≤ 2) (h : FQ P lim xs σ) {v : Int} (v0 : 0 ≤ v) (v1 : v < 20) : Call t 248 [vR 53, vI v] σ Q ↔ Q (.inl (some (vL (wS (ugT P (mny P 4 (-1)) v))))) σ := Call_iff (fun Q hq => by
  simp only [x248_0, e219 hP hl h, aft_l, aft_r, optL_s, optL_n, xgo_n, xgo_s, List.cons_append, List.nil_append, List.append_nil, true_and, and_true, Nat.sub_zero, Nat.zero_le, true_implies, false_implies, implies_true, not_true_eq_false, not_false_eq_true, true_or, or_true]
  exact ut0 hP h v0 v1 hq)
theorem c248 (hP : okP P) (hl : 0 ≤ lim ∧ lim ≤ 2) (hC : isC P lim xs) (h : LQ P lim xs σ) {v : Int} (v0 : 0 ≤ v) (v1 : v < 20) (hq : ∀ σ', FQ P lim xs σ' → fr vM σ σ' → Q (.inl (some (vL (wS (ugT P (mny P 4 (-1)) v))))) σ') : Call t 248 [vR 53, vI v] σ Q := by
  rw [x248_0]
  refine c219q hP hl hC h (fun σ1 g1 g2 => ?_)
  simp only [aft_l, aft_r, optL_s, optL_n, xgo_n, xgo_s, List.cons_append, List.nil_append, List.append_nil, true_and, and_true, Nat.sub_zero, Nat.zero_le, true_implies, false_implies, implies_true, not_true_eq_false, not_false_eq_true, true_or, or_true]
  exact ut0 hP g1 v0 v1 (hq σ1 g1 g2)
/-- unifiedTargets -/
theorem c249 (hP : okP P) (hl : 0 ≤ lim ∧ lim ≤ 2) (hC : isC P lim xs) (h : LQ P lim xs σ) {v : Int} (hv : inR v) (h0 : ¬ (0 ≤ v ∧ v < 20) → Q (.inl (some (vL (BitVec.ofInt 64 0)))) (sI σ 53 0 1))
    (h1 : (0 ≤ v ∧ v < 20) → ∀ σ', FQ P lim xs σ' → gI σ' 53 0 = 0 → fr qM σ σ' → Q (.inl (some (vL (wS (ugT P (mny P 4 (-1)) v))))) σ') : Call t 249 [vR 53, vI v] σ Q := by
  simp only [x249_0, x249_4, e180 hv, eq_true (b2i_in _), b2i_0, aft_l, aft_r, optL_s, optL_n, xgo_n, xgo_s, List.cons_append, List.nil_append, List.append_nil, true_and, and_true, Nat.sub_zero, Nat.zero_le, true_implies, false_implies, implies_true, not_true_eq_false, not_false_eq_true, true_or, or_true]
  by_cases q : 0 ≤ v ∧ v < 20
  · rw [dcl_t q]
    refine ⟨fun a => (by cases a), fun _ => ?_⟩
    rw [x249_14]
    refine c248 hP hl hC (LQ_fr h q0 qK0) q.1 q.2 (fun σ1 g1 g2 => ?_)
    simp only [x249_24, aft_l, aft_r, optL_s, optL_n, xgo_n, xgo_s, List.cons_append, List.nil_append, List.append_nil, true_and, and_true, Nat.sub_zero, Nat.zero_le, true_implies, false_implies, implies_true, not_true_eq_false, not_false_eq_true, true_or, or_true]
    exact h1 q σ1 g1 (frq0 g2).1 (frq0 g2).2
  · rw [dcl_f q]
    refine ⟨fun _ => ?_, fun a => absurd rfl a⟩
    simp only [x249_7, x249_12, e175, (show inR (0 : Int) = True from eq_true ⟨by decide, by decide⟩), aft_l, aft_r, optL_s, optL_n, xgo_n, xgo_s, List.cons_append, List.nil_append, List.append_nil, true_and, and_true, Nat.sub_zero, Nat.zero_le, true_implies, false_implies, implies_true, not_true_eq_false, not_false_eq_true, true_or, or_true]
    exact h0 q
/-- areUnified -/
theorem c250 (hP : okP P) (hl : 0 ≤ lim ∧ lim ≤ 2) (hC : isC P lim xs) (h : LQ P lim xs σ) {v w : Int} (hv : inR v) (hw : inR w) (h0 : ¬ ((0 ≤ v ∧ v < 20) ∧ (0 ≤ w ∧ w < 20)) → Q (.inl (some (vI 0))) (sI σ 53 0 1))
    (h1 : (0 ≤ v ∧ v < 20) → (0 ≤ w ∧ w < 20) → ∀ σ', FQ P lim xs σ' → gI σ' 53 0 = 0 → fr qM σ σ' → Q (.inl (some (vI (b2i (dcl (ugE P (v, 0) (w, 0))))))) σ') : Call t 250 [vR 53, vI v, vI w] σ Q := by
  simp only [x250_0, x250_4, x250_7, x250_11, e180 hv, e180 hw, eq_true (b2i_in _), b2i_0, aft_l, aft_r, optL_s, optL_n, xgo_n, xgo_s, List.cons_append, List.nil_append, List.append_nil, true_and, and_true, Nat.sub_zero, Nat.zero_le, true_implies, false_implies, implies_true, not_true_eq_false, not_false_eq_true, true_or, or_true]
  have bad : ¬ ((0 ≤ v ∧ v < 20) ∧ (0 ≤ w ∧ w < 20)) → ∀ a1 a2, wp t 250 14 [some (vR 53), a1, a2] [] σ Q := fun hn a1 a2 => by
    simp only [x250_14, x250_19, e176, aft_l, aft_r, optL_s, optL_n, xgo_n, xgo_s, List.cons_append, List.nil_append, List.append_nil, true_and, and_true, Nat.sub_zero, Nat.zero_le, true_implies, false_implies, implies_true, not_true_eq_false, not_false_eq_true, true_or, or_true]
    exact h0 hn
  by_cases q : 0 ≤ v ∧ v < 20
  · by_cases p : 0 ≤ w ∧ w < 20
    · rw [dcl_t q, dcl_t p]
      refine ⟨fun a => (by cases a), fun _ => ⟨fun a => (by cases a), fun _ => ?_⟩⟩
      rw [x250_20]
      refine c219q hP hl hC (LQ_fr h q0 qK0) (fun σ1 g1 g2 => ?_)
      have fin := h1 q p σ1 g1 (frq0 g2).1 (frq0 g2).2
      obtain ⟨N, tm, ρ, u, hN, hLU, hF, hr, hE, htm⟩ := UQ g1
      have hE := hE v w q.1 (by omega) p.1 (by omega)
      rw [htm v q.1 (by omega), htm w p.1 (by omega)] at hE
      simp only [x250_29, e242 (show N ≤ 120 by omega) hF q.1 (show v < N by omega), x250_34, e242 (show N ≤ 120 by omega) hF p.1 (show w < N by omega), x250_39, hE, aft_l, aft_r, optL_s, optL_n, xgo_n, xgo_s, List.cons_append, List.nil_append, List.append_nil, true_and, and_true, Nat.sub_zero, Nat.zero_le, true_implies, false_implies, implies_true, not_true_eq_false, not_false_eq_true, true_or, or_true]
      refine ⟨⟨hr _ q.1 (by omega), hr _ p.1 (by omega)⟩, fun a => ?_, fun a => ?_⟩
      · rw [dcl_t a, b2i_t] at fin
        rw [x250_42, x250_47]; exact ⟨Or.inr rfl, fin⟩
      · rw [dcl_f a, b2i_f] at fin
        rw [x250_46, x250_47]; exact ⟨Or.inl rfl, fin⟩
    · rw [dcl_t q, dcl_f p]
      refine ⟨fun a => (by cases a), fun _ => ⟨fun _ => bad (fun z => p z.2) _ _, fun a => absurd rfl a⟩⟩
  · rw [dcl_f q]
    refine ⟨fun _ => bad (fun z => q z.1) _ _, fun a => absurd rfl a⟩
theorem uc2 {N : Int} {ρ : Int → Int} {u : Nat} (hN : 28 ≤ N ∧ N ≤ 96) (hF : FO N (gI σ 66) ρ u) (hr : ∀ k, 0 ≤ k → k < N → inR (ρ k)) {i c : Int} (hi : 0 ≤ i ∧ i < 28) {E : Int → Prop} (hE : ∀ k, 0 ≤ k → k < 28 → (ρ k = ρ i ↔ E k))
    (hq : ∀ a4, wp t 251 65 [some (vR 53), some (vI c), some (vI i), some (vI (b2i (dcl (∀ e, 0 ≤ e → e < i → ¬ E e)))), a4] [] σ Q) :
    ∀ (d : Nat) (j : Int), 0 ≤ j → j + d = i → wp t 251 29 [some (vR 53), some (vI c), some (vI i), some (vI (b2i (dcl (∀ e, 0 ≤ e → e < j → ¬ E e)))), some (vI j)] [] σ Q
  | 0, j, j0, hd => by
    have e : j = i := by omega
    subst e
    rw [x251_29]
    exact ⟨⟨⟨by omega, by omega⟩, ⟨by omega, by omega⟩⟩, fun a => by omega, fun _ => hq _⟩
  | d + 1, j, j0, hd => by
    have ih := uc2 hN hF hr hi hE hq d (j + 1) (by omega) (by omega)
    rw [x251_29]
    refine ⟨⟨⟨by omega, by omega⟩, ⟨by omega, by omega⟩⟩, fun _ => ?_, fun a => by omega⟩
    rw [x251_35, b2i_0]
    refine ⟨b2i_in _, fun a => ?_, fun a => ?_⟩
    · rw [x251_57, x251_58]
      have : ¬ ∀ e, 0 ≤ e → e < j + 1 → ¬ E e := fun k => by
        rw [dcl_t (fun e e0 e1 => k e e0 (by omega))] at a; cases a
      rw [dcl_f this, b2i_f] at ih
      exact ih
    · have a : ∀ e, 0 ≤ e → e < j → ¬ E e := Classical.byContradiction (fun k => a (dcl_f k))
      simp only [x251_39, e242 (show N ≤ 120 by omega) hF j0 (show j < N by omega), x251_45, e242 (show N ≤ 120 by omega) hF hi.1 (show i < N by omega), x251_50, hE j j0 (show j < 28 by omega), aft_l, aft_r, optL_s, optL_n, xgo_n, xgo_s, List.cons_append, List.nil_append, List.append_nil, true_and, and_true, Nat.sub_zero, Nat.zero_le, true_implies, false_implies, implies_true, not_true_eq_false, not_false_eq_true, true_or, or_true]
      refine ⟨⟨hr j j0 (by omega), hr i hi.1 (by omega)⟩, fun b => ?_, fun b => ?_⟩
      · rw [x251_57, x251_58]
        rw [dcl_f (fun k => k j j0 (by omega) b), b2i_f] at ih
        exact ih
      · rw [x251_53, x251_58]
        rw [dcl_t (fun e e0 e1 k => by
          by_cases z : e = j
          · rw [z] at k; exact b k
          · exact a e e0 (by omega) k), b2i_t] at ih
        exact ih
theorem uc1 (hP : okP P) (h : FQ P lim xs σ) (hq : Q (.inl (some (vI (cn (fun t => dcl (ugF P t)) (20 + mny P 4 (-1)).toNat)))) σ) :
    ∀ (d : Nat) (i : Nat) (a3 a4 : Option AV), (i : Int) + d = 20 + mny P 4 (-1) → wp t 251 13 [some (vR 53), some (vI (cn (fun t => dcl (ugF P t)) i)), some (vI i), a3, a4] [] σ Q
  | 0, i, a3, a4, hd => by
    have hm := m8_rng hP
    simp only [x251_13, e203 h.1 hP, x251_20, aft_l, aft_r, optL_s, optL_n, xgo_n, xgo_s, List.cons_append, List.nil_append, List.append_nil, true_and, and_true, Nat.sub_zero, Nat.zero_le, true_implies, false_implies, implies_true, not_true_eq_false, not_false_eq_true, true_or, or_true]
    refine ⟨⟨⟨by omega, by omega⟩, ⟨by omega, by omega⟩⟩, fun a => by omega, fun _ => ?_⟩
    rw [x251_83]
    rw [show (20 + mny P 4 (-1)).toNat = i by omega] at hq
    exact hq
  | d + 1, i, a3, a4, hd => by
    have hm := m8_rng hP
    have ih := fun a3 a4 => uc1 hP h hq d (i + 1) a3 a4 (by omega)
    simp only [cn_succ] at ih
    obtain ⟨N, tm, ρ, u, hN, hLU, hF, hr, hE, htm⟩ := UQ h
    simp only [x251_13, e203 h.1 hP, x251_20, aft_l, aft_r, optL_s, optL_n, xgo_n, xgo_s, List.cons_append, List.nil_append, List.append_nil, true_and, and_true, Nat.sub_zero, Nat.zero_le, true_implies, false_implies, implies_true, not_true_eq_false, not_false_eq_true, true_or, or_true]
    refine ⟨⟨⟨by omega, by omega⟩, ⟨by omega, by omega⟩⟩, fun _ => ?_, fun a => by omega⟩
    rw [x251_24]
    have key := uc2 (t := t) (Q := Q) (c := cn (fun t => dcl (ugF P t)) i) (i := i) (E := fun k => ugE P (k, 0) (i, 0)) hN hF hr (by omega) (fun k k0 k1 => by rw [hE k i k0 (by omega) (by omega) (by omega), htm k k0 k1, htm i (by omega) (by omega)]) (fun a4 => by
      rw [x251_65, b2i_0]
      refine ⟨b2i_in _, fun a => ?_, fun a => ?_⟩
      · rw [x251_74, x251_75]
        have e : (if dcl (ugF P i) = true then (1 : Int) else 0) = 0 := if_neg (by rw [show dcl (ugF P i) = false from a]; decide)
        have ih := ih (some (vI (b2i (dcl (∀ e, 0 ≤ e → e < (i : Int) → ¬ ugE P (e, 0) (i, 0)))))) a4
        rw [e] at ih
        exact ih
      · rw [x251_70, x251_75]
        have e : (if dcl (ugF P i) = true then (1 : Int) else 0) = 1 := if_pos (by
          cases z : dcl (ugF P i) with
          | true => rfl
          | false => exact absurd z a)
        have ih := ih (some (vI (b2i (dcl (∀ e, 0 ≤ e → e < (i : Int) → ¬ ugE P (e, 0) (i, 0)))))) a4
        rw [e] at ih
        exact ih) i 0 (by omega) (by omega)
    rw [dcl_t (p := ∀ e, 0 ≤ e → e < 0 → ¬ ugE P (e, 0) (i, 0)) (fun e e0 e1 => by omega), b2i_t] at key
    exact key
/-- unifiedClasses -/
theorem c251 (hP : okP P) (hl : 0 ≤ lim ∧ lim ≤ 2) (hC : isC P lim xs) (h : LQ P lim xs σ) (hq : ∀ σ', FQ P lim xs σ' → gI σ' 53 0 = 0 → fr qM σ σ' → Q (.inl (some (vI (cn (fun t => dcl (ugF P t)) (20 + mny P 4 (-1)).toNat)))) σ') : Call t 251 [vR 53] σ Q := by
  have hm := m8_rng hP
  rw [x251_0]
  refine c219q hP hl hC (LQ_fr h q0 qK0) (fun σ1 g1 g2 => ?_)
  simp only [x251_9, aft_l, aft_r, optL_s, optL_n, xgo_n, xgo_s, List.cons_append, List.nil_append, List.append_nil, true_and, and_true, Nat.sub_zero, Nat.zero_le, true_implies, false_implies, implies_true, not_true_eq_false, not_false_eq_true, true_or, or_true]
  exact uc1 hP g1 (hq σ1 g1 (frq0 g2).1 (frq0 g2).2) (20 + mny P 4 (-1)).toNat 0 _ _ (by omega)
end LQ4
