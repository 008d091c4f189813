/-! the class's unification: questions -/
noncomputable def dcl (p : Prop) : Bool := @decide p (Classical.propDecidable p)
theorem dcl_t {p : Prop} (h : p) : dcl p = true := @decide_eq_true p (Classical.propDecidable p) h
theorem dcl_f {p : Prop} (h : ¬ p) : dcl p = false := @decide_eq_false p (Classical.propDecidable p) h
theorem dcl_iff {p : Prop} : dcl p = true ↔ p := ⟨fun h => Classical.byContradiction (fun n => by rw [dcl_f n] at h; cases h), dcl_t⟩
theorem seven : ∀ j, j < 64 → (BitVec.ofInt 64 7).getLsbD j = decide (j < 3) := by decide +kernel
theorem SW_seven {z : Int} (h0 : 0 ≤ z) (h1 : z ≤ 61) : SW (BitVec.ofInt 64 7 <<< sh6 z) (fun t => z ≤ t ∧ t < z + 3) := fun t ht => by
  rw [sh6_id h0 (by omega), BitVec.getLsbD_shiftLeft, Bool.and_eq_true, Bool.and_eq_true, decide_eq_true_eq, Bool.not_eq_true', decide_eq_false_iff_not]
  by_cases q : z.toNat ≤ t
  · rw [seven _ (by omega), decide_eq_true_eq]; omega
  · constructor
    · rintro ⟨⟨_, h⟩, _⟩; omega
    · intro h; omega
def ugE (P : Pg) : Tm → Tm → Prop := cg (EQs P (tot P))
/-- what a unified variable's targets are -/
def ugT (P : Pg) (st v t : Int) : Prop := (t < 20 ∧ ugE P (v, 1) (t, 0)) ∨ ∃ s, 0 ≤ s ∧ (s < st ∧ ((20 + 3 * s ≤ t ∧ t < 23 + 3 * s) ∧ ugE P (v, 1) (20 + s, 0)))
def ugF (P : Pg) (t : Int) : Prop := ∀ e, 0 ≤ e → e < t → ¬ ugE P (e, 0) (t, 0)
section CU2
variable {t : Nat} {σ : St} {Q : Res → St → Prop} {P : Pg}
theorem UN_get (h : UNr σ P) : ∃ (ρ : Int → Int) (u : Nat), US 68 ρ (gI σ 43) tmC (EQs P (tot P)) ∧ (FO 68 (gI σ 42) ρ u ∧ u ≤ 68) := by
  obtain ⟨-, ρ, u, h1, h2, h3, h4⟩ := h
  have h3 : (u : Int) + nrt (gI σ 42) 68 ≤ 68 := h3
  have hn : 0 ≤ nrt (gI σ 42) 68 := (cn_rng (fun k => gI σ 42 k == k) 68).1
  exact ⟨ρ, u, h1, h2, by omega⟩
/-- Unification.joins -/
theorem c117 {a b : Int} (h : UNr σ P) (a0 : 0 ≤ a) (a1 : a < 28) (b0 : 0 ≤ b) (b1 : b < 28) (hq : Q (.inl (some (vI (b2i (dcl (ugE P (a, 0) (b, 0))))))) σ) : Call t 117 [vR 41, vI a, vI b] σ Q := by
  obtain ⟨ρ, u, h1, h2, hu⟩ := UN_get h
  have hi := US_iff h1 (a := a) (b := b) a0 (by omega) b0 (by omega)
  rw [tmC0 a1, tmC0 b1] at hi
  have ra := (h1.1 a a0 (by omega)).1.1
  have rb := (h1.1 b b0 (by omega)).1.1
  rw [x117_0]
  refine c116 h2 hu a0 (by omega) ?_
  simp only [x117_5, aft_l, aft_r, optL_s, optL_n, xgo_n, xgo_s, List.cons_append, List.nil_append, List.append_nil, true_and, and_true, Nat.sub_zero, Nat.zero_le, true_implies, false_implies, implies_true, not_true_eq_false, not_false_eq_true, true_or, or_true]
  refine c116 h2 hu b0 (by omega) ?_
  simp only [x117_10, aft_l, aft_r, optL_s, optL_n, xgo_n, xgo_s, List.cons_append, List.nil_append, List.append_nil, true_and, and_true, Nat.sub_zero, Nat.zero_le, true_implies, false_implies, implies_true, not_true_eq_false, not_false_eq_true, true_or, or_true]
  refine ⟨⟨⟨by omega, by omega⟩, ⟨by omega, by omega⟩⟩, fun e => ?_, fun e => ?_⟩
  · rw [x117_13, x117_18]
    rw [dcl_t (p := ugE P (a, 0) (b, 0)) (hi.mp e), b2i_t] at hq
    exact ⟨Or.inr rfl, hq⟩
  · rw [x117_17, x117_18]
    rw [dcl_f (p := ugE P (a, 0) (b, 0)) (fun g => e (hi.mpr g)), b2i_f] at hq
    exact ⟨Or.inl rfl, hq⟩
theorem utl2 {ρ : Int → Int} {u : Nat} {w st : Int} {A : Int → Prop} (hF : FO 68 (gI σ 42) ρ u) (hu : u ≤ 68) (hw : 0 ≤ w ∧ w < 68) (hst : 0 ≤ st ∧ st ≤ 8)
    (hq : ∀ l, SW l (fun t => A t ∨ ∃ s, 0 ≤ s ∧ (s < st ∧ ((20 + 3 * s ≤ t ∧ t < 23 + 3 * s) ∧ ρ (20 + s) = w))) → Q (.inl (some (vL l))) σ) :
    ∀ (d : Nat) (i : Int) (l : BitVec 64) (a1 a5 : Option AV), 0 ≤ i → i + d = st → SW l (fun t => A t ∨ ∃ s, 0 ≤ s ∧ (s < i ∧ ((20 + 3 * s ≤ t ∧ t < 23 + 3 * s) ∧ ρ (20 + s) = w))) → wp t 118 54 [some (vR 41), a1, some (vI st), some (vI w), some (vL l), a5, some (vI i)] [] σ Q
  | 0, i, l, a1, a5, i0, hd, h => by
    have e : i = st := by omega
    rw [x118_54]
    refine ⟨⟨⟨by omega, by omega⟩, ⟨by omega, by omega⟩⟩, fun h => by omega, fun _ => ?_⟩
    rw [x118_93]
    rw [e] at h; exact hq l h
  | d + 1, i, l, a1, a5, i0, hd, h => by
    have hr := (hF (20 + i) (by omega) (by omega)).2.1
    rw [x118_54]
    refine ⟨⟨⟨by omega, by omega⟩, ⟨by omega, by omega⟩⟩, fun _ => ?_, fun h => by omega⟩
    simp only [x118_60, x113_0, x118_68, aft_l, aft_r, optL_s, optL_n, xgo_n, xgo_s, List.cons_append, List.nil_append, List.append_nil, true_and, and_true, Nat.sub_zero, Nat.zero_le, true_implies, false_implies, implies_true, not_true_eq_false, not_false_eq_true, true_or, or_true]
    refine c116 hF hu (by omega) (by omega) ?_
    simp only [x118_71, aft_l, aft_r, optL_s, optL_n, xgo_n, xgo_s, List.cons_append, List.nil_append, List.append_nil, true_and, and_true, Nat.sub_zero, Nat.zero_le, true_implies, false_implies, implies_true, not_true_eq_false, not_false_eq_true, true_or, or_true]
    refine ⟨⟨⟨by omega, by omega⟩, ⟨by omega, by omega⟩⟩, fun e => ?_, fun e => ?_⟩
    · simp only [x118_75, k172, x118_80, x118_84, aft_l, aft_r, optL_s, optL_n, xgo_n, xgo_s, List.cons_append, List.nil_append, List.append_nil, true_and, and_true, Nat.sub_zero, Nat.zero_le, true_implies, false_implies, implies_true, not_true_eq_false, not_false_eq_true, true_or, or_true]
      refine utl2 hF hu hw hst hq d (i + 1) _ _ _ (by omega) (by omega) (SW_congr (SW_or h (SW_seven (z := 20 + 3 * i + 0) (by omega) (by omega))) (fun t ht => ?_))
      constructor
      · rintro ((k | ⟨s, s0, s1, s2, s3⟩) | k)
        · exact Or.inl k
        · exact Or.inr ⟨s, s0, by omega, s2, s3⟩
        · exact Or.inr ⟨i, i0, by omega, by omega, e⟩
      · rintro (k | ⟨s, s0, s1, s2, s3⟩)
        · exact Or.inl (Or.inl k)
        · by_cases q : s = i
          · rw [q] at s2; exact Or.inr (by omega)
          · exact Or.inl (Or.inr ⟨s, s0, by omega, s2, s3⟩)
    · simp only [x118_83, x118_84, aft_l, aft_r, optL_s, optL_n, xgo_n, xgo_s, List.cons_append, List.nil_append, List.append_nil, true_and, and_true, Nat.sub_zero, Nat.zero_le, true_implies, false_implies, implies_true, not_true_eq_false, not_false_eq_true, true_or, or_true]
      refine utl2 hF hu hw hst hq d (i + 1) _ _ _ (by omega) (by omega) (SW_congr (SW_or h SW_0) (fun t ht => ?_))
      constructor
      · rintro ((k | ⟨s, s0, s1, s2, s3⟩) | k)
        · exact Or.inl k
        · exact Or.inr ⟨s, s0, by omega, s2, s3⟩
        · exact k.elim
      · rintro (k | ⟨s, s0, s1, s2, s3⟩)
        · exact Or.inl (Or.inl k)
        · by_cases q : s = i
          · rw [q] at s3; exact absurd s3 e
          · exact Or.inl (Or.inr ⟨s, s0, by omega, s2, s3⟩)
theorem utl1 {ρ : Int → Int} {u : Nat} {w st : Int} (hF : FO 68 (gI σ 42) ρ u) (hu : u ≤ 68) (hw : 0 ≤ w ∧ w < 68) (hst : 0 ≤ st ∧ st ≤ 8)
    (hq : ∀ l, SW l (fun t => (t < 20 ∧ ρ t = w) ∨ ∃ s, 0 ≤ s ∧ (s < st ∧ ((20 + 3 * s ≤ t ∧ t < 23 + 3 * s) ∧ ρ (20 + s) = w))) → Q (.inl (some (vL l))) σ) :
    ∀ (d : Nat) (i : Int) (l : BitVec 64) (a1 a5 : Option AV), 0 ≤ i → i + d = 20 → SW l (fun t => t < i ∧ ρ t = w) → wp t 118 15 [some (vR 41), a1, some (vI st), some (vI w), some (vL l), a5, some (vI i)] [] σ Q
  | 0, i, l, a1, a5, i0, hd, h => by
    have e : i = 20 := by omega
    rw [x118_15]
    refine ⟨⟨by omega, by omega⟩, fun h => by omega, fun _ => ?_⟩
    rw [x118_51]
    rw [e] at h
    refine utl2 hF hu hw hst hq st.toNat 0 l _ _ (by omega) (by omega) (SW_congr h (fun t ht => ⟨Or.inl, fun k => k.resolve_right (fun ⟨s, s0, s1, _⟩ => by omega)⟩))
  | d + 1, i, l, a1, a5, i0, hd, h => by
    have hr := (hF i (by omega) (by omega)).2.1
    rw [x118_15]
    refine ⟨⟨by omega, by omega⟩, fun _ => ?_, fun h => by omega⟩
    rw [x118_22]
    refine c116 hF hu (by omega) (by omega) ?_
    simp only [x118_30, aft_l, aft_r, optL_s, optL_n, xgo_n, xgo_s, List.cons_append, List.nil_append, List.append_nil, true_and, and_true, Nat.sub_zero, Nat.zero_le, true_implies, false_implies, implies_true, not_true_eq_false, not_false_eq_true, true_or, or_true]
    refine ⟨⟨⟨by omega, by omega⟩, ⟨by omega, by omega⟩⟩, fun e => ?_, fun e => ?_⟩
    · simp only [x118_34, x118_42, aft_l, aft_r, optL_s, optL_n, xgo_n, xgo_s, List.cons_append, List.nil_append, List.append_nil, true_and, and_true, Nat.sub_zero, Nat.zero_le, true_implies, false_implies, implies_true, not_true_eq_false, not_false_eq_true, true_or, or_true]
      refine utl1 hF hu hw hst hq d (i + 1) _ _ _ (by omega) (by omega) (SW_congr (SW_or h (SW_one (z := i) (by omega) (by omega))) (fun t ht => ?_))
      constructor
      · rintro (⟨k1, k2⟩ | k)
        · exact ⟨by omega, k2⟩
        · exact ⟨by omega, by rw [k]; exact e⟩
      · rintro ⟨k1, k2⟩
        by_cases q : (t : Int) = i
        · exact Or.inr q
        · exact Or.inl ⟨by omega, k2⟩
    · simp only [x118_41, x118_42, aft_l, aft_r, optL_s, optL_n, xgo_n, xgo_s, List.cons_append, List.nil_append, List.append_nil, true_and, and_true, Nat.sub_zero, Nat.zero_le, true_implies, false_implies, implies_true, not_true_eq_false, not_false_eq_true, true_or, or_true]
      refine utl1 hF hu hw hst hq d (i + 1) _ _ _ (by omega) (by omega) (SW_congr (SW_or h SW_0) (fun t ht => ?_))
      constructor
      · rintro (⟨k1, k2⟩ | k)
        · exact ⟨by omega, k2⟩
        · exact k.elim
      · rintro ⟨k1, k2⟩
        by_cases q : (t : Int) = i
        · rw [q] at k2; exact absurd k2 e
        · exact Or.inl ⟨by omega, k2⟩
/-- Unification.targetsOf -/
theorem c118 {v st : Int} (h : UNr σ P) (v0 : 0 ≤ v) (v1 : v < 20) (hst : 0 ≤ st ∧ st ≤ 8) (hq : ∀ l, SW l (ugT P st v) → Q (.inl (some (vL l))) σ) : Call t 118 [vR 41, vI v, vI st] σ Q := by
  obtain ⟨ρ, u, h1, h2, hu⟩ := UN_get h
  have key : ∀ a, 0 ≤ a → a < 28 → (ρ a = ρ (28 + v) ↔ ugE P (v, 1) (a, 0)) := fun a a0 a1 => by
    have := US_iff h1 (a := 28 + v) (b := a) (by omega) (by omega) a0 (by omega)
    rw [tmC1 v0 v1, tmC0 a1] at this
    exact (eq_comm).trans this
  simp only [x118_0, x111_0, x118_5, aft_l, aft_r, optL_s, optL_n, xgo_n, xgo_s, List.cons_append, List.nil_append, List.append_nil, true_and, and_true, Nat.sub_zero, Nat.zero_le, true_implies, false_implies, implies_true, not_true_eq_false, not_false_eq_true, true_or, or_true]
  refine c116 h2 hu (by omega) (by omega) ?_
  simp only [x118_8, aft_l, aft_r, optL_s, optL_n, xgo_n, xgo_s, List.cons_append, List.nil_append, List.append_nil, true_and, and_true, Nat.sub_zero, Nat.zero_le, true_implies, false_implies, implies_true, not_true_eq_false, not_false_eq_true, true_or, or_true]
  refine utl1 h2 hu (h1.1 (28 + v) (by omega) (by omega)).1.1 hst (fun l hl => hq l (SW_congr hl (fun t ht => ?_))) 20 0 _ _ _ (by omega) (by omega) (SW_congr SW_0 (fun t ht => ⟨fun k => k.elim, fun k => by omega⟩))
  unfold ugT
  constructor
  · rintro (⟨k1, k2⟩ | ⟨s, s0, s1, s2, s3⟩)
    · exact Or.inl ⟨k1, (key t (by omega) (by omega)).mp k2⟩
    · exact Or.inr ⟨s, s0, s1, s2, (key (20 + s) (by omega) (by omega)).mp s3⟩
  · rintro (⟨k1, k2⟩ | ⟨s, s0, s1, s2, s3⟩)
    · exact Or.inl ⟨k1, (key t (by omega) (by omega)).mpr k2⟩
    · exact Or.inr ⟨s, s0, s1, s2, (key (20 + s) (by omega) (by omega)).mpr s3⟩
theorem ifl {v : Int} (h : UNr σ P) (v0 : 0 ≤ v) (v1 : v < 28) (hq : Q (.inl (some (vI (b2i (dcl (ugF P v)))))) σ) : ∀ (d : Nat) (i : Int), 0 ≤ i → i + d = v → (∀ e, 0 ≤ e → e < i → ¬ ugE P (e, 0) (v, 0)) → wp t 120 2 [some (vR 41), some (vI v), some (vI i)] [] σ Q
  | 0, i, i0, hd, hn => by
    have e : i = v := by omega
    rw [x120_2]
    refine ⟨⟨⟨by omega, by omega⟩, ⟨by omega, by omega⟩⟩, fun h => by omega, fun _ => ?_⟩
    rw [x120_24]
    rw [dcl_t (p := ugF P v) (fun a a0 a1 => hn a a0 (by omega)), b2i_t] at hq; exact hq
  | d + 1, i, i0, hd, hn => by
    rw [x120_2]
    refine ⟨⟨⟨by omega, by omega⟩, ⟨by omega, by omega⟩⟩, fun _ => ?_, fun h => by omega⟩
    rw [x120_7]
    refine c117 h i0 (by omega) v0 v1 ?_
    simp only [x120_13, aft_l, aft_r, optL_s, optL_n, xgo_n, xgo_s, List.cons_append, List.nil_append, List.append_nil, true_and, and_true, Nat.sub_zero, Nat.zero_le, true_implies, false_implies, implies_true, not_true_eq_false, not_false_eq_true, true_or, or_true]
    refine ⟨b2i_in _, fun e => ?_, fun e => ?_⟩
    · rw [x120_18]
      rw [b2i_0] at e
      refine ifl h v0 v1 hq d (i + 1) (by omega) (by omega) (fun a a0 a1 => ?_)
      by_cases q : a = i
      · rw [q]; intro k; rw [dcl_t k] at e; cases e
      · exact hn a a0 (by omega)
    · rw [x120_16]
      rw [b2i_0] at e
      rw [dcl_f (p := ugF P v) (fun k => e (dcl_f (k i i0 (by omega)))), b2i_f] at hq; exact hq
/-- Unification.isFirstOfClass -/
theorem c120 {v : Int} (h : UNr σ P) (v0 : 0 ≤ v) (v1 : v < 28) (hq : Q (.inl (some (vI (b2i (dcl (ugF P v)))))) σ) : Call t 120 [vR 41, vI v] σ Q := by
  rw [x120_0]
  exact ifl h v0 v1 hq v.toNat 0 (by omega) (by omega) (fun e e0 e1 => by omega)
theorem cls {st : Int} (h : UNr σ P) (hst : 0 ≤ st ∧ st ≤ 8) (hq : Q (.inl (some (vI (cn (fun t => dcl (ugF P t)) (20 + st).toNat)))) σ) : ∀ (d n : Nat), n + d = (20 + st).toNat → wp t 119 4 [some (vR 41), some (vI st), some (vI (cn (fun t => dcl (ugF P t)) n)), some (vI n)] [] σ Q
  | 0, n, hd => by
    have e : n = (20 + st).toNat := by omega
    simp only [x119_4, x113_0, x119_9, aft_l, aft_r, optL_s, optL_n, xgo_n, xgo_s, List.cons_append, List.nil_append, List.append_nil, true_and, and_true, Nat.sub_zero, Nat.zero_le, true_implies, false_implies, implies_true, not_true_eq_false, not_false_eq_true, true_or, or_true]
    refine ⟨⟨⟨by omega, by omega⟩, ⟨by omega, by omega⟩⟩, fun h => by omega, fun _ => ?_⟩
    rw [x119_34, e]; exact hq
  | d + 1, n, hd => by
    have ih := cls h hst hq d (n + 1) (by omega)
    rw [cn_succ] at ih
    simp only [x119_4, x113_0, x119_9, aft_l, aft_r, optL_s, optL_n, xgo_n, xgo_s, List.cons_append, List.nil_append, List.append_nil, true_and, and_true, Nat.sub_zero, Nat.zero_le, true_implies, false_implies, implies_true, not_true_eq_false, not_false_eq_true, true_or, or_true]
    refine ⟨⟨⟨by omega, by omega⟩, ⟨by omega, by omega⟩⟩, fun _ => ?_, fun h => by omega⟩
    rw [x119_12]
    refine c120 h (by omega) (by omega) ?_
    simp only [x119_18, aft_l, aft_r, optL_s, optL_n, xgo_n, xgo_s, List.cons_append, List.nil_append, List.append_nil, true_and, and_true, Nat.sub_zero, Nat.zero_le, true_implies, false_implies, implies_true, not_true_eq_false, not_false_eq_true, true_or, or_true]
    refine ⟨b2i_in _, fun e => ?_, fun e => ?_⟩
    · rw [b2i_0] at e
      rw [e, if_neg (by decide)] at ih
      rw [x119_25, x119_26]; exact ih
    · rw [b2i_0] at e
      have e2 : dcl (ugF P n) = true := by cases q : dcl (ugF P n) with
        | true => rfl
        | false => exact absurd q e
      rw [e2, if_pos rfl] at ih
      rw [x119_21, x119_26]; exact ih
/-- Unification.classes -/
theorem c119 {st : Int} (h : UNr σ P) (hst : 0 ≤ st ∧ st ≤ 8) (hq : Q (.inl (some (vI (cn (fun t => dcl (ugF P t)) (20 + st).toNat)))) σ) : Call t 119 [vR 41, vI st] σ Q := by
  rw [x119_0]
  exact cls h hst hq (20 + st).toNat 0 (by omega)
end CU2

