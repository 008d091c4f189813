/-! the class's reader -/
def CH (σ : St) (p : Int) : Int := if p < gI σ 1 1 then gI σ 2 p else -1
def dadd (s : St4) (τ : St) : St := sI (sI (sI (wrI τ 4 (gI τ 3 1) (spk s.1 s.2.1 s.2.2.1 s.2.2.2)) 3 1 (gI τ 3 1 + 1)) 3 2 (gI τ 3 2 + (if s.1 = 4 then 1 else 0))) 3 3 (gI τ 3 3 + (if s.1 = 6 then 1 else 0))
def tx1 (σ : St) : Prop := (0 ≤ gI σ 1 1 ∧ gI σ 1 1 ≤ 80) ∧ ∀ i, 0 ≤ i → i < gI σ 1 1 → 33 ≤ gI σ 2 i ∧ gI σ 2 i ≤ 126
theorem txN_CH {σ : St} (h : tx1 σ) : txN (gI σ 1 1) (CH σ) := ⟨h.1, fun p p0 => ⟨fun q => by unfold CH; rw [if_pos q]; exact h.2 p p0 q, fun q => by unfold CH; rw [if_neg (by omega)]⟩⟩
theorem CH_rng {σ : St} (h : tx1 σ) {p : Int} (p0 : 0 ≤ p) : -1 ≤ CH σ p ∧ CH σ p ≤ 126 := by
  have := (txN_CH h).2 p p0
  by_cases q : p < gI σ 1 1
  · have := this.1 q; omega
  · have := this.2 (by omega); omega
section TX
variable {t : Nat} {σ : St} {Q : Res → St → Prop}
theorem g1p {p : Int} : gI (sI σ 1 2 p) 1 2 = p := by rw [gI_sI, if_pos ⟨rfl, rfl⟩]
theorem e13 (h : tx1 σ) {p : Int} (p0 : 0 ≤ p ∧ p ≤ 1000) : Call t 13 [vR 1] (sI σ 1 2 p) Q ↔ Q (.inl (some (vI (CH σ p)))) (sI σ 1 2 p) := Call_iff (fun Q hq => by
  have e1 : gI (sI σ 1 2 p) 1 1 = gI σ 1 1 := by rw [gI_sI, if_neg (by omega)]
  have e2 : gI (sI σ 1 2 p) 2 p = gI σ 2 p := by rw [gI_sI, if_neg (by omega)]
  have hl := h.1
  unfold CH at hq
  rw [x13_0, g1p]
  refine ⟨⟨by omega, by omega⟩, fun a => by omega, fun _ => ?_⟩
  rw [x13_7, e1, g1p]
  refine ⟨⟨⟨by omega, by omega⟩, ⟨by omega, by omega⟩⟩, fun a => ?_, fun a => ?_⟩
  · rw [if_pos a] at hq
    rw [x13_18, g1p]
    refine ⟨⟨by omega, by omega⟩, fun b => ?_, fun b => by omega⟩
    rw [x13_30, x13_35]
    refine ⟨⟨by omega, by omega⟩, fun c => by omega, fun _ => ?_⟩
    rw [x13_40, x13_53, g1p, e2]
    exact ⟨⟨p0.1, b⟩, hq⟩
  · rw [if_neg a] at hq
    rw [x13_34, x13_35]
    refine ⟨⟨by omega, by omega⟩, fun _ => ?_, fun c => absurd rfl c⟩
    rw [x13_52, x13_53]; exact hq)
theorem e9 (h : tx1 σ) {p c : Int} (p0 : 0 ≤ p ∧ p ≤ 1000) : Call t 9 [vR 1, vI c] (sI σ 1 2 p) Q ↔ inR c ∧ ((CH σ p = c → Q (.inl (some (vI 1))) (sI σ 1 2 (p + 1))) ∧ (¬ CH σ p = c → Q (.inl (some (vI 0))) (sI σ 1 2 p))) := by
  have r := CH_rng h p0.1
  have iN : inR (CH σ p) = True := eq_true ⟨by omega, by omega⟩
  simp only [x9_0, e13 h p0, x9_4, x9_8, x9_10, g1p, sI_sI, iN, aft_l, aft_r, optL_s, optL_n, xgo_n, xgo_s, List.cons_append, List.nil_append, List.append_nil, true_and, and_true, Nat.sub_zero, Nat.zero_le, true_implies, false_implies, implies_true, not_true_eq_false, not_false_eq_true, true_or, or_true]
theorem e12 {c : Int} (hc : inR c) : Call t 12 [vR 1, vI c] σ Q ↔ Q (.inl (some (vI (vn c (gI σ 1 3))))) σ := Call_iff (fun Q hq => by
  have ts : ¬ (97 ≤ c ∧ c ≤ 100) → wp t 12 17 [some (vR 1), some (vI c)] [] σ Q := fun a => by
    unfold vn at hq
    rw [if_neg a] at hq
    rw [x12_17]
    refine ⟨hc, fun b => ?_, fun b => ?_⟩
    · rcases (show c = 112 ∨ c = 113 ∨ c = 114 ∨ c = 115 ∨ c = 116 ∨ c = 117 ∨ c = 118 ∨ c = 119 ∨ c = 120 ∨ c = 121 by omega) with e | e | e | e | e | e | e | e | e | e
      · subst e; show wp t 12 72 _ _ _ _; rw [x12_72]; exact hq
      · subst e; show wp t 12 98 _ _ _ _; rw [x12_98]; exact hq
      · subst e; show wp t 12 77 _ _ _ _; rw [x12_77]; exact hq
      · subst e; show wp t 12 98 _ _ _ _; rw [x12_98]; exact hq
      · subst e; show wp t 12 98 _ _ _ _; rw [x12_98]; exact hq
      · subst e; show wp t 12 98 _ _ _ _; rw [x12_98]; exact hq
      · subst e; show wp t 12 98 _ _ _ _; rw [x12_98]; exact hq
      · subst e; show wp t 12 98 _ _ _ _; rw [x12_98]; exact hq
      · subst e; show wp t 12 84 _ _ _ _; rw [x12_84]; exact hq
      · subst e; show wp t 12 91 _ _ _ _; rw [x12_91]; exact hq
    · rw [if_neg (by omega), if_neg (by omega), if_neg (by omega), if_neg (by omega)] at hq
      rw [x12_98]; exact hq
  rw [x12_0]
  refine ⟨hc, fun a => ts (by omega), fun a => ?_⟩
  rw [x12_6]
  refine ⟨hc, fun b => ts (by omega), fun b => ?_⟩
  unfold vn at hq
  rw [if_pos ⟨by omega, by omega⟩] at hq
  rw [x12_12]; exact hq)
theorem e11 (h : tx1 σ) (hf : 4 ≤ gI σ 1 3 ∧ gI σ 1 3 ≤ 16) {p : Int} (p0 : 0 ≤ p ∧ p ≤ 1000) : Call t 11 [vR 1] (sI σ 1 2 p) Q ↔ ((vn (CH σ p) (gI σ 1 3) < 0 → Q (.inl (some (vI (-1)))) (sI σ 1 2 p)) ∧ (¬ vn (CH σ p) (gI σ 1 3) < 0 → Q (.inl (some (vI (vn (CH σ p) (gI σ 1 3))))) (sI σ 1 2 (p + 1)))) := by
  have r := CH_rng h p0.1
  have rv := vn_rng (c := CH σ p) hf
  have e3 : ∀ q, gI (sI σ 1 2 q) 1 3 = gI σ 1 3 := fun q => by rw [gI_sI, if_neg (by omega)]
  have iN : inR (vn (CH σ p) (gI σ 1 3)) = True := eq_true ⟨by omega, by omega⟩
  simp only [x11_0, e13 h p0, x11_5, e12 (show inR (CH σ p) from ⟨by omega, by omega⟩), e3, x11_8, x11_13, x11_23, g1p, sI_sI, iN, aft_l, aft_r, optL_s, optL_n, xgo_n, xgo_s, List.cons_append, List.nil_append, List.append_nil, true_and, and_true, Nat.sub_zero, Nat.zero_le, true_implies, false_implies, implies_true, not_true_eq_false, not_false_eq_true, true_or, or_true]
  by_cases q : vn (CH σ p) (gI σ 1 3) < 0
  · have e : vn (CH σ p) (gI σ 1 3) = -1 := by omega
    rw [e]
  · simp only [q, false_implies, true_and]
theorem e10 (h : tx1 σ) {p g : Int} (p0 : 0 ≤ p ∧ p ≤ 1000) (hg : 0 ≤ g ∧ g ≤ 9) : Call t 10 [vR 1, vI g] (sI σ 1 2 p) Q ↔ ((48 ≤ CH σ p ∧ CH σ p ≤ 48 + g → Q (.inl (some (vI (CH σ p - 48)))) (sI σ 1 2 (p + 1))) ∧ (¬ (48 ≤ CH σ p ∧ CH σ p ≤ 48 + g) → Q (.inl (some (vI (-1)))) (sI σ 1 2 p))) := by
  have r := CH_rng h p0.1
  have i1 : inR (CH σ p - 48) = True := eq_true ⟨by omega, by omega⟩
  have i2 : inR g = True := eq_true ⟨by omega, by omega⟩
  simp only [x10_0, e13 h p0, x10_4, x10_12, x10_17, x10_19, g1p, sI_sI, i1, i2, aft_l, aft_r, optL_s, optL_n, xgo_n, xgo_s, List.cons_append, List.nil_append, List.append_nil, true_and, and_true, Nat.sub_zero, Nat.zero_le, true_implies, false_implies, implies_true, not_true_eq_false, not_false_eq_true, true_or, or_true]
  constructor
  · rintro ⟨h1, h2⟩
    refine ⟨fun a => (h2 (by omega)).2 (by omega), fun a => ?_⟩
    by_cases b : CH σ p - 48 < 0
    · exact h1 b
    · exact (h2 b).1 (by omega)
  · rintro ⟨h1, h2⟩
    exact ⟨fun a => h2 (by omega), fun a => ⟨fun b => h2 (by omega), fun b => h1 (by omega)⟩⟩
theorem e31 {k v w n : Int} {τ : St} (ho : ok4 (k, v, w, n)) (hs : inR (gI τ 3 1)) : Call t 31 [vR 3, vI k, vI v, vI w, vI n] τ Q ↔ Q (.inl (some (vI 1))) (dadd (k, v, w, n) τ) := Call_iff (fun Q hq => by
  obtain ⟨⟨hk0, hk1⟩, ⟨⟨hv0, hv1⟩, ⟨hw0, hw1⟩, hn0, hn1⟩, -⟩ := ho
  have hk0 : 0 ≤ k := hk0
  have hk1 : k ≤ 6 := hk1
  have hv0 : 0 ≤ v := hv0
  have hv1 : v ≤ 19 := hv1
  have hw0 : 0 ≤ w := hw0
  have hw1 : w ≤ 19 := hw1
  have hn0 : 0 ≤ n := hn0
  have hn1 : n ≤ 3 := hn1
  have g : ∀ j v, gI (wrI τ 4 j v) 3 = gI τ 3 := fun j v => by
    unfold wrI
    split
    · exact gI_rne (by decide)
    · rfl
  have ik : inR k = True := eq_true ⟨by omega, by omega⟩
  unfold dadd at hq
  dsimp only at hq
  simp only [x31_0, k103, sp_or ⟨hk0, (by omega : k < 8)⟩ ⟨hv0, (by omega : v < 32)⟩ ⟨hw0, (by omega : w < 32)⟩ ⟨hn0, (by omega : n < 4)⟩, x31_16, k98 (show lc 4 = 101 from rfl), x31_19, g, ik, gI_row, x31_39, x31_43, x31_44, x31_59, x31_63, x31_64, aft_l, aft_r, optL_s, optL_n, xgo_n, xgo_s, List.cons_append, List.nil_append, List.append_nil, true_and, and_true, Nat.sub_zero, Nat.zero_le, true_implies, false_implies, implies_true, not_true_eq_false, not_false_eq_true, true_or, or_true]
  refine ⟨hs, fun a => ⟨fun b => ?_, fun b => ?_⟩, fun a => ⟨fun b => ?_, fun b => ?_⟩⟩
  · omega
  · rw [if_pos a, if_neg b] at hq; exact hq
  · rw [if_neg a, if_pos b] at hq; exact hq
  · rw [if_neg a, if_neg b] at hq; exact hq)
end TX

