/-! the class's inclusion: questions -/
def SW (l : BitVec 64) (S : Int → Prop) : Prop := ∀ t : Nat, t < 64 → (l.getLsbD t = true ↔ S t)
theorem SW_eq {l l' : BitVec 64} {S : Int → Prop} (h : SW l S) (h' : SW l' S) : l = l' := by
  apply BitVec.eq_of_getLsbD_eq
  intro i hi
  have h1 := h i hi
  have h2 := h' i hi
  cases a : l.getLsbD i <;> cases b : l'.getLsbD i
  · rfl
  · rw [h1.mpr (h2.mp b)] at a; cases a
  · rw [h2.mpr (h1.mp a)] at b; cases b
  · rfl
theorem SW_congr {l : BitVec 64} {S S' : Int → Prop} (h : SW l S) (hS : ∀ t : Nat, t < 64 → (S t ↔ S' t)) : SW l S' := fun t ht => (h t ht).trans (hS t ht)
theorem SW_0 : SW (BitVec.ofNat 64 0) (fun _ => False) := fun t _ => by simp
theorem SW_or {l l' : BitVec 64} {S S' : Int → Prop} (h : SW l S) (h' : SW l' S') : SW (l ||| l') (fun t => S t ∨ S' t) := fun t ht => by
  rw [BitVec.getLsbD_or, Bool.or_eq_true, h t ht, h' t ht]
theorem SW_and {l l' : BitVec 64} {S S' : Int → Prop} (h : SW l S) (h' : SW l' S') : SW (l &&& l') (fun t => S t ∧ S' t) := fun t ht => by
  rw [BitVec.getLsbD_and, Bool.and_eq_true, h t ht, h' t ht]
theorem SW_one {z : Int} (h0 : 0 ≤ z) (h1 : z < 64) : SW (BitVec.ofNat 64 1 <<< sh6 z) (fun t => t = z) := fun t ht => by
  rw [sh6_id h0 h1, bb_one (by omega), decide_eq_true_eq]; omega
theorem SW_at {l : BitVec 64} {S : Int → Prop} (h : SW l S) {z : Int} (h0 : 0 ≤ z) (h1 : z < 64) : l.getLsbD (sh6 z) = true ↔ S z := by
  rw [sh6_id h0 h1, h z.toNat (by omega), show ((z.toNat : Nat) : Int) = z by omega]
theorem SW_z {l : BitVec 64} {S : Int → Prop} (h : SW l S) : l = BitVec.ofNat 64 0 ↔ ∀ t : Nat, t < 64 → ¬ S t := by
  constructor
  · intro e t ht k
    have := (h t ht).mpr k
    rw [e] at this; simp at this
  · intro k
    exact SW_eq h (SW_congr SW_0 (fun t ht => ⟨fun g => g.elim, fun g => k t ht g⟩))
section CI9
variable {t : Nat} {σ : St} {Q : Res → St → Prop} {P : Pg} {lim : Int} {xs : List Int}
theorem INr_fr_19 {M : Nat → Int → Prop} {σ σ' : St} (h : INr 19 σ P lim xs) (g : fr M σ σ') (hM : ∀ c j, M c j → (c < 19 ∨ 29 < c ∨ c = 26)) : INr 19 σ' P lim xs := by
  have n : ∀ c j, 19 ≤ c → c ≤ 29 → c ≠ 26 → ¬ M c j := fun c j h1 h2 h3 k => by have := hM c j k; omega
  obtain ⟨h1, h2, h3, h4, h5, h6, h7, h8, h9⟩ := h
  have e5 : gL σ' (19 + 5) = gL σ (19 + 5) := funext fun j => fr_L g _ _ (n _ _ (by decide) (by decide) (by decide))
  refine ⟨CXr_fr_20 h1 g (fun j => n _ _ (by decide) (by decide) (by decide)) (fun j => n _ _ (by decide) (by decide) (by decide)) (n _ _ (by decide) (by decide) (by decide)) (n _ _ (by decide) (by decide) (by decide)), (fr_I g _ _ (n _ _ (by decide) (by decide) (by decide))).trans h2, fun c hc => (fr_I g _ _ (n _ _ (by decide) (by decide) (by decide))).trans (h3 c hc), fun c u => ?_, fun c u => ?_, fun a t a0 a1 t0 t1 => ?_, fun a t a0 a1 t0 t1 k => ?_, ?_, ?_⟩
  · rw [show Gc (19 + 5) σ' = Gc (19 + 5) σ from Gc_fr g (fun j => n _ _ (by decide) (by decide) (by decide))]; exact h4 c u
  · rw [show Gc (19 + 4) σ' = Gc (19 + 4) σ from Gc_fr g (fun j => n _ _ (by decide) (by decide) (by decide))]; exact h5 c u
  · have := h6 a t a0 a1 t0 t1
    unfold Hc at *
    rw [fr_L g (19 + 8) a (n _ _ (by decide) (by decide) (by decide))]; exact this
  · rw [fr_I g (19 + 9) _ (n _ _ (by decide) (by decide) (by decide)), fr_I g (19 + 10) _ (n _ _ (by decide) (by decide) (by decide))]; exact h7 a t a0 a1 t0 t1 k
  · rw [fr_I g 19 9 (n _ _ (by decide) (by decide) (by decide)), e5]; exact h8
  · rw [fr_I g 19 10 (n _ _ (by decide) (by decide) (by decide))]; exact h9
theorem INr_SW_19 (h : INr 19 σ P lim xs) {a : Int} (a0 : 0 ≤ a) (a1 : a < 44) : SW (gL σ 27 a) (im xs (Lf P xs lim) a) := fun t ht => by
  have := h.2.2.2.2.2.1 a t a0 a1 (by omega) (by omega)
  unfold Hc at this
  rw [Int.toNat_natCast] at this
  exact this
theorem e58_19 {a : Int} (a0 : 0 ≤ a) (a1 : a < 44) : Call t 58 [vR 19, vI a] σ Q ↔ Q (.inl (some (vL (gL σ 27 a)))) σ := by
  simp only [x58_0_19, x58_8_19, k97 (show lc 27 = 102 from rfl), rdL_in (σ := σ) (r := 27) (n := 44) rfl a0 a1, aft_l, aft_r, optL_s, optL_n, xgo_n, xgo_s, List.cons_append, List.nil_append, List.append_nil, true_and, and_true, Nat.sub_zero, Nat.zero_le, true_implies, false_implies, implies_true, not_true_eq_false, not_false_eq_true, true_or, or_true]
  exact w_true ⟨by omega, by omega⟩
theorem e60_19 {a c : Int} (a0 : 0 ≤ a) (a1 : a < 44) (c0 : 0 ≤ c) (c1 : c < 44) : Call t 60 [vR 19, vI a, vI c] σ Q ↔ Q (.inl (some (vI (gI σ 28 (a * 44 + c))))) σ := by
  simp only [x60_0_19, x60_13_19, k96 (show lc 28 = 101 from rfl), rdI_in (σ := σ) (r := 28) (i := a * 44 + c) (n := 1936) rfl (by omega) (by omega), aft_l, aft_r, optL_s, optL_n, xgo_n, xgo_s, List.cons_append, List.nil_append, List.append_nil, true_and, and_true, Nat.sub_zero, Nat.zero_le, true_implies, false_implies, implies_true, not_true_eq_false, not_false_eq_true, true_or, or_true]
  exact w_true ⟨by omega, by omega⟩
theorem e61_19 {a c : Int} (a0 : 0 ≤ a) (a1 : a < 44) (c0 : 0 ≤ c) (c1 : c < 44) : Call t 61 [vR 19, vI a, vI c] σ Q ↔ Q (.inl (some (vI (gI σ 29 (a * 44 + c))))) σ := by
  simp only [x61_0_19, x61_13_19, k96 (show lc 29 = 101 from rfl), rdI_in (σ := σ) (r := 29) (i := a * 44 + c) (n := 1936) rfl (by omega) (by omega), aft_l, aft_r, optL_s, optL_n, xgo_n, xgo_s, List.cons_append, List.nil_append, List.append_nil, true_and, and_true, Nat.sub_zero, Nat.zero_le, true_implies, false_implies, implies_true, not_true_eq_false, not_false_eq_true, true_or, or_true]
  exact w_true ⟨by omega, by omega⟩
theorem tin_19 {c n : Int} (hx : xok xs) (hD : CD 25 σ xs) (n0 : 0 ≤ n) (n1 : n ≤ 152) (hv : ∀ i : Int, 0 ≤ i → i < n → vld xs (gI σ 26 i)) (hq : ∀ l, SW l (fun t => ∃ i : Int, 0 ≤ i ∧ i < n ∧ cdf xs (gI σ 26 i) = t) → Q (.inl (some (vL l))) σ) :
    ∀ (d : Nat) (i : Int) (l : BitVec 64) (a1 a2 a3 a6 : Option AV), 0 ≤ i → i + d = n → SW l (fun t => ∃ k : Int, 0 ≤ k ∧ k < i ∧ cdf xs (gI σ 26 k) = t) → wp t 59 39 [some (vR 19), a1, a2, a3, some (vI n), some (vL l), a6, some (vI i)] [] σ Q
  | 0, i, l, a1, a2, a3, a6, i0, hd, h => by
    have e : i = n := by omega
    rw [x59_39_19]
    refine ⟨⟨⟨by omega, by omega⟩, ⟨by omega, by omega⟩⟩, fun h => by omega, fun _ => ?_⟩
    rw [x59_75_19]
    rw [e] at h; exact hq l h
  | d + 1, i, l, a1, a2, a3, a6, i0, hd, h => by
    have hi := hv i i0 (by omega)
    have hi2 := vld_152 hx hi
    have hr := cdf_rng hx hi
    have r1 : rdI σ 26 i = gI σ 26 i := rdI_in (n := 152) rfl i0 (by omega)
    have r2 : rdI σ 25 (gI σ 26 i) = cdf xs (gI σ 26 i) := by rw [rdI_in (n := 152) rfl hi2.1 hi2.2]; exact hD _ hi
    rw [x59_39_19]
    refine ⟨⟨⟨by omega, by omega⟩, ⟨by omega, by omega⟩⟩, fun _ => ?_, fun h => by omega⟩
    simp only [x59_46_19, x59_62_19, x59_65_19, k96 (show lc 26 = 101 from rfl), k96 (show lc 25 = 101 from rfl), r1, r2, aft_l, aft_r, optL_s, optL_n, xgo_n, xgo_s, List.cons_append, List.nil_append, List.append_nil, true_and, and_true, Nat.sub_zero, Nat.zero_le, true_implies, false_implies, implies_true, not_true_eq_false, not_false_eq_true, true_or, or_true]
    refine ⟨⟨by omega, by omega⟩, ⟨by omega, by omega⟩, tin_19 (c := c) hx hD n0 n1 hv hq d (i + 1) _ _ _ _ _ (by omega) (by omega) (SW_congr (SW_or h (SW_one hr.1 (by omega))) (fun t ht => ?_))⟩
    constructor
    · rintro (⟨k, k0, k1, e⟩ | e)
      · exact ⟨k, k0, by omega, e⟩
      · exact ⟨i, i0, by omega, e.symm⟩
    · rintro ⟨k, k0, k1, e⟩
      by_cases q : k = i
      · rw [q] at e; exact Or.inr e.symm
      · exact Or.inl ⟨k, k0, by omega, e⟩
theorem ti1_19 {v p : Int} (hP : okP P) (h : INr 19 σ P lim xs) (v0 : 0 ≤ v) (v1 : v ≤ 19) (p0 : 0 ≤ p) (p1 : p < xs.length) (hq : ∀ σ' l, fr (fun c _ => c = 26) σ σ' → SW l (fun t => ∃ u, Lf P xs lim (clo v p) u ∧ cdf xs u = t) → Q (.inl (some (vL l))) σ') {a2 a3 a4 a5 a6 a7 : Option AV} :
    wp t 59 21 [some (vR 19), some (vI v), a2, a3, a4, a5, a6, a7] [vI p] σ Q := by
  have hX := h.1.1
  have hx := xok_of hP hX
  have hc := clo_vld (xs := xs) v0 p0 p1
  have hcr := vld_152 hx hc
  have eK : Gc 23 σ = Lf P xs lim := iff_fun h.2.2.2.2.1
  have hA : okF xs (Gc 23 σ) := by rw [eK]; exact Lf_okF hP hX
  simp only [x59_21_19, x59_28_19, k46 v0 v1, aft_l, aft_r, optL_s, optL_n, xgo_n, xgo_s, List.cons_append, List.nil_append, List.append_nil, true_and, and_true, Nat.sub_zero, Nat.zero_le, true_implies, false_implies, implies_true, not_true_eq_false, not_false_eq_true, true_or, or_true]
  refine c49_19 hx hA hcr (fun σp n n0 n1 hf h1 h2 => ?_)
  simp only [x59_31_19, aft_l, aft_r, optL_s, optL_n, xgo_n, xgo_s, List.cons_append, List.nil_append, List.append_nil, true_and, and_true, Nat.sub_zero, Nat.zero_le, true_implies, false_implies, implies_true, not_true_eq_false, not_false_eq_true, true_or, or_true]
  refine tin_19 (c := clo v p) hx (fun c hc => (fr_I hf _ _ (by omega)).trans (h.2.2.1 c hc)) n0 n1 (fun i i0 i1 => (hA _ _ (h1 i i0 i1)).2) (fun l hl => hq σp l hf (SW_congr hl (fun t ht => ?_))) n.toNat 0 _ _ _ _ _ (by omega) (by omega) (SW_congr SW_0 (fun t ht => ⟨fun g => g.elim, fun ⟨k, k0, k1, _⟩ => by omega⟩))
  rw [eK] at h1 h2
  constructor
  · rintro ⟨i, i0, i1, e⟩; exact ⟨_, h1 i i0 i1, e⟩
  · rintro ⟨u, hu, e⟩
    obtain ⟨i, i0, i1, e2⟩ := h2 u hu
    exact ⟨i, i0, i1, by rw [e2]; exact e⟩
/-- Inclusion.targetsIn -/
theorem c59_19 {v k p : Int} (hP : okP P) (h : INr 19 σ P lim xs) (v0 : 0 ≤ v) (v1 : v ≤ 19) (hp : (v < 4 ∧ p = 0) ∨ (4 ≤ v ∧ p = cbl xs ((v - 4) / 4 * 2353) + k)) (p0 : 0 ≤ p) (p1 : p < xs.length) (hq : ∀ σ' l, fr (fun c _ => c = 26) σ σ' → SW l (fun t => ∃ u, Lf P xs lim (clo v p) u ∧ cdf xs u = t) → Q (.inl (some (vL l))) σ') : Call t 59 [vR 19, vI v, vI k] σ Q := by
  rw [x59_0_19]
  refine ⟨⟨by omega, by omega⟩, fun a => ?_, fun a => ?_⟩
  · rw [x59_5_19]
    have e : p = 0 := by omega
    subst e
    exact ti1_19 hP h v0 v1 p0 p1 hq
  · have e : p = cbl xs ((v - 4) / 4 * 2353) + k := by omega
    simp only [x59_9_19, x59_17_19, k170, e24_20 h.1 (show 0 ≤ (v - 4) / 4 by omega) (show (v - 4) / 4 ≤ 3 by omega), aft_l, aft_r, optL_s, optL_n, xgo_n, xgo_s, List.cons_append, List.nil_append, List.append_nil, true_and, and_true, Nat.sub_zero, Nat.zero_le, true_implies, false_implies, implies_true, not_true_eq_false, not_false_eq_true, true_or, or_true]
    rw [← e]
    exact ⟨⟨by omega, by omega⟩, ti1_19 hP h v0 v1 p0 p1 hq⟩
theorem INr_fr_30 {M : Nat → Int → Prop} {σ σ' : St} (h : INr 30 σ P lim xs) (g : fr M σ σ') (hM : ∀ c j, M c j → (c < 30 ∨ 40 < c ∨ c = 37)) : INr 30 σ' P lim xs := by
  have n : ∀ c j, 30 ≤ c → c ≤ 40 → c ≠ 37 → ¬ M c j := fun c j h1 h2 h3 k => by have := hM c j k; omega
  obtain ⟨h1, h2, h3, h4, h5, h6, h7, h8, h9⟩ := h
  have e5 : gL σ' (30 + 5) = gL σ (30 + 5) := funext fun j => fr_L g _ _ (n _ _ (by decide) (by decide) (by decide))
  refine ⟨CXr_fr_31 h1 g (fun j => n _ _ (by decide) (by decide) (by decide)) (fun j => n _ _ (by decide) (by decide) (by decide)) (n _ _ (by decide) (by decide) (by decide)) (n _ _ (by decide) (by decide) (by decide)), (fr_I g _ _ (n _ _ (by decide) (by decide) (by decide))).trans h2, fun c hc => (fr_I g _ _ (n _ _ (by decide) (by decide) (by decide))).trans (h3 c hc), fun c u => ?_, fun c u => ?_, fun a t a0 a1 t0 t1 => ?_, fun a t a0 a1 t0 t1 k => ?_, ?_, ?_⟩
  · rw [show Gc (30 + 5) σ' = Gc (30 + 5) σ from Gc_fr g (fun j => n _ _ (by decide) (by decide) (by decide))]; exact h4 c u
  · rw [show Gc (30 + 4) σ' = Gc (30 + 4) σ from Gc_fr g (fun j => n _ _ (by decide) (by decide) (by decide))]; exact h5 c u
  · have := h6 a t a0 a1 t0 t1
    unfold Hc at *
    rw [fr_L g (30 + 8) a (n _ _ (by decide) (by decide) (by decide))]; exact this
  · rw [fr_I g (30 + 9) _ (n _ _ (by decide) (by decide) (by decide)), fr_I g (30 + 10) _ (n _ _ (by decide) (by decide) (by decide))]; exact h7 a t a0 a1 t0 t1 k
  · rw [fr_I g 30 9 (n _ _ (by decide) (by decide) (by decide)), e5]; exact h8
  · rw [fr_I g 30 10 (n _ _ (by decide) (by decide) (by decide))]; exact h9
theorem INr_SW_30 (h : INr 30 σ P lim xs) {a : Int} (a0 : 0 ≤ a) (a1 : a < 44) : SW (gL σ 38 a) (im xs (Lf P xs lim) a) := fun t ht => by
  have := h.2.2.2.2.2.1 a t a0 a1 (by omega) (by omega)
  unfold Hc at this
  rw [Int.toNat_natCast] at this
  exact this
theorem e58_30 {a : Int} (a0 : 0 ≤ a) (a1 : a < 44) : Call t 58 [vR 30, vI a] σ Q ↔ Q (.inl (some (vL (gL σ 38 a)))) σ := by
  simp only [x58_0_30, x58_8_30, k97 (show lc 38 = 102 from rfl), rdL_in (σ := σ) (r := 38) (n := 44) rfl a0 a1, aft_l, aft_r, optL_s, optL_n, xgo_n, xgo_s, List.cons_append, List.nil_append, List.append_nil, true_and, and_true, Nat.sub_zero, Nat.zero_le, true_implies, false_implies, implies_true, not_true_eq_false, not_false_eq_true, true_or, or_true]
  exact w_true ⟨by omega, by omega⟩
theorem e60_30 {a c : Int} (a0 : 0 ≤ a) (a1 : a < 44) (c0 : 0 ≤ c) (c1 : c < 44) : Call t 60 [vR 30, vI a, vI c] σ Q ↔ Q (.inl (some (vI (gI σ 39 (a * 44 + c))))) σ := by
  simp only [x60_0_30, x60_13_30, k96 (show lc 39 = 101 from rfl), rdI_in (σ := σ) (r := 39) (i := a * 44 + c) (n := 1936) rfl (by omega) (by omega), aft_l, aft_r, optL_s, optL_n, xgo_n, xgo_s, List.cons_append, List.nil_append, List.append_nil, true_and, and_true, Nat.sub_zero, Nat.zero_le, true_implies, false_implies, implies_true, not_true_eq_false, not_false_eq_true, true_or, or_true]
  exact w_true ⟨by omega, by omega⟩
theorem e61_30 {a c : Int} (a0 : 0 ≤ a) (a1 : a < 44) (c0 : 0 ≤ c) (c1 : c < 44) : Call t 61 [vR 30, vI a, vI c] σ Q ↔ Q (.inl (some (vI (gI σ 40 (a * 44 + c))))) σ := by
  simp only [x61_0_30, x61_13_30, k96 (show lc 40 = 101 from rfl), rdI_in (σ := σ) (r := 40) (i := a * 44 + c) (n := 1936) rfl (by omega) (by omega), aft_l, aft_r, optL_s, optL_n, xgo_n, xgo_s, List.cons_append, List.nil_append, List.append_nil, true_and, and_true, Nat.sub_zero, Nat.zero_le, true_implies, false_implies, implies_true, not_true_eq_false, not_false_eq_true, true_or, or_true]
  exact w_true ⟨by omega, by omega⟩
theorem tin_30 {c n : Int} (hx : xok xs) (hD : CD 36 σ xs) (n0 : 0 ≤ n) (n1 : n ≤ 152) (hv : ∀ i : Int, 0 ≤ i → i < n → vld xs (gI σ 37 i)) (hq : ∀ l, SW l (fun t => ∃ i : Int, 0 ≤ i ∧ i < n ∧ cdf xs (gI σ 37 i) = t) → Q (.inl (some (vL l))) σ) :
    ∀ (d : Nat) (i : Int) (l : BitVec 64) (a1 a2 a3 a6 : Option AV), 0 ≤ i → i + d = n → SW l (fun t => ∃ k : Int, 0 ≤ k ∧ k < i ∧ cdf xs (gI σ 37 k) = t) → wp t 59 39 [some (vR 30), a1, a2, a3, some (vI n), some (vL l), a6, some (vI i)] [] σ Q
  | 0, i, l, a1, a2, a3, a6, i0, hd, h => by
    have e : i = n := by omega
    rw [x59_39_30]
    refine ⟨⟨⟨by omega, by omega⟩, ⟨by omega, by omega⟩⟩, fun h => by omega, fun _ => ?_⟩
    rw [x59_75_30]
    rw [e] at h; exact hq l h
  | d + 1, i, l, a1, a2, a3, a6, i0, hd, h => by
    have hi := hv i i0 (by omega)
    have hi2 := vld_152 hx hi
    have hr := cdf_rng hx hi
    have r1 : rdI σ 37 i = gI σ 37 i := rdI_in (n := 152) rfl i0 (by omega)
    have r2 : rdI σ 36 (gI σ 37 i) = cdf xs (gI σ 37 i) := by rw [rdI_in (n := 152) rfl hi2.1 hi2.2]; exact hD _ hi
    rw [x59_39_30]
    refine ⟨⟨⟨by omega, by omega⟩, ⟨by omega, by omega⟩⟩, fun _ => ?_, fun h => by omega⟩
    simp only [x59_46_30, x59_62_30, x59_65_30, k96 (show lc 37 = 101 from rfl), k96 (show lc 36 = 101 from rfl), r1, r2, aft_l, aft_r, optL_s, optL_n, xgo_n, xgo_s, List.cons_append, List.nil_append, List.append_nil, true_and, and_true, Nat.sub_zero, Nat.zero_le, true_implies, false_implies, implies_true, not_true_eq_false, not_false_eq_true, true_or, or_true]
    refine ⟨⟨by omega, by omega⟩, ⟨by omega, by omega⟩, tin_30 (c := c) hx hD n0 n1 hv hq d (i + 1) _ _ _ _ _ (by omega) (by omega) (SW_congr (SW_or h (SW_one hr.1 (by omega))) (fun t ht => ?_))⟩
    constructor
    · rintro (⟨k, k0, k1, e⟩ | e)
      · exact ⟨k, k0, by omega, e⟩
      · exact ⟨i, i0, by omega, e.symm⟩
    · rintro ⟨k, k0, k1, e⟩
      by_cases q : k = i
      · rw [q] at e; exact Or.inr e.symm
      · exact Or.inl ⟨k, k0, by omega, e⟩
theorem ti1_30 {v p : Int} (hP : okP P) (h : INr 30 σ P lim xs) (v0 : 0 ≤ v) (v1 : v ≤ 19) (p0 : 0 ≤ p) (p1 : p < xs.length) (hq : ∀ σ' l, fr (fun c _ => c = 37) σ σ' → SW l (fun t => ∃ u, Lf P xs lim (clo v p) u ∧ cdf xs u = t) → Q (.inl (some (vL l))) σ') {a2 a3 a4 a5 a6 a7 : Option AV} :
    wp t 59 21 [some (vR 30), some (vI v), a2, a3, a4, a5, a6, a7] [vI p] σ Q := by
  have hX := h.1.1
  have hx := xok_of hP hX
  have hc := clo_vld (xs := xs) v0 p0 p1
  have hcr := vld_152 hx hc
  have eK : Gc 34 σ = Lf P xs lim := iff_fun h.2.2.2.2.1
  have hA : okF xs (Gc 34 σ) := by rw [eK]; exact Lf_okF hP hX
  simp only [x59_21_30, x59_28_30, k46 v0 v1, aft_l, aft_r, optL_s, optL_n, xgo_n, xgo_s, List.cons_append, List.nil_append, List.append_nil, true_and, and_true, Nat.sub_zero, Nat.zero_le, true_implies, false_implies, implies_true, not_true_eq_false, not_false_eq_true, true_or, or_true]
  refine c49_30 hx hA hcr (fun σp n n0 n1 hf h1 h2 => ?_)
  simp only [x59_31_30, aft_l, aft_r, optL_s, optL_n, xgo_n, xgo_s, List.cons_append, List.nil_append, List.append_nil, true_and, and_true, Nat.sub_zero, Nat.zero_le, true_implies, false_implies, implies_true, not_true_eq_false, not_false_eq_true, true_or, or_true]
  refine tin_30 (c := clo v p) hx (fun c hc => (fr_I hf _ _ (by omega)).trans (h.2.2.1 c hc)) n0 n1 (fun i i0 i1 => (hA _ _ (h1 i i0 i1)).2) (fun l hl => hq σp l hf (SW_congr hl (fun t ht => ?_))) n.toNat 0 _ _ _ _ _ (by omega) (by omega) (SW_congr SW_0 (fun t ht => ⟨fun g => g.elim, fun ⟨k, k0, k1, _⟩ => by omega⟩))
  rw [eK] at h1 h2
  constructor
  · rintro ⟨i, i0, i1, e⟩; exact ⟨_, h1 i i0 i1, e⟩
  · rintro ⟨u, hu, e⟩
    obtain ⟨i, i0, i1, e2⟩ := h2 u hu
    exact ⟨i, i0, i1, by rw [e2]; exact e⟩
/-- Inclusion.targetsIn -/
theorem c59_30 {v k p : Int} (hP : okP P) (h : INr 30 σ P lim xs) (v0 : 0 ≤ v) (v1 : v ≤ 19) (hp : (v < 4 ∧ p = 0) ∨ (4 ≤ v ∧ p = cbl xs ((v - 4) / 4 * 2353) + k)) (p0 : 0 ≤ p) (p1 : p < xs.length) (hq : ∀ σ' l, fr (fun c _ => c = 37) σ σ' → SW l (fun t => ∃ u, Lf P xs lim (clo v p) u ∧ cdf xs u = t) → Q (.inl (some (vL l))) σ') : Call t 59 [vR 30, vI v, vI k] σ Q := by
  rw [x59_0_30]
  refine ⟨⟨by omega, by omega⟩, fun a => ?_, fun a => ?_⟩
  · rw [x59_5_30]
    have e : p = 0 := by omega
    subst e
    exact ti1_30 hP h v0 v1 p0 p1 hq
  · have e : p = cbl xs ((v - 4) / 4 * 2353) + k := by omega
    simp only [x59_9_30, x59_17_30, k170, e24_31 h.1 (show 0 ≤ (v - 4) / 4 by omega) (show (v - 4) / 4 ≤ 3 by omega), aft_l, aft_r, optL_s, optL_n, xgo_n, xgo_s, List.cons_append, List.nil_append, List.append_nil, true_and, and_true, Nat.sub_zero, Nat.zero_le, true_implies, false_implies, implies_true, not_true_eq_false, not_false_eq_true, true_or, or_true]
    rw [← e]
    exact ⟨⟨by omega, by omega⟩, ti1_30 hP h v0 v1 p0 p1 hq⟩
end CI9
