/-! the class's inclusion: questions -/
def SW (l : BitVec 64) (S : Int → Prop) : Prop := ∀ t : Nat, t < 64 → (l.getLsbD t = true ↔ S t)
theorem SW_eq {l l' : BitVec 64} {S : Int → Prop} (h : SW l S) (h' : SW l' S) : l = l' := by
  apply BitVec.eq_of_getLsbD_eq
  intro i hi
  have h1 := h i hi
  have h2 := h' i hi
  cases a : l.getLsbD i <;> cases b : l'.getLsbD i
  · rfl
  · rw [h1.mpr (h2.mp b)] at a; cases a
  · rw [h2.mpr (h1.mp a)] at b; cases b
  · rfl
theorem SW_congr {l : BitVec 64} {S S' : Int → Prop} (h : SW l S) (hS : ∀ t : Nat, t < 64 → (S t ↔ S' t)) : SW l S' := fun t ht => (h t ht).trans (hS t ht)
theorem SW_0 : SW (BitVec.ofNat 64 0) (fun _ => False) := fun t _ => by simp
theorem SW_or {l l' : BitVec 64} {S S' : Int → Prop} (h : SW l S) (h' : SW l' S') : SW (l ||| l') (fun t => S t ∨ S' t) := fun t ht => by
  rw [BitVec.getLsbD_or, Bool.or_eq_true, h t ht, h' t ht]
theorem SW_and {l l' : BitVec 64} {S S' : Int → Prop} (h : SW l S) (h' : SW l' S') : SW (l &&& l') (fun t => S t ∧ S' t) := fun t ht => by
  rw [BitVec.getLsbD_and, Bool.and_eq_true, h t ht, h' t ht]
theorem SW_one {z : Int} (h0 : 0 ≤ z) (h1 : z < 64) : SW (BitVec.ofNat 64 1 <<< sh6 z) (fun t => t = z) := fun t ht => by
  rw [sh6_id h0 h1, bb_one (by omega), decide_eq_true_eq]; omega
theorem SW_at {l : BitVec 64} {S : Int → Prop} (h : SW l S) {z : Int} (h0 : 0 ≤ z) (h1 : z < 64) : l.getLsbD (sh6 z) = true ↔ S z := by
  rw [sh6_id h0 h1, h z.toNat (by omega), show ((z.toNat : Nat) : Int) = z by omega]
theorem SW_z {l : BitVec 64} {S : Int → Prop} (h : SW l S) : l = BitVec.ofNat 64 0 ↔ ∀ t : Nat, t < 64 → ¬ S t := by
  constructor
  · intro e t ht k
    have := (h t ht).mpr k
    rw [e] at this; simp at this
  · intro k
    exact SW_eq h (SW_congr SW_0 (fun t ht => ⟨fun g => g.elim, fun g => k t ht g⟩))
section CI9
variable {t : Nat} {σ : St} {Q : Res → St → Prop} {P : Pg} {lim : Int} {xs : List Int}
theorem INr_fr_19 {M : Nat → Int → Prop} {σ σ' : St} (h : INr 19 σ P lim xs) (g : fr M σ σ') (hM : ∀ c j, M c j → (c < 19 ∨ 29 < c ∨ c = 26)) : INr 19 σ' P lim xs := by
  have n : ∀ c j, 19 ≤ c → c ≤ 29 → c ≠ 26 → ¬ M c j := fun c j h1 h2 h3 k => by have := hM c j k; omega
  obtain ⟨h1, h2, h3, h4, h5, h6, h7, h8, h9⟩ := h
  have e5 : gL σ' (19 + 5) = gL σ (19 + 5) := funext fun j => fr_L g _ _ (n _ _ (by decide) (by decide) (by decide))
  refine ⟨CXr_fr_20 h1 g (fun j => n _ _ (by decide) (by decide) (by decide)) (fun j => n _ _ (by decide) (by decide) (by decide)) (n _ _ (by decide) (by decide) (by decide)) (n _ _ (by decide) (by decide) (by decide)), (fr_I g _ _ (n _ _ (by decide) (by decide) (by decide))).trans h2, fun c hc => (fr_I g _ _ (n _ _ (by decide) (by decide) (by decide))).trans (h3 c hc), fun c u => ?_, fun c u => ?_, fun a t a0 a1 t0 t1 => ?_, fun a t a0 a1 t0 t1 k => ?_, ?_, ?_⟩
  · rw [show Gc (19 + 5) σ' = Gc (19 + 5) σ from Gc_fr g (fun j => n _ _ (by decide) (by decide) (by decide))]; exact h4 c u
  · rw [show Gc (19 + 4) σ' = Gc (19 + 4) σ from Gc_fr g (fun j => n _ _ (by decide) (by decide) (by decide))]; exact h5 c u
  · have := h6 a t a0 a1 t0 t1
    unfold Hc at *
    rw [fr_L g (19 + 8) a (n _ _ (by decide) (by decide) (by decide))]; exact this
  · rw [fr_I g (19 + 9) _ (n _ _ (by decide) (by decide) (by decide)), fr_I g (19 + 10) _ (n _ _ (by decide) (by decide) (by decide))]; exact h7 a t a0 a1 t0 t1 k
  · rw [fr_I g 19 9 (n _ _ (by decide) (by decide) (by decide)), e5]; exact h8
  · rw [fr_I g 19 10 (n _ _ (by decide) (by decide) (by decide))]; exact h9
theorem INr_SW_19 (h : INr 19 σ P lim xs) {a : Int} (a0 : 0 ≤ a) (a1 : a < 44) : SW (gL σ 27 a) (im xs (Lf P xs lim) a) := fun t ht => by
  have := h.2.2.2.2.2.1 a t a0 a1 (by omega) (by omega)
  unfold Hc at this
  rw [Int.toNat_natCast] at this
  exact this
theorem e58_19 {a : Int} (a0 : 0 ≤ a) (a1 : a < 44) : Call t 58 [vR 19, vI a] σ Q ↔ Q (.inl (some (vL (gL σ 27 a)))) σ := by
  simp only [x58_0_19, x58_8_19, k97 (show lc 27 = 102 from rfl), rdL_in (σ := σ) (r := 27) (n := 44) rfl a0 a1, aft_l, aft_r, optL_s, optL_n, xgo_n, xgo_s, List.cons_append, List.nil_append, List.append_nil, true_and, and_true, Nat.sub_zero, Nat.zero_le, true_implies, false_implies, implies_true, not_true_eq_false, not_false_eq_true, true_or, or_true]
  exact w_true ⟨by omega, by omega⟩
theorem e60_19 {a c : Int} (a0 : 0 ≤ a) (a1 : a < 44) (c0 : 0 ≤ c) (c1 : c < 44) : Call t 60 [vR 19, vI a, vI c] σ Q ↔ Q (.inl (some (vI (gI σ 28 (a * 44 + c))))) σ := by
  simp only [x60_0_19, x60_13_19, k96 (show lc 28 = 101 from rfl), rdI_in (σ := σ) (r := 28) (i := a * 44 + c) (n := 1936) rfl (by omega) (by omega), aft_l, aft_r, optL_s, optL_n, xgo_n, xgo_s, List.cons_append, List.nil_append, List.append_nil, true_and, and_true, Nat.sub_zero, Nat.zero_le, true_implies, false_implies, implies_true, not_true_eq_false, not_false_eq_true, true_or, or_true]
  exact w_true ⟨by omega, by omega⟩
theorem e61_19 {a c : Int} (a0 : 0 ≤ a) (a1 : a < 44) (c0 : 0 ≤ c) (c1 : c < 44) : Call t 61 [vR 19, vI a, vI c] σ Q ↔ Q (.inl (some (vI (gI σ 29 (a * 44 + c))))) σ := by
  simp only [x61_0_19, x61_13_19, k96 (show lc 29 = 101 from rfl), rdI_in (σ := σ) (r := 29) (i := a * 44 + c) (n := 1936) rfl (by omega) (by omega), aft_l, aft_r, optL_s, optL_n, xgo_n, xgo_s, List.cons_append, List.nil_append, List.append_nil, true_and, and_true, Nat.sub_zero, Nat.zero_le, true_implies, false_implies, implies_true, not_true_eq_false, not_false_eq_true, true_or, or_true]
  exact w_true ⟨by omega, by omega⟩
theorem INr_fr_30 {M : Nat → Int → Prop} {σ σ' : St} (h : INr 30 σ P lim xs) (g : fr M σ σ') (hM : ∀ c j, M c j → (c < 30 ∨ 40 < c ∨ c = 37)) : INr 30 σ' P lim xs := by
  have n : ∀ c j, 30 ≤ c → c ≤ 40 → c ≠ 37 → ¬ M c j := fun c j h1 h2 h3 k => by have := hM c j k; omega
  obtain ⟨h1, h2, h3, h4, h5, h6, h7, h8, h9⟩ := h
  have e5 : gL σ' (30 + 5) = gL σ (30 + 5) := funext fun j => fr_L g _ _ (n _ _ (by decide) (by decide) (by decide))
  refine ⟨CXr_fr_31 h1 g (fun j => n _ _ (by decide) (by decide) (by decide)) (fun j => n _ _ (by decide) (by decide) (by decide)) (n _ _ (by decide) (by decide) (by decide)) (n _ _ (by decide) (by decide) (by decide)), (fr_I g _ _ (n _ _ (by decide) (by decide) (by decide))).trans h2, fun c hc => (fr_I g _ _ (n _ _ (by decide) (by decide) (by decide))).trans (h3 c hc), fun c u => ?_, fun c u => ?_, fun a t a0 a1 t0 t1 => ?_, fun a t a0 a1 t0 t1 k => ?_, ?_, ?_⟩
  · rw [show Gc (30 + 5) σ' = Gc (30 + 5) σ from Gc_fr g (fun j => n _ _ (by decide) (by decide) (by decide))]; exact h4 c u
  · rw [show Gc (30 + 4) σ' = Gc (30 + 4) σ from Gc_fr g (fun j => n _ _ (by decide) (by decide) (by decide))]; exact h5 c u
  · have := h6 a t a0 a1 t0 t1
    unfold Hc at *
    rw [fr_L g (30 + 8) a (n _ _ (by decide) (by decide) (by decide))]; exact this
  · rw [fr_I g (30 + 9) _ (n _ _ (by decide) (by decide) (by decide)), fr_I g (30 + 10) _ (n _ _ (by decide) (by decide) (by decide))]; exact h7 a t a0 a1 t0 t1 k
  · rw [fr_I g 30 9 (n _ _ (by decide) (by decide) (by decide)), e5]; exact h8
  · rw [fr_I g 30 10 (n _ _ (by decide) (by decide) (by decide))]; exact h9
theorem INr_SW_30 (h : INr 30 σ P lim xs) {a : Int} (a0 : 0 ≤ a) (a1 : a < 44) : SW (gL σ 38 a) (im xs (Lf P xs lim) a) := fun t ht => by
  have := h.2.2.2.2.2.1 a t a0 a1 (by omega) (by omega)
  unfold Hc at this
  rw [Int.toNat_natCast] at this
  exact this
theorem e58_30 {a : Int} (a0 : 0 ≤ a) (a1 : a < 44) : Call t 58 [vR 30, vI a] σ Q ↔ Q (.inl (some (vL (gL σ 38 a)))) σ := by
  simp only [x58_0_30, x58_8_30, k97 (show lc 38 = 102 from rfl), rdL_in (σ := σ) (r := 38) (n := 44) rfl a0 a1, aft_l, aft_r, optL_s, optL_n, xgo_n, xgo_s, List.cons_append, List.nil_append, List.append_nil, true_and, and_true, Nat.sub_zero, Nat.zero_le, true_implies, false_implies, implies_true, not_true_eq_false, not_false_eq_true, true_or, or_true]
  exact w_true ⟨by omega, by omega⟩
theorem e60_30 {a c : Int} (a0 : 0 ≤ a) (a1 : a < 44) (c0 : 0 ≤ c) (c1 : c < 44) : Call t 60 [vR 30, vI a, vI c] σ Q ↔ Q (.inl (some (vI (gI σ 39 (a * 44 + c))))) σ := by
  simp only [x60_0_30, x60_13_30, k96 (show lc 39 = 101 from rfl), rdI_in (σ := σ) (r := 39) (i := a * 44 + c) (n := 1936) rfl (by omega) (by omega), aft_l, aft_r, optL_s, optL_n, xgo_n, xgo_s, List.cons_append, List.nil_append, List.append_nil, true_and, and_true, Nat.sub_zero, Nat.zero_le, true_implies, false_implies, implies_true, not_true_eq_false, not_false_eq_true, true_or, or_true]
  exact w_true ⟨by omega, by omega⟩
theorem e61_30 {a c : Int} (a0 : 0 ≤ a) (a1 : a < 44) (c0 : 0 ≤ c) (c1 : c < 44) : Call t 61 [vR 30, vI a, vI c] σ Q ↔ Q (.inl (some (vI (gI σ 40 (a * 44 + c))))) σ := by
  simp only [x61_0_30, x61_13_30, k96 (show lc 40 = 101 from rfl), rdI_in (σ := σ) (r := 40) (i := a * 44 + c) (n := 1936) rfl (by omega) (by omega), aft_l, aft_r, optL_s, optL_n, xgo_n, xgo_s, List.cons_append, List.nil_append, List.append_nil, true_and, and_true, Nat.sub_zero, Nat.zero_le, true_implies, false_implies, implies_true, not_true_eq_false, not_false_eq_true, true_or, or_true]
  exact w_true ⟨by omega, by omega⟩
end CI9

