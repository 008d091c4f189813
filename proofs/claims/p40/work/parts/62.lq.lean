/-! the law's questions: a fresh law, its contexts -/
noncomputable def wSa (S : Int → Prop) : Nat → BitVec 64
  | 0 => BitVec.ofNat 64 0
  | n + 1 => wSa S n ||| (if dcl (S n) = true then BitVec.ofNat 64 1 <<< n else BitVec.ofNat 64 0)
theorem wSa_bit (S : Int → Prop) : ∀ n : Nat, n ≤ 64 → ∀ t : Nat, (wSa S n).getLsbD t = true ↔ (t < n ∧ S t)
  | 0, _, t => by simp [wSa]
  | n + 1, hn, t => by
    show (wSa S n ||| _).getLsbD t = true ↔ _
    rw [BitVec.getLsbD_or, Bool.or_eq_true, wSa_bit S n (by omega) t]
    by_cases q : S n
    · rw [dcl_t q, if_pos rfl, bb_one (by omega), decide_eq_true_eq]
      constructor
      · rintro (⟨h, k⟩ | h)
        · exact ⟨by omega, k⟩
        · exact ⟨by omega, by rw [h]; exact q⟩
      · rintro ⟨h, k⟩
        by_cases e : t = n
        · exact Or.inr e
        · exact Or.inl ⟨by omega, k⟩
    · rw [dcl_f q, if_neg (by decide)]
      have z : (BitVec.ofNat 64 0).getLsbD t = false := by simp
      rw [z]
      constructor
      · rintro (⟨h, k⟩ | h)
        · exact ⟨by omega, k⟩
        · cases h
      · rintro ⟨h, k⟩
        by_cases e : t = n
        · rw [e] at k; exact absurd k q
        · exact Or.inl ⟨by omega, k⟩
/-- the word of a set -/
noncomputable def wS (S : Int → Prop) : BitVec 64 := wSa S 64
theorem SW_wS (S : Int → Prop) : SW (wS S) S := fun t ht => (wSa_bit S 64 (Nat.le_refl _) t).trans ⟨fun h => h.2, fun h => ⟨ht, h⟩⟩
theorem wS_of {l : BitVec 64} {S : Int → Prop} (h : SW l S) : l = wS S := SW_eq h (SW_wS S)
theorem wS_congr {S S' : Int → Prop} (h : ∀ t : Nat, t < 64 → (S t ↔ S' t)) : wS S = wS S' := wS_of (SW_congr (SW_wS S) h)
theorem wS_or (S S' : Int → Prop) : wS S ||| wS S' = wS (fun t => S t ∨ S' t) := wS_of (SW_or (SW_wS S) (SW_wS S'))
theorem wS_pw (S : Int → Prop) : pw (wS S) = cn (fun t => dcl (S t)) 64 := cn_congr (fun m m0 m1 => by
  have h := SW_wS S m.toNat (by omega)
  rw [show ((m.toNat : Nat) : Int) = m by omega] at h
  by_cases q : S m
  · rw [dcl_t q]; exact h.mpr q
  · rw [dcl_f q]
    cases z : (wS S).getLsbD m.toNat with
    | false => rfl
    | true => exact absurd (h.mp z) q)
theorem wS_z (S : Int → Prop) : wS S = BitVec.ofNat 64 0 ↔ ∀ t : Nat, t < 64 → ¬ S t := SW_z (SW_wS S)
theorem dcl_congr {p q : Prop} (h : p ↔ q) : dcl p = dcl q := by rw [propext h]
def qM : Nat → Int → Prop := fun c j => vM c j ∨ (c = 53 ∧ j = 0)
def qK (M : Nat → Int → Prop) : Prop := ∀ c j, M c j → c < 53 ∨ c = 59 ∨ 70 ≤ c ∨ (c = 53 ∧ (j < 6 ∨ (6 < j ∧ j < 16) ∨ (16 < j ∧ j < 19) ∨ 29 < j))
theorem q0 {σ : St} {v : Int} : fr (fun c j => c = 53 ∧ j = 0) σ (sI σ 53 0 v) := fr_sI fr_refl ⟨rfl, rfl⟩
theorem qK0 : qK (fun c j => c = 53 ∧ j = 0) := fun c j k => by omega
theorem q0q {σ : St} {v : Int} : fr qM σ (sI σ 53 0 v) := fr_sI fr_refl (Or.inr ⟨rfl, rfl⟩)
section LQ
variable {t : Nat} {σ : St} {Q : Res → St → Prop} {P : Pg} {xs : List Int} {lim : Int}
theorem frq {σ σ' : St} (g : fr vM σ σ') : fr qM σ σ' := fr_mono g (fun c j k => Or.inl k)
theorem frq0 {σ σ' : St} {v : Int} (g : fr vM (sI σ 53 0 v) σ') : gI σ' 53 0 = v ∧ fr qM σ σ' := ⟨(fr_I g _ _ (by unfold vM; omega)).trans (by rw [gI_sI, if_pos ⟨rfl, rfl⟩]), fr_trans q0q (frq g)⟩
theorem nc_cn (xs : List Int) (f : Int) : ∀ n : Nat, cn (fun i => decide (la xs i < (f + 1) * 2353)) n - cn (fun i => decide (la xs i < f * 2353)) n = cn (fun i => decide (la xs i / 2353 = f)) n
  | 0 => rfl
  | n + 1 => by
    have := nc_cn xs f n
    rw [cn_succ, cn_succ, cn_succ]
    by_cases a : la xs n < f * 2353
    · rw [if_pos (by rw [decide_eq_true_eq]; omega), if_pos (by rw [decide_eq_true_eq]; exact a), if_neg (by rw [decide_eq_true_eq]; omega)]; omega
    · by_cases b : la xs n < (f + 1) * 2353
      · rw [if_pos (by rw [decide_eq_true_eq]; exact b), if_neg (by rw [decide_eq_true_eq]; exact a), if_pos (by rw [decide_eq_true_eq]; omega)]; omega
      · rw [if_neg (by rw [decide_eq_true_eq]; exact b), if_neg (by rw [decide_eq_true_eq]; exact a), if_neg (by rw [decide_eq_true_eq]; omega)]; omega
theorem cod_len {k : Int} (h0 : 0 ≤ k) (h1 : k < 2353) : cod k / 10000 = lenK k := by
  unfold cod lenK
  split
  · omega
  · split <;> omega
/-- what contextCall says of a key -/
theorem cod_cal {k p : Int} (h0 : 0 ≤ k) (h1 : k < 2353) (p0 : 0 ≤ p) (p1 : p < lenK k) : (if cod k / 10000 = 2 ∧ p = 0 then (cod k / 100) % 100 else cod k % 100) = calK k p := by
  unfold lenK at p1
  unfold calK lst cod
  by_cases a : k = 0
  · rw [if_pos a] at p1; omega
  · rw [if_neg a] at p1
    rw [if_neg a]
    by_cases b : k < 49
    · rw [if_pos b] at p1
      rw [if_pos b, if_neg (by omega), if_neg (by omega), if_neg (by omega)]; omega
    · rw [if_neg b] at p1
      rw [if_neg b]
      by_cases c : p = 0
      · rw [if_pos ⟨by omega, c⟩, if_pos ⟨by omega, c⟩]; omega
      · rw [if_neg (fun k => c k.2), if_neg (fun k => c k.2), if_pos (by omega)]; omega
def kyA (xs : List Int) (f k : Int) : Int := la xs (cbl xs (f * 2353) + k) % 2353
theorem kyA_rng (xs : List Int) (f k : Int) : 0 ≤ kyA xs f k ∧ kyA xs f k < 2353 := by unfold kyA; omega
end LQ

