/-! the law: measures, saving -/
def sm (g : Int → Int) : Nat → Int
  | 0 => 0
  | n + 1 => sm g n + g n
theorem sm_rng {g : Int → Int} {b : Int} (hg : ∀ v, 0 ≤ g v ∧ g v ≤ b) : ∀ n : Nat, 0 ≤ sm g n ∧ sm g n ≤ n * b
  | 0 => ⟨Int.le_refl 0, by show (0 : Int) ≤ 0 * b; omega⟩
  | n + 1 => by
    have h := sm_rng hg n
    have := hg n
    show 0 ≤ sm g n + g n ∧ sm g n + g n ≤ ((n + 1 : Nat) : Int) * b
    rw [show ((n + 1 : Nat) : Int) * b = n * b + b by rw [Int.natCast_add, Int.add_mul]; show _ + 1 * b = _; omega]
    omega
noncomputable def ptN (P : Pg) (xs : List Int) (lim : Int) (v : Int) : Int := pw (wS (im xs (Lf P xs lim) v))
noncomputable def unN (P : Pg) (v : Int) : Int := pw (wS (ugT P (mny P 4 (-1)) v))
noncomputable def nzN (P : Pg) (xs : List Int) (lim : Int) (v : Int) : Int := if 0 < ptN P xs lim v then 1 else 0
theorem ptN_rng (P : Pg) (xs : List Int) (lim v : Int) : 0 ≤ ptN P xs lim v ∧ ptN P xs lim v ≤ 64 := pw_rng _
theorem unN_rng (P : Pg) (v : Int) : 0 ≤ unN P v ∧ unN P v ≤ 64 := pw_rng _
theorem nzN_rng (P : Pg) (xs : List Int) (lim v : Int) : 0 ≤ nzN P xs lim v ∧ nzN P xs lim v ≤ 1 := by unfold nzN; split <;> omega
theorem pw_z0 : pw (BitVec.ofNat 64 0) = 0 := by decide
theorem pw_pos {x : BitVec 64} : 0 < pw x ↔ x ≠ BitVec.ofNat 64 0 := by
  have h := (pw_rng x).1
  constructor
  · intro k e; rw [e, pw_z0] at k; omega
  · intro k
    apply Classical.byContradiction
    intro hn
    exact k (pw_eq (x := BitVec.ofNat 64 0) (y := x) (fun j hj => by simp at hj) (by rw [pw_z0]; omega)).symm
section LMI
variable {t : Nat} {σ : St} {Q : Res → St → Prop} {P : Pg} {xs : List Int} {lim : Int}
/-- where the k-th saved number stands, and what it is -/
def lcC (k : Int) : Nat := if k = 0 then 53 else if k < 5 then 58 else 54 + ((k - 5) % 4).toNat
def lcI (k : Int) : Int := if k = 0 then 6 else if k < 5 then k - 1 else (k - 5) / 4
def psr (P : Pg) (lim k : Int) : Int := if k = 0 then lim else P (lcC k) (lcI k)
def pM : Nat → Int → Prop := fun c j => (c = 53 ∧ (j = 6 ∨ j = 43 ∨ j = 44)) ∨ (54 ≤ c ∧ c ≤ 58) ∨ c = 76
/-- within a pass: the first k numbers are passed -/
def PJ (P : Pg) (lim b k : Int) (σ0 σ : St) : Prop :=
  (gI σ 53 43 = b ∧ gI σ 53 44 = k) ∧ ((∀ i, 0 ≤ i → i < 197 → (i < k ∨ b = 0) → gI σ 76 i = psr P lim i) ∧ ((∀ i, 0 ≤ i → i < 197 → (i < k ∨ b ≠ 0) → gI σ (lcC i) (lcI i) = psr P lim i) ∧ fr pM σ0 σ))
theorem lc_inj {i k : Int} (i0 : 0 ≤ i) (k0 : 0 ≤ k) (h1 : lcC i = lcC k) (h2 : lcI i = lcI k) : i = k := by
  unfold lcC at h1
  unfold lcI at h2
  by_cases a : i = 0
  · by_cases b : k = 0
    · omega
    · rw [if_pos a, if_neg b] at h1
      split at h1 <;> omega
  · by_cases b : k = 0
    · rw [if_neg a, if_pos b] at h1
      split at h1 <;> omega
    · rw [if_neg a, if_neg b] at h1 h2
      by_cases c : i < 5
      · by_cases d : k < 5
        · rw [if_pos c, if_pos d] at h2; omega
        · rw [if_pos c, if_neg d] at h1; omega
      · by_cases d : k < 5
        · rw [if_neg c, if_pos d] at h1; omega
        · rw [if_neg c, if_neg d] at h1 h2; omega
theorem lc_rng {k : Int} (k0 : 0 ≤ k) : (lcC k = 53 ∧ lcI k = 6) ∨ (54 ≤ lcC k ∧ lcC k ≤ 58) := by
  unfold lcC lcI
  by_cases a : k = 0
  · exact Or.inl ⟨if_pos a, if_pos a⟩
  · rw [if_neg a]
    refine Or.inr ?_
    split <;> omega
theorem PJ_step {σ0 : St} {b k : Int} (k0 : 0 ≤ k) (k1 : k < 197) (h : PJ P lim b k σ0 σ) : PJ P lim b (k + 1) σ0 (sI (sI (sI σ 76 k (psr P lim k)) 53 44 (k + 1)) (lcC k) (lcI k) (psr P lim k)) := by
  obtain ⟨⟨h1, h2⟩, h3, h4, h5⟩ := h
  have hr := lc_rng k0
  refine ⟨⟨?_, ?_⟩, fun i i0 i1 hi => ?_, fun i i0 i1 hi => ?_, ?_⟩
  · rw [gI_sI, if_neg (by omega), gI_sI, if_neg (by omega), gI_sI, if_neg (by omega)]; exact h1
  · rw [gI_sI, if_neg (by omega), gI_sI, if_pos ⟨rfl, rfl⟩]
  · rw [gI_sI, if_neg (by omega), gI_sI, if_neg (by omega), gI_sI]
    by_cases q : i = k
    · rw [if_pos ⟨rfl, q⟩, q]
    · rw [if_neg (fun z => q z.2)]; exact h3 i i0 i1 (by omega)
  · have hri := lc_rng i0
    rw [gI_sI]
    by_cases q : lcC i = lcC k ∧ lcI i = lcI k
    · rw [if_pos q, lc_inj i0 k0 q.1 q.2]
    · have hne : i ≠ k := fun e => q (by rw [e]; exact ⟨rfl, rfl⟩)
      rw [if_neg q, gI_sI, if_neg (by omega), gI_sI, if_neg (by omega)]; exact h4 i i0 i1 (by omega)
  · exact fr_sI (fr_sI (fr_sI h5 (by unfold pM; omega)) (by unfold pM; omega)) (by unfold pM; omega)
/-- what is saved -/
def SV (P : Pg) (lim : Int) (σ : St) : Prop := ∀ i, 0 ≤ i → i < 197 → gI σ 76 i = psr P lim i
end LMI

