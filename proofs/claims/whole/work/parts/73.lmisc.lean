/-! the law: measures, saving -/
def sm (g : Int → Int) : Nat → Int
  | 0 => 0
  | n + 1 => sm g n + g n
theorem sm_rng {g : Int → Int} {b : Int} (hg : ∀ v, 0 ≤ g v ∧ g v ≤ b) : ∀ n : Nat, 0 ≤ sm g n ∧ sm g n ≤ n * b
  | 0 => ⟨Int.le_refl 0, by show (0 : Int) ≤ 0 * b; omega⟩
  | n + 1 => by
    have h := sm_rng hg n
    have := hg n
    show 0 ≤ sm g n + g n ∧ sm g n + g n ≤ ((n + 1 : Nat) : Int) * b
    rw [show ((n + 1 : Nat) : Int) * b = n * b + b by rw [Int.natCast_add, Int.add_mul]; show _ + 1 * b = _; omega]
    omega
noncomputable def ptN (P : Pg) (xs : List Int) (lim : Int) (v : Int) : Int := pw (wS (im xs (Lf P xs lim) v))
noncomputable def unN (P : Pg) (v : Int) : Int := pw (wS (ugT P (mny P 4 (-1)) v))
noncomputable def nzN (P : Pg) (xs : List Int) (lim : Int) (v : Int) : Int := if 0 < ptN P xs lim v then 1 else 0
theorem ptN_rng (P : Pg) (xs : List Int) (lim v : Int) : 0 ≤ ptN P xs lim v ∧ ptN P xs lim v ≤ 64 := pw_rng _
theorem unN_rng (P : Pg) (v : Int) : 0 ≤ unN P v ∧ unN P v ≤ 64 := pw_rng _
theorem nzN_rng (P : Pg) (xs : List Int) (lim v : Int) : 0 ≤ nzN P xs lim v ∧ nzN P xs lim v ≤ 1 := by unfold nzN; split <;> omega
theorem pw_z0 : pw (BitVec.ofNat 64 0) = 0 := by decide
theorem pw_pos {x : BitVec 64} : 0 < pw x ↔ x ≠ BitVec.ofNat 64 0 := by
  have h := (pw_rng x).1
  constructor
  · intro k e; rw [e, pw_z0] at k; omega
  · intro k
    apply Classical.byContradiction
    intro hn
    exact k (pw_eq (x := BitVec.ofNat 64 0) (y := x) (fun j hj => by simp at hj) (by rw [pw_z0]; omega)).symm
section LMI
variable {t : Nat} {σ : St} {Q : Res → St → Prop} {P : Pg} {xs : List Int} {lim : Int}
theorem prl (hP : okP P) (hl : 0 ≤ lim ∧ lim ≤ 2) (hC : isC P lim xs) {σ0 : St} (hq : ∀ σ' a3, LQ P lim xs σ' → fr vM σ0 σ' → wp t 272 40 [some (vR 53), some (vI (sm (ptN P xs lim) 20)), some (vI (sm (unN P) 20)), a3] [] σ' Q) :
    ∀ (d : Nat) (i : Nat) (σ1 : St), i + d = 20 → LQ P lim xs σ1 → fr vM σ0 σ1 → wp t 272 6 [some (vR 53), some (vI (sm (ptN P xs lim) i)), some (vI (sm (unN P) i)), some (vI i)] [] σ1 Q
  | 0, i, σ1, hd, h, hf => by
    have e : i = 20 := by omega
    subst e
    rw [x272_6]
    exact ⟨⟨by omega, by omega⟩, fun a => by omega, fun _ => hq σ1 _ h hf⟩
  | d + 1, i, σ1, hd, h, hf => by
    rw [x272_6]
    refine ⟨⟨by omega, by omega⟩, fun _ => ?_, fun a => by omega⟩
    rw [x272_12]
    refine c227 hP hl hC h (by omega) (by omega) (fun σ2 g1 g2 => ?_)
    simp only [x272_18, e178, x272_21, aft_l, aft_r, optL_s, optL_n, xgo_n, xgo_s, List.cons_append, List.nil_append, List.append_nil, true_and, and_true, Nat.sub_zero, Nat.zero_le, true_implies, false_implies, implies_true, not_true_eq_false, not_false_eq_true, true_or, or_true]
    refine c248 hP hl hC (FQ_LQ g1) (by omega) (by omega) (fun σ3 g3 g4 => ?_)
    simp only [x272_29, e178, x272_32, aft_l, aft_r, optL_s, optL_n, xgo_n, xgo_s, List.cons_append, List.nil_append, List.append_nil, true_and, and_true, Nat.sub_zero, Nat.zero_le, true_implies, false_implies, implies_true, not_true_eq_false, not_false_eq_true, true_or, or_true]
    exact prl hP hl hC hq d (i + 1) σ3 (by omega) (FQ_LQ g3) (fr_trans hf (fr_trans g2 g4))
/-- precision -/
theorem c272 (hP : okP P) (hl : 0 ≤ lim ∧ lim ≤ 2) (hC : isC P lim xs) (h : LQ P lim xs σ) (h0 : sm (unN P) 20 = 0 → ∀ σ', LQ P lim xs σ' → gI σ' 53 0 = 1 → fr qM σ σ' → Q (.inl (some (vD 0))) σ')
    (h1 : sm (unN P) 20 ≠ 0 → ∀ σ', LQ P lim xs σ' → gI σ' 53 0 = 0 → fr qM σ σ' → Q (.inl (some (vD (FP.ddiv (dbl (sm (ptN P xs lim) 20)) (dbl (sm (unN P) 20)))))) σ') : Call t 272 [vR 53] σ Q := by
  have rA := sm_rng (ptN_rng P xs lim) 20
  have rB := sm_rng (unN_rng P) 20
  rw [x272_0]
  refine prl hP hl hC (σ0 := σ) (fun σ' a3 g1 g2 => ?_) 20 0 σ (by omega) h fr_refl
  have hz : ∀ v, LQ P lim xs (sI σ' 53 0 v) := fun v => LQ_fr g1 q0 qK0
  have hv : ∀ v, gI (sI σ' 53 0 v) 53 0 = v := fun v => by rw [gI_sI, if_pos ⟨rfl, rfl⟩]
  rw [x272_40]
  refine ⟨⟨by omega, by omega⟩, fun a => ?_, fun a => ?_⟩
  · rw [x272_45, x272_50]
    refine ⟨⟨by omega, by omega⟩, fun _ => ?_, fun k => absurd a k⟩
    rw [x272_57, x272_66]
    exact h0 a _ (hz 1) (hv 1) (fr_trans (frq g2) q0q)
  · rw [x272_49, x272_50]
    refine ⟨⟨by omega, by omega⟩, fun k => absurd k a, fun _ => ?_⟩
    rw [x272_61, x272_66]
    exact ⟨n64_div rA.1 (by omega) (by omega) (by omega), h1 a _ (hz 0) (hv 0) (fr_trans (frq g2) q0q)⟩
theorem avl (hP : okP P) (hl : 0 ≤ lim ∧ lim ≤ 2) (hC : isC P lim xs) {σ0 : St} (hq : ∀ σ' a3, LQ P lim xs σ' → fr vM σ0 σ' → wp t 273 47 [some (vR 53), some (vI (sm (ptN P xs lim) 20)), some (vI (sm (nzN P xs lim) 20)), a3] [] σ' Q) :
    ∀ (d : Nat) (i : Nat) (σ1 : St), i + d = 20 → LQ P lim xs σ1 → fr vM σ0 σ1 → wp t 273 6 [some (vR 53), some (vI (sm (ptN P xs lim) i)), some (vI (sm (nzN P xs lim) i)), some (vI i)] [] σ1 Q
  | 0, i, σ1, hd, h, hf => by
    have e : i = 20 := by omega
    subst e
    rw [x273_6]
    exact ⟨⟨by omega, by omega⟩, fun a => by omega, fun _ => hq σ1 _ h hf⟩
  | d + 1, i, σ1, hd, h, hf => by
    rw [x273_6]
    refine ⟨⟨by omega, by omega⟩, fun _ => ?_, fun a => by omega⟩
    rw [x273_12]
    refine c227 hP hl hC h (by omega) (by omega) (fun σ2 g1 g2 => ?_)
    have ih := avl hP hl hC hq d (i + 1) σ2 (by omega) (FQ_LQ g1) (fr_trans hf g2)
    simp only [x273_18, e178, x273_21, e227 hP hl hC g1 (show (0 : Int) ≤ i by omega) (show (i : Int) < 44 by omega), x273_29, lCmp_eq, eq_true lCmp_in, aft_l, aft_r, optL_s, optL_n, xgo_n, xgo_s, List.cons_append, List.nil_append, List.append_nil, true_and, and_true, Nat.sub_zero, Nat.zero_le, true_implies, false_implies, implies_true, not_true_eq_false, not_false_eq_true, true_or, or_true]
    have key := pw_pos (x := wS (im xs (Lf P xs lim) i))
    refine ⟨fun a => ?_, fun a => ?_⟩
    · have hn : nzN P xs lim i = 0 := if_neg (fun k => (key.mp k) a)
      have e : sm (nzN P xs lim) (i + 1) = sm (nzN P xs lim) i + 0 := by show _ + nzN P xs lim i = _; rw [hn]
      rw [e] at ih
      rw [x273_38, x273_39]; exact ih
    · have hn : nzN P xs lim i = 1 := if_pos (key.mpr a)
      have e : sm (nzN P xs lim) (i + 1) = sm (nzN P xs lim) i + 1 := by show _ + nzN P xs lim i = _; rw [hn]
      rw [e] at ih
      rw [x273_34, x273_39]; exact ih
/-- averageTargets -/
theorem c273 (hP : okP P) (hl : 0 ≤ lim ∧ lim ≤ 2) (hC : isC P lim xs) (h : LQ P lim xs σ) (h0 : sm (nzN P xs lim) 20 = 0 → ∀ σ', LQ P lim xs σ' → gI σ' 53 0 = 1 → fr qM σ σ' → Q (.inl (some (vF 0))) σ')
    (h1 : sm (nzN P xs lim) 20 ≠ 0 → ∀ σ', LQ P lim xs σ' → gI σ' 53 0 = 0 → fr qM σ σ' → Q (.inl (some (vF (FP.fdiv (flt (sm (ptN P xs lim) 20)) (flt (sm (nzN P xs lim) 20)))))) σ') : Call t 273 [vR 53] σ Q := by
  have rA := sm_rng (ptN_rng P xs lim) 20
  have rB := sm_rng (nzN_rng P xs lim) 20
  rw [x273_0]
  refine avl hP hl hC (σ0 := σ) (fun σ' a3 g1 g2 => ?_) 20 0 σ (by omega) h fr_refl
  have hz : ∀ v, LQ P lim xs (sI σ' 53 0 v) := fun v => LQ_fr g1 q0 qK0
  have hv : ∀ v, gI (sI σ' 53 0 v) 53 0 = v := fun v => by rw [gI_sI, if_pos ⟨rfl, rfl⟩]
  rw [x273_47]
  refine ⟨⟨by omega, by omega⟩, fun a => ?_, fun a => ?_⟩
  · rw [x273_52, x273_57]
    refine ⟨⟨by omega, by omega⟩, fun _ => ?_, fun k => absurd a k⟩
    rw [x273_64, x273_73]
    exact h0 a _ (hz 1) (hv 1) (fr_trans (frq g2) q0q)
  · rw [x273_56, x273_57]
    refine ⟨⟨by omega, by omega⟩, fun k => absurd k a, fun _ => ?_⟩
    rw [x273_68, x273_73]
    exact ⟨n32_div rA.1 (by omega) (by omega) (by omega), h1 a _ (hz 0) (hv 0) (fr_trans (frq g2) q0q)⟩
/-- where the k-th saved number stands, and what it is -/
def lcC (k : Int) : Nat := if k = 0 then 53 else if k < 5 then 58 else 54 + ((k - 5) % 4).toNat
def lcI (k : Int) : Int := if k = 0 then 6 else if k < 5 then k - 1 else (k - 5) / 4
def psr (P : Pg) (lim k : Int) : Int := if k = 0 then lim else P (lcC k) (lcI k)
def pM : Nat → Int → Prop := fun c j => (c = 53 ∧ (j = 6 ∨ j = 43 ∨ j = 44)) ∨ (54 ≤ c ∧ c ≤ 58) ∨ c = 76
/-- within a pass: the first k numbers are passed -/
def PJ (P : Pg) (lim b k : Int) (σ0 σ : St) : Prop :=
  (gI σ 53 43 = b ∧ gI σ 53 44 = k) ∧ ((∀ i, 0 ≤ i → i < 197 → (i < k ∨ b = 0) → gI σ 76 i = psr P lim i) ∧ ((∀ i, 0 ≤ i → i < 197 → (i < k ∨ b ≠ 0) → gI σ (lcC i) (lcI i) = psr P lim i) ∧ fr pM σ0 σ))
theorem lc_inj {i k : Int} (i0 : 0 ≤ i) (k0 : 0 ≤ k) (h1 : lcC i = lcC k) (h2 : lcI i = lcI k) : i = k := by
  unfold lcC at h1
  unfold lcI at h2
  by_cases a : i = 0
  · by_cases b : k = 0
    · omega
    · rw [if_pos a, if_neg b] at h1
      split at h1 <;> omega
  · by_cases b : k = 0
    · rw [if_neg a, if_pos b] at h1
      split at h1 <;> omega
    · rw [if_neg a, if_neg b] at h1 h2
      by_cases c : i < 5
      · by_cases d : k < 5
        · rw [if_pos c, if_pos d] at h2; omega
        · rw [if_pos c, if_neg d] at h1; omega
      · by_cases d : k < 5
        · rw [if_neg c, if_pos d] at h1; omega
        · rw [if_neg c, if_neg d] at h1 h2; omega
theorem lc_rng {k : Int} (k0 : 0 ≤ k) : (lcC k = 53 ∧ lcI k = 6) ∨ (54 ≤ lcC k ∧ lcC k ≤ 58) := by
  unfold lcC lcI
  by_cases a : k = 0
  · exact Or.inl ⟨if_pos a, if_pos a⟩
  · rw [if_neg a]
    refine Or.inr ?_
    split <;> omega
theorem PJ_step {σ0 : St} {b k : Int} (k0 : 0 ≤ k) (k1 : k < 197) (h : PJ P lim b k σ0 σ) : PJ P lim b (k + 1) σ0 (sI (sI (sI σ 76 k (psr P lim k)) 53 44 (k + 1)) (lcC k) (lcI k) (psr P lim k)) := by
  obtain ⟨⟨h1, h2⟩, h3, h4, h5⟩ := h
  have hr := lc_rng k0
  refine ⟨⟨?_, ?_⟩, fun i i0 i1 hi => ?_, fun i i0 i1 hi => ?_, ?_⟩
  · rw [gI_sI, if_neg (by omega), gI_sI, if_neg (by omega), gI_sI, if_neg (by omega)]; exact h1
  · rw [gI_sI, if_neg (by omega), gI_sI, if_pos ⟨rfl, rfl⟩]
  · rw [gI_sI, if_neg (by omega), gI_sI, if_neg (by omega), gI_sI]
    by_cases q : i = k
    · rw [if_pos ⟨rfl, q⟩, q]
    · rw [if_neg (fun z => q z.2)]; exact h3 i i0 i1 (by omega)
  · have hri := lc_rng i0
    rw [gI_sI]
    by_cases q : lcC i = lcC k ∧ lcI i = lcI k
    · rw [if_pos q, lc_inj i0 k0 q.1 q.2]
    · have hne : i ≠ k := fun e => q (by rw [e]; exact ⟨rfl, rfl⟩)
      rw [if_neg q, gI_sI, if_neg (by omega), gI_sI, if_neg (by omega)]; exact h4 i i0 i1 (by omega)
  · exact fr_sI (fr_sI (fr_sI h5 (by unfold pM; omega)) (by unfold pM; omega)) (by unfold pM; omega)
/-- passes -/
theorem c274 {σ0 : St} {b k : Int} (hb : b = 0 ∨ b = 1) (k0 : 0 ≤ k) (k1 : k < 197) (h : PJ P lim b k σ0 σ) (hq : Q (.inl (some (vI (psr P lim k)))) (sI (sI σ 76 k (psr P lim k)) 53 44 (k + 1))) : Call t 274 [vR 53, vI (gI σ (lcC k) (lcI k))] σ Q := by
  obtain ⟨⟨h1, h2⟩, h3, h4, h5⟩ := h
  have e44 : ∀ v, gI (sI σ 76 k v) 53 44 = k := fun v => by rw [gI_rne (by decide)]; exact h2
  rw [x274_0, h1]
  refine ⟨by rcases hb with e | e <;> rw [e] <;> decide, fun a => ?_, fun a => ?_⟩
  · rw [x274_11, h2, h3 k k0 k1 (Or.inr a), x274_20, h2, e44]
    exact ⟨⟨k0, by omega⟩, ⟨k0, by omega⟩, hq⟩
  · rw [x274_7, h4 k k0 k1 (Or.inr a), x274_20, h2, e44]
    exact ⟨⟨k0, by omega⟩, hq⟩
theorem c274' {σ0 : St} {b k : Int} {c : Nat} {j : Int} (hb : b = 0 ∨ b = 1) (k0 : 0 ≤ k) (k1 : k < 197) (hc : lcC k = c) (hj : lcI k = j) (h : PJ P lim b k σ0 σ) (hq : PJ P lim b (k + 1) σ0 (sI (sI (sI σ 76 k (psr P lim k)) 53 44 (k + 1)) c j (psr P lim k)) → Q (.inl (some (vI (psr P lim k)))) (sI (sI σ 76 k (psr P lim k)) 53 44 (k + 1))) : Call t 274 [vR 53, vI (gI σ c j)] σ Q := by
  subst hc hj
  exact c274 hb k0 k1 h (hq (PJ_step k0 k1 h))
theorem psl1 {σ0 : St} {b : Int} (hb : b = 0 ∨ b = 1) (hq : ∀ σ' a1, PJ P lim b 5 σ0 σ' → wp t 275 51 [some (vR 53), a1, some (vI 4)] [] σ' Q) :
    ∀ (d : Nat) (i : Int) (σ1 : St) (a1 : Option AV), 0 ≤ i → i + d = 4 → PJ P lim b (1 + i) σ0 σ1 → wp t 275 24 [some (vR 53), a1, some (vI i)] [] σ1 Q
  | 0, i, σ1, a1, i0, hd, h => by
    have e : i = 4 := by omega
    subst e
    rw [x275_24]
    exact ⟨⟨by omega, by omega⟩, fun a => by omega, fun _ => hq σ1 _ h⟩
  | d + 1, i, σ1, a1, i0, hd, h => by
    rw [x275_24]
    refine ⟨⟨by omega, by omega⟩, fun _ => ?_, fun a => by omega⟩
    rw [x275_29]
    refine ⟨by omega, c274' hb (k := 1 + i) (by omega) (by omega) (c := 58) (j := i) (by unfold lcC; rw [if_neg (by omega), if_pos (by omega)]) (by unfold lcI; rw [if_neg (by omega), if_pos (by omega)]; omega) h (fun g => ?_)⟩
    simp only [x275_44, aft_l, aft_r, optL_s, optL_n, xgo_n, xgo_s, List.cons_append, List.nil_append, List.append_nil, true_and, and_true, Nat.sub_zero, Nat.zero_le, true_implies, false_implies, implies_true, not_true_eq_false, not_false_eq_true, true_or, or_true]
    exact ⟨by omega, psl1 hb hq d (i + 1) _ _ (by omega) (by omega) (by rw [show 1 + (i + 1) = 1 + i + 1 by omega]; exact g)⟩
theorem psl2 {σ0 : St} {b : Int} (hb : b = 0 ∨ b = 1) (hq : ∀ σ' a1 a2, PJ P lim b 197 σ0 σ' → wp t 275 129 [some (vR 53), a1, a2] [] σ' Q) :
    ∀ (d : Nat) (i : Int) (σ1 : St) (a1 : Option AV), 0 ≤ i → i + d = 48 → PJ P lim b (5 + 4 * i) σ0 σ1 → wp t 275 53 [some (vR 53), a1, some (vI i)] [] σ1 Q
  | 0, i, σ1, a1, i0, hd, h => by
    have e : i = 48 := by omega
    subst e
    rw [x275_53]
    exact ⟨⟨by omega, by omega⟩, fun a => by omega, fun _ => hq σ1 _ _ h⟩
  | d + 1, i, σ1, a1, i0, hd, h => by
    have lcn : ∀ j : Int, 0 ≤ j → j < 4 → lcC (5 + 4 * i + j) = 54 + j.toNat ∧ lcI (5 + 4 * i + j) = i := fun j j0 j1 => by
      unfold lcC lcI
      rw [if_neg (by omega), if_neg (by omega), if_neg (by omega), if_neg (by omega)]
      omega
    rw [x275_53]
    refine ⟨⟨by omega, by omega⟩, fun _ => ?_, fun a => by omega⟩
    rw [x275_59]
    refine ⟨by omega, c274' hb (k := 5 + 4 * i) (by omega) (by omega) (c := 54) (j := i) (by have := (lcn 0 (by omega) (by omega)).1; rw [Int.add_zero] at this; exact this) (by have := (lcn 0 (by omega) (by omega)).2; rw [Int.add_zero] at this; exact this) h (fun g1 => ?_)⟩
    simp only [x275_74, aft_l, aft_r, optL_s, optL_n, xgo_n, xgo_s, List.cons_append, List.nil_append, List.append_nil, true_and, and_true, Nat.sub_zero, Nat.zero_le, true_implies, false_implies, implies_true, not_true_eq_false, not_false_eq_true, true_or, or_true]
    refine ⟨by omega, by omega, c274' hb (k := 5 + 4 * i + 1) (by omega) (by omega) (c := 55) (j := i) (lcn 1 (by omega) (by omega)).1 (lcn 1 (by omega) (by omega)).2 g1 (fun g2 => ?_)⟩
    simp only [x275_90, aft_l, aft_r, optL_s, optL_n, xgo_n, xgo_s, List.cons_append, List.nil_append, List.append_nil, true_and, and_true, Nat.sub_zero, Nat.zero_le, true_implies, false_implies, implies_true, not_true_eq_false, not_false_eq_true, true_or, or_true]
    refine ⟨by omega, by omega, c274' hb (k := 5 + 4 * i + 1 + 1) (by omega) (by omega) (c := 56) (j := i) (by rw [show 5 + 4 * i + 1 + 1 = 5 + 4 * i + 2 by omega]; exact (lcn 2 (by omega) (by omega)).1) (by rw [show 5 + 4 * i + 1 + 1 = 5 + 4 * i + 2 by omega]; exact (lcn 2 (by omega) (by omega)).2) g2 (fun g3 => ?_)⟩
    simp only [x275_106, aft_l, aft_r, optL_s, optL_n, xgo_n, xgo_s, List.cons_append, List.nil_append, List.append_nil, true_and, and_true, Nat.sub_zero, Nat.zero_le, true_implies, false_implies, implies_true, not_true_eq_false, not_false_eq_true, true_or, or_true]
    refine ⟨by omega, by omega, c274' hb (k := 5 + 4 * i + 1 + 1 + 1) (by omega) (by omega) (c := 57) (j := i) (by rw [show 5 + 4 * i + 1 + 1 + 1 = 5 + 4 * i + 3 by omega]; exact (lcn 3 (by omega) (by omega)).1) (by rw [show 5 + 4 * i + 1 + 1 + 1 = 5 + 4 * i + 3 by omega]; exact (lcn 3 (by omega) (by omega)).2) g3 (fun g4 => ?_)⟩
    simp only [x275_122, aft_l, aft_r, optL_s, optL_n, xgo_n, xgo_s, List.cons_append, List.nil_append, List.append_nil, true_and, and_true, Nat.sub_zero, Nat.zero_le, true_implies, false_implies, implies_true, not_true_eq_false, not_false_eq_true, true_or, or_true]
    exact ⟨by omega, psl2 hb hq d (i + 1) _ _ (by omega) (by omega) (by rw [show 5 + 4 * (i + 1) = 5 + 4 * i + 1 + 1 + 1 + 1 by omega]; exact g4)⟩
/-- what is saved -/
def SV (P : Pg) (lim : Int) (σ : St) : Prop := ∀ i, 0 ≤ i → i < 197 → gI σ 76 i = psr P lim i
/-- passState -/
theorem c275 {b : Int} (hb : b = 0 ∨ b = 1) (h0 : b = 0 → SV P lim σ) (h1 : b = 1 → LPr σ P ∧ gI σ 53 6 = lim) (hq : ∀ σ', LPr σ' P → gI σ' 53 6 = lim → SV P lim σ' → fr pM σ σ' → Q (.inl none) σ') : Call t 275 [vR 53, vI b] σ Q := by
  have e6 : gI (sI (sI σ 53 43 b) 53 44 0) 53 6 = gI σ 53 6 := by simp only [gI_sI, gI_sI, gL_sI, gD_sI, gI_sL, gL_sL, gD_sL, gI_sD, gL_sD, gD_sD, Nat.reduceEqDiff, Int.reduceEq, reduceCtorEq, false_and, and_false, and_self, if_true, if_false, not_false_eq_true, not_true_eq_false]
  have hJ : PJ P lim b 0 σ (sI (sI σ 53 43 b) 53 44 0) := by
    refine ⟨⟨by simp only [gI_sI, gI_sI, gL_sI, gD_sI, gI_sL, gL_sL, gD_sL, gI_sD, gL_sD, gD_sD, Nat.reduceEqDiff, Int.reduceEq, reduceCtorEq, false_and, and_false, and_self, if_true, if_false, not_false_eq_true, not_true_eq_false], by simp only [gI_sI, gI_sI, gL_sI, gD_sI, gI_sL, gL_sL, gD_sL, gI_sD, gL_sD, gD_sD, Nat.reduceEqDiff, Int.reduceEq, reduceCtorEq, false_and, and_false, and_self, if_true, if_false, not_false_eq_true, not_true_eq_false]⟩, fun i i0 i1 hi => ?_, fun i i0 i1 hi => ?_, fr_sI (fr_sI fr_refl (by unfold pM; omega)) (by unfold pM; omega)⟩
    · rw [gI_rne (by decide), gI_rne (by decide)]
      exact h0 (by omega) i i0 i1
    · have hr := lc_rng i0
      obtain ⟨k1, k2⟩ := h1 (by omega)
      rw [gI_sI, if_neg (by omega), gI_sI, if_neg (by omega)]
      unfold psr
      by_cases a : i = 0
      · rw [if_pos a]
        unfold lcC lcI
        rw [if_pos a, if_pos a]; exact k2
      · rw [if_neg a]
        unfold lcC lcI
        rw [if_neg a, if_neg a]
        by_cases c : i < 5
        · rw [if_pos c, if_pos c]; exact k1.2 _ (by omega) (by omega)
        · rw [if_neg c, if_neg c]; exact k1.1 _ _ (by omega) (by omega) (by omega) (by omega)
  rw [x275_0]
  refine ⟨hb, c274' hb (k := 0) (by omega) (by omega) (c := 53) (j := 6) rfl rfl hJ (fun g => ?_)⟩
  simp only [x275_19, aft_l, aft_r, optL_s, optL_n, xgo_n, xgo_s, List.cons_append, List.nil_append, List.append_nil, true_and, and_true, Nat.sub_zero, Nat.zero_le, true_implies, false_implies, implies_true, not_true_eq_false, not_false_eq_true, true_or, or_true]
  refine psl1 hb (fun σ1 a1 g1 => ?_) 4 0 _ _ (by omega) (by omega) g
  simp only [x275_51, aft_l, aft_r, optL_s, optL_n, xgo_n, xgo_s, List.cons_append, List.nil_append, List.append_nil, true_and, and_true, Nat.sub_zero, Nat.zero_le, true_implies, false_implies, implies_true, not_true_eq_false, not_false_eq_true, true_or, or_true]
  refine psl2 hb (fun σ2 a1' a2' g2 => ?_) 48 0 _ _ (by omega) (by omega) g1
  rw [x275_129]
  obtain ⟨-, k1, k2, k3⟩ := g2
  refine hq σ2 ⟨fun c j c0 c1 j0 j1 => ?_, fun j j0 j1 => ?_⟩ (k2 0 (by omega) (by omega) (Or.inl (by omega))) (fun i i0 i1 => k1 i i0 i1 (Or.inl i1)) k3
  · have e1 : lcC (5 + 4 * j + (((c - 54 : Nat)) : Int)) = c := by unfold lcC; rw [if_neg (by omega), if_neg (by omega)]; omega
    have e2 : lcI (5 + 4 * j + (((c - 54 : Nat)) : Int)) = j := by unfold lcI; rw [if_neg (by omega), if_neg (by omega)]; omega
    have := k2 (5 + 4 * j + (((c - 54 : Nat)) : Int)) (by omega) (by omega) (Or.inl (by omega))
    unfold psr at this
    rw [if_neg (by omega), e1, e2] at this
    exact this
  · have e1 : lcC (1 + j) = 58 := by unfold lcC; rw [if_neg (by omega), if_pos (by omega)]
    have e2 : lcI (1 + j) = j := by unfold lcI; rw [if_neg (by omega), if_pos (by omega)]; omega
    have := k2 (1 + j) (by omega) (by omega) (Or.inl (by omega))
    unfold psr at this
    rw [if_neg (by omega), e1, e2] at this
    exact this
end LMI
