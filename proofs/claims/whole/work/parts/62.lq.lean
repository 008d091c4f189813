/-! the law's questions: a fresh law, its contexts -/
noncomputable def wSa (S : Int → Prop) : Nat → BitVec 64
  | 0 => BitVec.ofNat 64 0
  | n + 1 => wSa S n ||| (if dcl (S n) = true then BitVec.ofNat 64 1 <<< n else BitVec.ofNat 64 0)
theorem wSa_bit (S : Int → Prop) : ∀ n : Nat, n ≤ 64 → ∀ t : Nat, (wSa S n).getLsbD t = true ↔ (t < n ∧ S t)
  | 0, _, t => by simp [wSa]
  | n + 1, hn, t => by
    show (wSa S n ||| _).getLsbD t = true ↔ _
    rw [BitVec.getLsbD_or, Bool.or_eq_true, wSa_bit S n (by omega) t]
    by_cases q : S n
    · rw [dcl_t q, if_pos rfl, bb_one (by omega), decide_eq_true_eq]
      constructor
      · rintro (⟨h, k⟩ | h)
        · exact ⟨by omega, k⟩
        · exact ⟨by omega, by rw [h]; exact q⟩
      · rintro ⟨h, k⟩
        by_cases e : t = n
        · exact Or.inr e
        · exact Or.inl ⟨by omega, k⟩
    · rw [dcl_f q, if_neg (by decide)]
      have z : (BitVec.ofNat 64 0).getLsbD t = false := by simp
      rw [z]
      constructor
      · rintro (⟨h, k⟩ | h)
        · exact ⟨by omega, k⟩
        · cases h
      · rintro ⟨h, k⟩
        by_cases e : t = n
        · rw [e] at k; exact absurd k q
        · exact Or.inl ⟨by omega, k⟩
/-- the word of a set -/
noncomputable def wS (S : Int → Prop) : BitVec 64 := wSa S 64
theorem SW_wS (S : Int → Prop) : SW (wS S) S := fun t ht => (wSa_bit S 64 (Nat.le_refl _) t).trans ⟨fun h => h.2, fun h => ⟨ht, h⟩⟩
theorem wS_of {l : BitVec 64} {S : Int → Prop} (h : SW l S) : l = wS S := SW_eq h (SW_wS S)
theorem wS_congr {S S' : Int → Prop} (h : ∀ t : Nat, t < 64 → (S t ↔ S' t)) : wS S = wS S' := wS_of (SW_congr (SW_wS S) h)
theorem wS_or (S S' : Int → Prop) : wS S ||| wS S' = wS (fun t => S t ∨ S' t) := wS_of (SW_or (SW_wS S) (SW_wS S'))
theorem wS_pw (S : Int → Prop) : pw (wS S) = cn (fun t => dcl (S t)) 64 := cn_congr (fun m m0 m1 => by
  have h := SW_wS S m.toNat (by omega)
  rw [show ((m.toNat : Nat) : Int) = m by omega] at h
  by_cases q : S m
  · rw [dcl_t q]; exact h.mpr q
  · rw [dcl_f q]
    cases z : (wS S).getLsbD m.toNat with
    | false => rfl
    | true => exact absurd (h.mp z) q)
theorem wS_z (S : Int → Prop) : wS S = BitVec.ofNat 64 0 ↔ ∀ t : Nat, t < 64 → ¬ S t := SW_z (SW_wS S)
theorem dcl_congr {p q : Prop} (h : p ↔ q) : dcl p = dcl q := by rw [propext h]
def LQ (P : Pg) (lim : Int) (xs : List Int) (σ : St) : Prop := LPr σ P ∧ (gI σ 53 6 = lim ∧ (gI σ 53 19 = 0 ∨ (gI σ 53 19 = 1 ∧ FRr P lim xs σ)))
def FQ (P : Pg) (lim : Int) (xs : List Int) (σ : St) : Prop := LPr σ P ∧ (gI σ 53 6 = lim ∧ (gI σ 53 19 = 1 ∧ FRr P lim xs σ))
def qM : Nat → Int → Prop := fun c j => vM c j ∨ (c = 53 ∧ j = 0)
def qK (M : Nat → Int → Prop) : Prop := ∀ c j, M c j → c < 53 ∨ c = 59 ∨ 70 ≤ c ∨ (c = 53 ∧ (j < 6 ∨ (6 < j ∧ j < 16) ∨ (16 < j ∧ j < 19) ∨ 29 < j))
theorem FRr_fr {M : Nat → Int → Prop} {P : Pg} {lim : Int} {xs : List Int} {σ σ' : St} (h : FRr P lim xs σ) (g : fr M σ σ') (hM : qK M) : FRr P lim xs σ' := by
  obtain ⟨h1, h2, h3, h4, N, tm, h5, h6⟩ := h
  have n : ∀ c j, ¬ (c < 53 ∨ c = 59 ∨ 70 ≤ c ∨ (c = 53 ∧ (j < 6 ∨ (6 < j ∧ j < 16) ∨ (16 < j ∧ j < 19) ∨ 29 < j))) → ¬ M c j := fun c j a b => a (hM c j b)
  refine ⟨h1, LX_fr h2 g (n _ _ (by omega)) (fun j => n _ _ (by omega)) (fun j => n _ _ (by omega)), fun c u => ?_, FRK_fr h4 g (fun j => n _ _ (by omega)) (fun j => n _ _ (by omega)) (n _ _ (by omega)), N, tm, LU_fr h5 g (fun j => n _ _ (by omega)) (fun j => n _ _ (by omega)) (n _ _ (by omega)), h6⟩
  rw [Gc_fr g (fun j => n _ _ (by omega))]; exact h3 c u
theorem FQ_fr {M : Nat → Int → Prop} {P : Pg} {lim : Int} {xs : List Int} {σ σ' : St} (h : FQ P lim xs σ) (g : fr M σ σ') (hM : qK M) : FQ P lim xs σ' := by
  have n : ∀ c j, ¬ (c < 53 ∨ c = 59 ∨ 70 ≤ c ∨ (c = 53 ∧ (j < 6 ∨ (6 < j ∧ j < 16) ∨ (16 < j ∧ j < 19) ∨ 29 < j))) → ¬ M c j := fun c j a b => a (hM c j b)
  exact ⟨LP_fr h.1 g (fun c j k => by have := hM c j k; omega), (fr_I g _ _ (n _ _ (by omega))).trans h.2.1, (fr_I g _ _ (n _ _ (by omega))).trans h.2.2.1, FRr_fr h.2.2.2 g hM⟩
theorem LQ_fr {M : Nat → Int → Prop} {P : Pg} {lim : Int} {xs : List Int} {σ σ' : St} (h : LQ P lim xs σ) (g : fr M σ σ') (hM : qK M) : LQ P lim xs σ' := by
  have n : ∀ c j, ¬ (c < 53 ∨ c = 59 ∨ 70 ≤ c ∨ (c = 53 ∧ (j < 6 ∨ (6 < j ∧ j < 16) ∨ (16 < j ∧ j < 19) ∨ 29 < j))) → ¬ M c j := fun c j a b => a (hM c j b)
  refine ⟨LP_fr h.1 g (fun c j k => by have := hM c j k; omega), (fr_I g _ _ (n _ _ (by omega))).trans h.2.1, ?_⟩
  rcases h.2.2 with k | ⟨k1, k2⟩
  · exact Or.inl ((fr_I g _ _ (n _ _ (by omega))).trans k)
  · exact Or.inr ⟨(fr_I g _ _ (n _ _ (by omega))).trans k1, FRr_fr k2 g hM⟩
theorem FQ_LQ {P : Pg} {lim : Int} {xs : List Int} {σ : St} (h : FQ P lim xs σ) : LQ P lim xs σ := ⟨h.1, h.2.1, Or.inr h.2.2⟩
theorem q0 {σ : St} {v : Int} : fr (fun c j => c = 53 ∧ j = 0) σ (sI σ 53 0 v) := fr_sI fr_refl ⟨rfl, rfl⟩
theorem qK0 : qK (fun c j => c = 53 ∧ j = 0) := fun c j k => by omega
theorem q0q {σ : St} {v : Int} : fr qM σ (sI σ 53 0 v) := fr_sI fr_refl (Or.inr ⟨rfl, rfl⟩)
section LQ
variable {t : Nat} {σ : St} {Q : Res → St → Prop} {P : Pg} {xs : List Int} {lim : Int}
theorem e175 {i : Int} : Call t 175 [vR 53, vI i] σ Q ↔ Q (.inl (some (vI 0))) (sI σ 53 0 i) := by rw [x175_0]
theorem e176 {i : Int} : Call t 176 [vR 53, vI i] σ Q ↔ Q (.inl (some (vI 0))) (sI σ 53 0 i) := by rw [x176_0]
theorem e219 (hP : okP P) (hl : 0 ≤ lim ∧ lim ≤ 2) (h : FQ P lim xs σ) : Call t 219 [vR 53] σ Q ↔ Q (.inl none) σ := Call_iff (fun Q hq => c219 hP hl h.1 h.2.1 (Or.inr h.2.2.1) (fun _ => hq) (fun e => by rw [h.2.2.1] at e; cases e))
theorem c219q (hP : okP P) (hl : 0 ≤ lim ∧ lim ≤ 2) (hC : isC P lim xs) (h : LQ P lim xs σ) (hq : ∀ σ', FQ P lim xs σ' → fr vM σ σ' → Q (.inl none) σ') : Call t 219 [vR 53] σ Q := by
  obtain ⟨h1, h2, h3⟩ := h
  refine c219 hP hl h1 h2 (by rcases h3 with k | k; exact Or.inl k; exact Or.inr k.1) (fun e => ?_) (fun e σ' zs k1 k2 k3 => ?_)
  · rcases h3 with k | k
    · rw [k] at e; cases e
    · exact hq σ ⟨h1, h2, k⟩ fr_refl
  · have e : zs = xs := isC_eq k1.1 hC
    subst e
    exact hq σ' ⟨LP_fr h1 k3 (fun c j k => by unfold vM at k; omega), (fr_I k3 _ _ (by unfold vM; omega)).trans h2, k2, k1⟩ k3
theorem frq {σ σ' : St} (g : fr vM σ σ') : fr qM σ σ' := fr_mono g (fun c j k => Or.inl k)
theorem frq0 {σ σ' : St} {v : Int} (g : fr vM (sI σ 53 0 v) σ') : gI σ' 53 0 = v ∧ fr qM σ σ' := ⟨(fr_I g _ _ (by unfold vM; omega)).trans (by rw [gI_sI, if_pos ⟨rfl, rfl⟩]), fr_trans q0q (frq g)⟩
theorem fol (hX : LX σ xs) (hs : xs.Pairwise (· < ·)) {f : Int} (f0 : 0 ≤ f) (f1 : f ≤ 4) (hq : Q (.inl (some (vI (cbl xs (f * 2353))))) σ) :
    ∀ (d : Nat) (i : Int), 0 ≤ i → i + d = cbl xs (f * 2353) → wp t 220 2 [some (vR 53), some (vI f), some (vI i)] [] σ Q
  | 0, i, i0, hd => by
    have e : i = cbl xs (f * 2353) := by omega
    have hl := hX.1.2
    have hr := cbl_rng xs (f * 2353)
    rw [x220_2, hX.1.1]
    refine ⟨⟨⟨by omega, by omega⟩, ⟨by omega, by omega⟩⟩, fun a => ?_, fun a => ?_⟩
    · have hi := cbl_iff hs (b := f * 2353) i0 (show i < xs.length by omega)
      have hz := hX.2.2 _ (la_mem i0 (show i < xs.length by omega))
      rw [x220_10, (hX.2.1 i i0 (by omega)).1]
      refine ⟨⟨i0, by omega⟩, ⟨⟨by omega, by omega⟩, ⟨by omega, by omega⟩⟩, fun b => ?_, fun _ => ?_⟩
      · have := hi.mp (by omega); omega
      · rw [x220_26, e]; exact hq
    · rw [x220_26, e]; exact hq
  | d + 1, i, i0, hd => by
    have hl := hX.1.2
    have hr := cbl_rng xs (f * 2353)
    have hi := (cbl_iff hs (b := f * 2353) i0 (show i < xs.length by omega)).mpr (by omega)
    have hz := hX.2.2 _ (la_mem i0 (show i < xs.length by omega))
    rw [x220_2, hX.1.1]
    refine ⟨⟨⟨by omega, by omega⟩, ⟨by omega, by omega⟩⟩, fun _ => ?_, fun a => by omega⟩
    rw [x220_10, (hX.2.1 i i0 (by omega)).1]
    refine ⟨⟨i0, by omega⟩, ⟨⟨by omega, by omega⟩, ⟨by omega, by omega⟩⟩, fun _ => ?_, fun b => by omega⟩
    rw [x220_20]
    exact fol hX hs f0 f1 hq d (i + 1) (by omega) (by omega)
theorem e220 (hX : LX σ xs) (hs : xs.Pairwise (· < ·)) {f : Int} (f0 : 0 ≤ f) (f1 : f ≤ 4) : Call t 220 [vR 53, vI f] σ Q ↔ Q (.inl (some (vI (cbl xs (f * 2353))))) σ := Call_iff (fun Q hq => by
  have hr := cbl_rng xs (f * 2353)
  rw [x220_0]
  exact fol hX hs f0 f1 hq (cbl xs (f * 2353)).toNat 0 (by omega) (by omega))
theorem nc_cn (xs : List Int) (f : Int) : ∀ n : Nat, cn (fun i => decide (la xs i < (f + 1) * 2353)) n - cn (fun i => decide (la xs i < f * 2353)) n = cn (fun i => decide (la xs i / 2353 = f)) n
  | 0 => rfl
  | n + 1 => by
    have := nc_cn xs f n
    rw [cn_succ, cn_succ, cn_succ]
    by_cases a : la xs n < f * 2353
    · rw [if_pos (by rw [decide_eq_true_eq]; omega), if_pos (by rw [decide_eq_true_eq]; exact a), if_neg (by rw [decide_eq_true_eq]; omega)]; omega
    · by_cases b : la xs n < (f + 1) * 2353
      · rw [if_pos (by rw [decide_eq_true_eq]; exact b), if_neg (by rw [decide_eq_true_eq]; exact a), if_pos (by rw [decide_eq_true_eq]; omega)]; omega
      · rw [if_neg (by rw [decide_eq_true_eq]; exact b), if_neg (by rw [decide_eq_true_eq]; exact a), if_neg (by rw [decide_eq_true_eq]; omega)]; omega
theorem ncl (hX : LX σ xs) {f : Int} (f0 : 0 ≤ f) (f1 : f ≤ 3) (hq : Q (.inl (some (vI (nc xs f)))) σ) :
    ∀ (d : Nat) (i : Nat), i + d = xs.length → wp t 221 4 [some (vR 53), some (vI f), some (vI (cn (fun i => decide (la xs i / 2353 = f)) i)), some (vI i)] [] σ Q
  | 0, i, hd => by
    have hl := hX.1.2
    have e : i = xs.length := by omega
    subst e
    rw [x221_4, hX.1.1]
    refine ⟨⟨⟨by omega, by omega⟩, ⟨by omega, by omega⟩⟩, fun a => by omega, fun a => ?_⟩
    rw [x221_36, ← nc_cn xs f xs.length]; exact hq
  | d + 1, i, hd => by
    have hl := hX.1.2
    have hz := hX.2.2 _ (la_mem (xs := xs) (i := i) (by omega) (show (i : Int) < xs.length by omega))
    have ih := ncl hX f0 f1 hq d (i + 1) (by omega)
    rw [cn_succ] at ih
    rw [x221_4, hX.1.1]
    refine ⟨⟨⟨by omega, by omega⟩, ⟨by omega, by omega⟩⟩, fun a => ?_, fun a => by omega⟩
    rw [x221_12, (hX.2.1 i (by omega) (by omega)).1]
    refine ⟨⟨by omega, by omega⟩, ⟨⟨by omega, by omega⟩, ⟨by omega, by omega⟩⟩, fun b => ?_, fun b => ?_⟩
    · rw [if_pos (decide_eq_true b)] at ih
      rw [x221_23, x221_28]; exact ih
    · rw [if_neg (by rw [decide_eq_true_eq]; exact b)] at ih
      rw [x221_27, x221_28]; exact ih
theorem e221 (hX : LX σ xs) {f : Int} (f0 : 0 ≤ f) (f1 : f ≤ 3) : Call t 221 [vR 53, vI f] σ Q ↔ Q (.inl (some (vI (nc xs f)))) σ := Call_iff (fun Q hq => by
  rw [x221_0]
  exact ncl hX f0 f1 hq xs.length 0 (by omega))
/-- contextCount -/
theorem c222 (hP : okP P) (hl : 0 ≤ lim ∧ lim ≤ 2) (hC : isC P lim xs) (h : LQ P lim xs σ) {f : Int} (hf : inR f) (h0 : ¬ (0 ≤ f ∧ f < 4) → Q (.inl (some (vI 0))) (sI σ 53 0 1))
    (h1 : (0 ≤ f ∧ f < 4) → ∀ σ', FQ P lim xs σ' → gI σ' 53 0 = 0 → fr qM σ σ' → Q (.inl (some (vI (nc xs f)))) σ') : Call t 222 [vR 53, vI f] σ Q := by
  simp only [x222_0, x222_4, e179 hf, eq_true (b2i_in _), b2i_0, aft_l, aft_r, optL_s, optL_n, xgo_n, xgo_s, List.cons_append, List.nil_append, List.append_nil, true_and, and_true, Nat.sub_zero, Nat.zero_le, true_implies, false_implies, implies_true, not_true_eq_false, not_false_eq_true, true_or, or_true]
  by_cases q : 0 ≤ f ∧ f < 4
  · rw [dcl_t q]
    refine ⟨fun a => (by cases a), fun _ => ?_⟩
    rw [x222_13]
    refine c219q hP hl hC (LQ_fr h q0 qK0) (fun σ1 g1 g2 => ?_)
    have hX := g1.2.2.2.2.1
    simp only [x222_22, x222_27, e221 hX q.1 (show f ≤ 3 by omega), aft_l, aft_r, optL_s, optL_n, xgo_n, xgo_s, List.cons_append, List.nil_append, List.append_nil, true_and, and_true, Nat.sub_zero, Nat.zero_le, true_implies, false_implies, implies_true, not_true_eq_false, not_false_eq_true, true_or, or_true]
    exact h1 q σ1 g1 (frq0 g2).1 (frq0 g2).2
  · rw [dcl_f q]
    refine ⟨fun _ => ?_, fun a => absurd rfl a⟩
    simp only [x222_7, x222_12, e175, aft_l, aft_r, optL_s, optL_n, xgo_n, xgo_s, List.cons_append, List.nil_append, List.append_nil, true_and, and_true, Nat.sub_zero, Nat.zero_le, true_implies, false_implies, implies_true, not_true_eq_false, not_false_eq_true, true_or, or_true]
    exact h0 q
/-- codeOf -/
theorem c223 (hP : okP P) (hl : 0 ≤ lim ∧ lim ≤ 2) (hC : isC P lim xs) (h : LQ P lim xs σ) {f k : Int} (hf : inR f) (hk : inR k)
    (h0 : ¬ (0 ≤ f ∧ f < 4) → Q (.inl (some (vI (-1)))) σ) (h1 : (0 ≤ f ∧ f < 4) → ¬ (0 ≤ k ∧ k < nc xs f) → ∀ σ', FQ P lim xs σ' → fr vM σ σ' → Q (.inl (some (vI (-1)))) σ')
    (h2 : (0 ≤ f ∧ f < 4) → (0 ≤ k ∧ k < nc xs f) → ∀ σ', FQ P lim xs σ' → fr vM σ σ' → Q (.inl (some (vI (cod (la xs (cbl xs (f * 2353) + k) % 2353))))) σ') : Call t 223 [vR 53, vI f, vI k] σ Q := by
  simp only [x223_0, x223_4, e179 hf, eq_true (b2i_in _), b2i_0, aft_l, aft_r, optL_s, optL_n, xgo_n, xgo_s, List.cons_append, List.nil_append, List.append_nil, true_and, and_true, Nat.sub_zero, Nat.zero_le, true_implies, false_implies, implies_true, not_true_eq_false, not_false_eq_true, true_or, or_true]
  by_cases q : 0 ≤ f ∧ f < 4
  · rw [dcl_t q]
    refine ⟨fun a => (by cases a), fun _ => ?_⟩
    rw [x223_9]
    refine c219q hP hl hC h (fun σ1 g1 g2 => ?_)
    have hX := g1.2.2.2.2.1
    have hn := nc_rng xs f
    have hl2 := hX.1.2
    have hc0 := cbl_rng xs (f * 2353)
    simp only [x223_13, x223_20, x223_25, e221 hX q.1 (show f ≤ 3 by omega), e177 hk (show inR 0 from ⟨by decide, by decide⟩) (show inR (nc xs f - 1) from ⟨by omega, by omega⟩), eq_true (b2i_in _), b2i_0, aft_l, aft_r, optL_s, optL_n, xgo_n, xgo_s, List.cons_append, List.nil_append, List.append_nil, true_and, and_true, Nat.sub_zero, Nat.zero_le, true_implies, false_implies, implies_true, not_true_eq_false, not_false_eq_true, true_or, or_true]
    by_cases p : 0 ≤ k ∧ k ≤ nc xs f - 1
    · rw [dcl_t p]
      refine ⟨fun a => (by cases a), fun _ => ?_⟩
      simp only [x223_28, x223_37, x223_44, e220 hX hC.1 q.1 (show f ≤ 4 by omega), (hX.2.1 (cbl xs (f * 2353) + k) (by omega) (by omega)).2, aft_l, aft_r, optL_s, optL_n, xgo_n, xgo_s, List.cons_append, List.nil_append, List.append_nil, true_and, and_true, Nat.sub_zero, Nat.zero_le, true_implies, false_implies, implies_true, not_true_eq_false, not_false_eq_true, true_or, or_true]
      exact ⟨⟨by omega, by omega⟩, h2 q (by omega) σ1 g1 g2⟩
    · rw [dcl_f p]
      refine ⟨fun _ => ?_, fun a => absurd rfl a⟩
      simp only [x223_43, x223_44, aft_l, aft_r, optL_s, optL_n, xgo_n, xgo_s, List.cons_append, List.nil_append, List.append_nil, true_and, and_true, Nat.sub_zero, Nat.zero_le, true_implies, false_implies, implies_true, not_true_eq_false, not_false_eq_true, true_or, or_true]
      exact h1 q (by omega) σ1 g1 g2
  · rw [dcl_f q]
    refine ⟨fun _ => ?_, fun a => absurd rfl a⟩
    simp only [x223_7, aft_l, aft_r, optL_s, optL_n, xgo_n, xgo_s, List.cons_append, List.nil_append, List.append_nil, true_and, and_true, Nat.sub_zero, Nat.zero_le, true_implies, false_implies, implies_true, not_true_eq_false, not_false_eq_true, true_or, or_true]
    exact h0 q
theorem cod_len {k : Int} (h0 : 0 ≤ k) (h1 : k < 2353) : cod k / 10000 = lenK k := by
  unfold cod lenK
  split
  · omega
  · split <;> omega
/-- what contextCall says of a key -/
theorem cod_cal {k p : Int} (h0 : 0 ≤ k) (h1 : k < 2353) (p0 : 0 ≤ p) (p1 : p < lenK k) : (if cod k / 10000 = 2 ∧ p = 0 then (cod k / 100) % 100 else cod k % 100) = calK k p := by
  unfold lenK at p1
  unfold calK lst cod
  by_cases a : k = 0
  · rw [if_pos a] at p1; omega
  · rw [if_neg a] at p1
    rw [if_neg a]
    by_cases b : k < 49
    · rw [if_pos b] at p1
      rw [if_pos b, if_neg (by omega), if_neg (by omega), if_neg (by omega)]; omega
    · rw [if_neg b] at p1
      rw [if_neg b]
      by_cases c : p = 0
      · rw [if_pos ⟨by omega, c⟩, if_pos ⟨by omega, c⟩]; omega
      · rw [if_neg (fun k => c k.2), if_neg (fun k => c k.2), if_pos (by omega)]; omega
def kyA (xs : List Int) (f k : Int) : Int := la xs (cbl xs (f * 2353) + k) % 2353
theorem kyA_rng (xs : List Int) (f k : Int) : 0 ≤ kyA xs f k ∧ kyA xs f k < 2353 := by unfold kyA; omega
/-- contextLength -/
theorem c224 (hP : okP P) (hl : 0 ≤ lim ∧ lim ≤ 2) (hC : isC P lim xs) (h : LQ P lim xs σ) {f k : Int} (hf : inR f) (hk : inR k)
    (h0 : ¬ ((0 ≤ f ∧ f < 4) ∧ (0 ≤ k ∧ k < nc xs f)) → ∀ σ', LQ P lim xs σ' → gI σ' 53 0 = 1 → fr qM σ σ' → Q (.inl (some (vI 0))) σ')
    (h1 : (0 ≤ f ∧ f < 4) → (0 ≤ k ∧ k < nc xs f) → ∀ σ', FQ P lim xs σ' → gI σ' 53 0 = 0 → fr qM σ σ' → Q (.inl (some (vI (lenK (kyA xs f k))))) σ') : Call t 224 [vR 53, vI f, vI k] σ Q := by
  have bad : ∀ σ1, LQ P lim xs σ1 → fr vM σ σ1 → ¬ ((0 ≤ f ∧ f < 4) ∧ (0 ≤ k ∧ k < nc xs f)) → wp t 224 6 [some (vR 53), some (vI f), some (vI k), none] [vI (-1)] σ1 Q := fun σ1 g1 g2 hn => by
    simp only [x224_6, (show inR (-1 : Int) = True from eq_true ⟨by decide, by decide⟩), show ((-1 : Int) < 0) = True from eq_true (by decide), aft_l, aft_r, optL_s, optL_n, xgo_n, xgo_s, List.cons_append, List.nil_append, List.append_nil, true_and, and_true, Nat.sub_zero, Nat.zero_le, true_implies, false_implies, implies_true, not_true_eq_false, not_false_eq_true, true_or, or_true]
    simp only [x224_11, x224_16, e175, aft_l, aft_r, optL_s, optL_n, xgo_n, xgo_s, List.cons_append, List.nil_append, List.append_nil, true_and, and_true, Nat.sub_zero, Nat.zero_le, true_implies, false_implies, implies_true, not_true_eq_false, not_false_eq_true, true_or, or_true]
    exact h0 hn _ (LQ_fr g1 q0 qK0) (by rw [gI_sI, if_pos ⟨rfl, rfl⟩]) (fr_trans (frq g2) q0q)
  rw [x224_0]
  refine c223 hP hl hC h hf hk (fun a => ?_) (fun a b σ1 g1 g2 => ?_) (fun a b σ1 g1 g2 => ?_)
  · exact bad σ h fr_refl (fun z => a z.1)
  · exact bad σ1 (FQ_LQ g1) g2 (fun z => b z.2)
  · have hr := kyA_rng xs f k
    have hc := cod_rng hr.1 hr.2
    have hl := cod_len hr.1 hr.2
    show wp t 224 6 _ [vI (cod (kyA xs f k))] σ1 Q
    rw [x224_6]
    refine ⟨⟨by omega, by omega⟩, fun z => by omega, fun _ => ?_⟩
    rw [x224_17, hl]
    exact ⟨⟨by omega, by omega⟩, h1 a b _ (FQ_fr g1 q0 qK0) (by rw [gI_sI, if_pos ⟨rfl, rfl⟩]) (fr_trans (frq g2) q0q)⟩
/-- contextCall -/
theorem c225 (hP : okP P) (hl : 0 ≤ lim ∧ lim ≤ 2) (hC : isC P lim xs) (h : LQ P lim xs σ) {f k p : Int} (hf : inR f) (hk : inR k) (hp : inR p)
    (h0 : ¬ (((0 ≤ f ∧ f < 4) ∧ (0 ≤ k ∧ k < nc xs f)) ∧ (0 ≤ p ∧ p < lenK (kyA xs f k))) → ∀ σ', LQ P lim xs σ' → gI σ' 53 0 = 1 → fr qM σ σ' → Q (.inl (some (vI 0))) σ')
    (h1 : (0 ≤ f ∧ f < 4) → (0 ≤ k ∧ k < nc xs f) → (0 ≤ p ∧ p < lenK (kyA xs f k)) → ∀ σ', FQ P lim xs σ' → gI σ' 53 0 = 0 → fr qM σ σ' → Q (.inl (some (vI (calK (kyA xs f k) p)))) σ') : Call t 225 [vR 53, vI f, vI k, vI p] σ Q := by
  have fail : ∀ σ1 v, LQ P lim xs σ1 → fr vM σ σ1 → ¬ (((0 ≤ f ∧ f < 4) ∧ (0 ≤ k ∧ k < nc xs f)) ∧ (0 ≤ p ∧ p < lenK (kyA xs f k))) → wp t 225 29 [some (vR 53), some (vI f), some (vI k), some (vI p), some (vI v)] [] σ1 Q := fun σ1 v g1 g2 hn => by
    simp only [x225_29, x225_34, e175, aft_l, aft_r, optL_s, optL_n, xgo_n, xgo_s, List.cons_append, List.nil_append, List.append_nil, true_and, and_true, Nat.sub_zero, Nat.zero_le, true_implies, false_implies, implies_true, not_true_eq_false, not_false_eq_true, true_or, or_true]
    exact h0 hn _ (LQ_fr g1 q0 qK0) (by rw [gI_sI, if_pos ⟨rfl, rfl⟩]) (fr_trans (frq g2) q0q)
  have bad : ∀ σ1, LQ P lim xs σ1 → fr vM σ σ1 → ¬ ((0 ≤ f ∧ f < 4) ∧ (0 ≤ k ∧ k < nc xs f)) → wp t 225 6 [some (vR 53), some (vI f), some (vI k), some (vI p), none] [vI (-1)] σ1 Q := fun σ1 g1 g2 hn => by
    simp only [x225_6, (show inR (-1 : Int) = True from eq_true ⟨by decide, by decide⟩), show ((-1 : Int) < 0) = True from eq_true (by decide), aft_l, aft_r, optL_s, optL_n, xgo_n, xgo_s, List.cons_append, List.nil_append, List.append_nil, true_and, and_true, Nat.sub_zero, Nat.zero_le, true_implies, false_implies, implies_true, not_true_eq_false, not_false_eq_true, true_or, or_true]
    exact fail σ1 _ g1 g2 (fun z => hn z.1)
  rw [x225_0]
  refine c223 hP hl hC h hf hk (fun a => ?_) (fun a b σ1 g1 g2 => ?_) (fun a b σ1 g1 g2 => ?_)
  · exact bad σ h fr_refl (fun z => a z.1)
  · exact bad σ1 (FQ_LQ g1) g2 (fun z => b z.2)
  · have hr := kyA_rng xs f k
    have hc := cod_rng hr.1 hr.2
    have hl := cod_len hr.1 hr.2
    show wp t 225 6 _ [vI (cod (kyA xs f k))] σ1 Q
    rw [x225_6]
    refine ⟨⟨by omega, by omega⟩, fun z => by omega, fun _ => ?_⟩
    have hle : 0 ≤ lenK (kyA xs f k) ∧ lenK (kyA xs f k) ≤ 2 := by omega
    simp only [x225_13, x225_26, e177 hp (show inR 0 from ⟨by decide, by decide⟩) (show inR (cod (kyA xs f k) / 10000 - 1) from ⟨by omega, by omega⟩), eq_true (b2i_in _), b2i_0, aft_l, aft_r, optL_s, optL_n, xgo_n, xgo_s, List.cons_append, List.nil_append, List.append_nil, true_and, and_true, Nat.sub_zero, Nat.zero_le, true_implies, false_implies, implies_true, not_true_eq_false, not_false_eq_true, true_or, or_true]
    refine ⟨⟨by omega, by omega⟩, ?_⟩
    by_cases z : 0 ≤ p ∧ p ≤ cod (kyA xs f k) / 10000 - 1
    · rw [dcl_t z]
      refine ⟨fun a => (by cases a), fun _ => ?_⟩
      have hcal := cod_cal hr.1 hr.2 z.1 (by omega)
      have fin := h1 a b (by omega) _ (FQ_fr g1 q0 qK0) (by rw [gI_sI, if_pos ⟨rfl, rfl⟩]) (fr_trans (frq g2) (q0q (v := 0)))
      rw [← hcal] at fin
      rw [x225_35]
      refine ⟨⟨by omega, by omega⟩, ⟨by omega, by omega⟩, fun u => ?_, fun u => ?_⟩
      · rw [x225_50]
        refine ⟨hp, fun w => ?_, fun w => ?_⟩
        · rw [if_pos ⟨u, w⟩] at fin
          simp only [x225_54, x225_70]; exact ⟨⟨by omega, by omega⟩, ⟨by omega, by omega⟩, fin⟩
        · rw [if_neg (fun y => w y.2)] at fin
          simp only [x225_65, x225_70]; exact ⟨⟨by omega, by omega⟩, fin⟩
      · rw [if_neg (fun y => u y.1)] at fin
        simp only [x225_65, x225_70]; exact ⟨⟨by omega, by omega⟩, fin⟩
    · rw [dcl_f z]
      refine ⟨fun _ => ?_, fun a => absurd rfl a⟩
      exact fail σ1 _ (FQ_LQ g1) g2 (fun y => z (by omega))
end LQ
