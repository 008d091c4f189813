/-! the law's questions: targets -/
def TSp (P : Pg) (xs : List Int) (lim c : Int) : Int → Prop := fun t => ∃ u, Lf P xs lim c u ∧ cdf xs u = t
theorem fpop_congr {F F' : Int → BitVec 64} (h : ∀ k : Int, 0 ≤ k → k < 456 → F k = F' k) : fpop F = fpop F' := fsum_congr (fun k k0 k1 => h k k0 (by omega))
/-- the number of facts -/
noncomputable def FN (P : Pg) (xs : List Int) (lim : Int) : Int := fpop (fun k => wS (fun t => Lf P xs lim (k / 3) (64 * (k % 3) + t)))
theorem FN_of {P : Pg} (hP : okP P) {xs : List Int} {lim : Int} (hC : isC P lim xs) {g : Nat} {σ : St} (h : ∀ c u, Gc g σ c u ↔ Lf P xs lim c u) : fpop (gL σ g) = FN P xs lim := fpop_congr (fun k k0 k1 => wS_of (fun t ht => by
  rw [← h, Gc_bt (by omega) (by omega), show 3 * (k / 3) + (64 * (k % 3) + (t : Int)) / 64 = k by omega, show ((64 * (k % 3) + (t : Int)) % 64).toNat = t by omega]))
section LQ2
variable {t : Nat} {σ : St} {Q : Res → St → Prop} {P : Pg} {xs : List Int} {lim : Int}
theorem e203 (h : LPr σ P) (hP : okP P) : Call t 203 [vR 53] σ Q ↔ Q (.inl (some (vI (mny P 4 (-1))))) σ := by
  simp only [x203_0, x203_6, e184 h hP (show inR 4 from ⟨by decide, by decide⟩) (show inR (-1) from ⟨by decide, by decide⟩), aft_l, aft_r, optL_s, optL_n, xgo_n, xgo_s, List.cons_append, List.nil_append, List.append_nil, true_and, and_true, Nat.sub_zero, Nat.zero_le, true_implies, false_implies, implies_true, not_true_eq_false, not_false_eq_true, true_or, or_true]
theorem tol (hP : okP P) (hC : isC P lim xs) (h : FQ P lim xs σ) {c : Int} (c0 : 0 ≤ c) (c1 : c < 152) (hq : Q (.inl (some (vL (wS (TSp P xs lim c))))) σ) :
    ∀ (d : Nat) (i : Int) (a3 : Option AV), 0 ≤ i → i + d = 152 → wp t 226 5 [some (vR 53), some (vI c), some (vL (wS (fun t => ∃ u, u < i ∧ (Lf P xs lim c u ∧ cdf xs u = t)))), a3, some (vI i)] [] σ Q
  | 0, i, a3, i0, hd => by
    have hx := xok_of hP hC
    rw [x226_5]
    refine ⟨⟨by omega, by omega⟩, fun a => by omega, fun _ => ?_⟩
    rw [x226_47, show wS (fun t => ∃ u, u < i ∧ (Lf P xs lim c u ∧ cdf xs u = t)) = wS (TSp P xs lim c) from wS_congr (fun t ht => ⟨fun ⟨u, _, k⟩ => ⟨u, k⟩, fun ⟨u, k⟩ => ⟨u, by have := vld_152 hx (Lf_okF hP hC _ _ k.1).2; omega, k⟩⟩)]
    exact hq
  | d + 1, i, a3, i0, hd => by
    have hx := xok_of hP hC
    have hX := h.2.2.2.2.1
    have hG : bt (gL σ 62) c i = true ↔ Lf P xs lim c i := by rw [← h.2.2.2.2.2.1 c i]; exact ⟨fun k => ⟨⟨c0, c1⟩, ⟨i0, by omega⟩, k⟩, fun k => k.2.2⟩
    have ih := tol hP hC h c0 c1 hq d (i + 1) none (by omega) (by omega)
    rw [x226_5]
    refine ⟨⟨by omega, by omega⟩, fun _ => ?_, fun a => by omega⟩
    simp only [x226_13, e210 (r := 62) ⟨rfl, rfl⟩ (show 0 ≤ c ∧ c < 152 from ⟨c0, c1⟩) (show 0 ≤ i ∧ i < 192 by omega), x226_24, eq_true (b2i_in _), b2i_0, aft_l, aft_r, optL_s, optL_n, xgo_n, xgo_s, List.cons_append, List.nil_append, List.append_nil, true_and, and_true, Nat.sub_zero, Nat.zero_le, true_implies, false_implies, implies_true, not_true_eq_false, not_false_eq_true, true_or, or_true]
    refine ⟨fun a => ?_, fun a => ?_⟩
    · have hn : ¬ Lf P xs lim c i := fun k => by rw [hG.mpr k] at a; cases a
      simp only [x226_38, x226_39, aft_l, aft_r, optL_s, optL_n, xgo_n, xgo_s, List.cons_append, List.nil_append, List.append_nil, true_and, and_true, Nat.sub_zero, Nat.zero_le, true_implies, false_implies, implies_true, not_true_eq_false, not_false_eq_true, true_or, or_true]
      have e0 : BitVec.ofNat 64 0 = wS (fun _ => False) := wS_of SW_0
      rw [e0, wS_or, show wS (fun t => (∃ u, u < i ∧ (Lf P xs lim c u ∧ cdf xs u = t)) ∨ False) = wS (fun t => ∃ u, u < i + 1 ∧ (Lf P xs lim c u ∧ cdf xs u = t)) from wS_congr (fun t ht => ⟨fun k => k.elim (fun ⟨u, k1, k2⟩ => ⟨u, by omega, k2⟩) False.elim, fun ⟨u, k1, k2⟩ => Or.inl ⟨u, by
        by_cases z : u = i
        · rw [z] at k2; exact absurd k2.1 hn
        · omega, k2⟩⟩)]
      exact ih
    · have hy : Lf P xs lim c i := hG.mp (by cases z : bt (gL σ 62) c i with
        | true => rfl
        | false => exact absurd z a)
      have hv := (Lf_okF hP hC _ _ hy).2
      have hr := cdf_rng hx hv
      simp only [x226_27, e212 hX hv, x226_34, x226_39, aft_l, aft_r, optL_s, optL_n, xgo_n, xgo_s, List.cons_append, List.nil_append, List.append_nil, true_and, and_true, Nat.sub_zero, Nat.zero_le, true_implies, false_implies, implies_true, not_true_eq_false, not_false_eq_true, true_or, or_true]
      rw [wS_of (SW_one hr.1 (show cdf xs i < 64 by omega)), wS_or, show wS (fun t => (∃ u, u < i ∧ (Lf P xs lim c u ∧ cdf xs u = t)) ∨ t = cdf xs i) = wS (fun t => ∃ u, u < i + 1 ∧ (Lf P xs lim c u ∧ cdf xs u = t)) from wS_congr (fun t ht => ⟨fun k => k.elim (fun ⟨u, k1, k2⟩ => ⟨u, by omega, k2⟩) (fun e => ⟨i, by omega, hy, e.symm⟩), fun ⟨u, k1, k2⟩ => by
        by_cases z : u = i
        · rw [z] at k2; exact Or.inr k2.2.symm
        · exact Or.inl ⟨u, by omega, k2⟩⟩)]
      exact ih
/-- targetsOf -/
theorem e226 (hP : okP P) (hC : isC P lim xs) (h : FQ P lim xs σ) {c : Int} (c0 : 0 ≤ c) (c1 : c < 152) : Call t 226 [vR 53, vI c] σ Q ↔ Q (.inl (some (vL (wS (TSp P xs lim c))))) σ := Call_iff (fun Q hq => by
  have := tol (t := t) hP hC h c0 c1 hq 152 0 none (by omega) (by omega)
  rw [show wS (fun t => ∃ u, u < 0 ∧ (Lf P xs lim c u ∧ cdf xs u = t)) = BitVec.ofNat 64 0 from (wS_z _).mpr (fun t ht ⟨u, k1, k2, _⟩ => by have := (Lf_okF hP hC _ _ k2).2.1; omega)] at this
  rw [x226_0]; exact this)
theorem tbl (hP : okP P) (hC : isC P lim xs) (h : FQ P lim xs σ) {v : Int} (v0 : 4 ≤ v) (v1 : v < 20) (hq : Q (.inl (some (vL (wS (im xs (Lf P xs lim) v))))) σ) :
    ∀ (d : Nat) (i : Int) (a3 : Option AV), 0 ≤ i → i + d = xs.length → wp t 227 39 [some (vR 53), some (vI v), some (vL (wS (fun t => ∃ j : Int, 0 ≤ j ∧ (j < i ∧ (la xs j / 2353 = (v - 4) / 4 ∧ TSp P xs lim (4 + 4 * j + v % 4) t))))), a3, some (vI i)] [] σ Q
  | 0, i, a3, i0, hd => by
    have hx := xok_of hP hC
    have hX := h.2.2.2.2.1
    have hl := hX.1.2
    rw [x227_39, hX.1.1]
    refine ⟨⟨⟨by omega, by omega⟩, ⟨by omega, by omega⟩⟩, fun a => by omega, fun _ => ?_⟩
    rw [x227_90, show wS (fun t => ∃ j : Int, 0 ≤ j ∧ (j < i ∧ (la xs j / 2353 = (v - 4) / 4 ∧ TSp P xs lim (4 + 4 * j + v % 4) t))) = wS (im xs (Lf P xs lim) v) from wS_congr (fun t ht => ⟨fun ⟨j, k0, k1, k2, u, k3, k4⟩ => ⟨_, u, k3, by unfold cdf; rw [if_neg (by omega), if_neg (by omega), show (4 + 4 * j + v % 4 - 4) / 4 = j by omega, k2]; omega, k4⟩, fun ⟨c, u, k3, k5, k4⟩ => by
      have hv := (Lf_okF hP hC _ _ k3).1
      have h0 := hv.1
      have h1 := hv.2
      unfold cdf at k5
      by_cases a : 128 ≤ c
      · rw [if_pos a] at k5; omega
      · rw [if_neg a] at k5
        by_cases b : c < 4
        · rw [if_pos b] at k5; omega
        · rw [if_neg b] at k5
          have hz := hX.2.2 _ (la_mem (xs := xs) (i := (c - 4) / 4) (by omega) (by omega))
          exact ⟨(c - 4) / 4, by omega, by omega, by omega, u, by rw [show 4 + 4 * ((c - 4) / 4) + v % 4 = c by omega]; exact k3, k4⟩⟩)]
    exact hq
  | d + 1, i, a3, i0, hd => by
    have hX := h.2.2.2.2.1
    have hl := hX.1.2
    have hz := hX.2.2 _ (la_mem (xs := xs) (i := i) i0 (by omega))
    have ih := tbl hP hC h v0 v1 hq d (i + 1) none (by omega) (by omega)
    rw [x227_39, hX.1.1]
    refine ⟨⟨⟨by omega, by omega⟩, ⟨by omega, by omega⟩⟩, fun _ => ?_, fun a => by omega⟩
    rw [x227_48, (hX.2.1 i i0 (by omega)).1]
    refine ⟨⟨by omega, by omega⟩, ⟨by omega, by omega⟩, ⟨⟨by omega, by omega⟩, ⟨by omega, by omega⟩⟩, fun a => ?_, fun a => ?_⟩
    · simp only [x227_64, e226 hP hC h (show 0 ≤ 4 + 4 * i + v % 4 by omega) (show 4 + 4 * i + v % 4 < 152 by omega), x227_78, x227_82, wS_or, aft_l, aft_r, optL_s, optL_n, xgo_n, xgo_s, List.cons_append, List.nil_append, List.append_nil, true_and, and_true, Nat.sub_zero, Nat.zero_le, true_implies, false_implies, implies_true, not_true_eq_false, not_false_eq_true, true_or, or_true]
      rw [show wS (fun t => (∃ j : Int, 0 ≤ j ∧ (j < i ∧ (la xs j / 2353 = (v - 4) / 4 ∧ TSp P xs lim (4 + 4 * j + v % 4) t))) ∨ TSp P xs lim (4 + 4 * i + v % 4) t) = wS (fun t => ∃ j : Int, 0 ≤ j ∧ (j < i + 1 ∧ (la xs j / 2353 = (v - 4) / 4 ∧ TSp P xs lim (4 + 4 * j + v % 4) t))) from wS_congr (fun t ht => ⟨fun k => k.elim (fun ⟨j, k0, k1, k2⟩ => ⟨j, k0, by omega, k2⟩) (fun k => ⟨i, i0, by omega, a, k⟩), fun ⟨j, k0, k1, k2⟩ => by
        by_cases z : j = i
        · rw [z] at k2; exact Or.inr k2.2
        · exact Or.inl ⟨j, k0, by omega, k2⟩⟩)]
      exact ⟨⟨by omega, by omega⟩, ih⟩
    · have e0 : BitVec.ofNat 64 0 = wS (fun _ => False) := wS_of SW_0
      simp only [x227_81, x227_82, aft_l, aft_r, optL_s, optL_n, xgo_n, xgo_s, List.cons_append, List.nil_append, List.append_nil, true_and, and_true, Nat.sub_zero, Nat.zero_le, true_implies, false_implies, implies_true, not_true_eq_false, not_false_eq_true, true_or, or_true]
      rw [e0, wS_or, show wS (fun t => (∃ j : Int, 0 ≤ j ∧ (j < i ∧ (la xs j / 2353 = (v - 4) / 4 ∧ TSp P xs lim (4 + 4 * j + v % 4) t))) ∨ False) = wS (fun t => ∃ j : Int, 0 ≤ j ∧ (j < i + 1 ∧ (la xs j / 2353 = (v - 4) / 4 ∧ TSp P xs lim (4 + 4 * j + v % 4) t))) from wS_congr (fun t ht => ⟨fun k => k.elim (fun ⟨j, k0, k1, k2⟩ => ⟨j, k0, by omega, k2⟩) False.elim, fun ⟨j, k0, k1, k2⟩ => by
        by_cases z : j = i
        · rw [z] at k2; exact absurd k2.1 a
        · exact Or.inl ⟨j, k0, by omega, k2⟩⟩)]
      exact ih
/-- targetsBy -/
theorem tb1 (hP : okP P) (hC : isC P lim xs) (h : FQ P lim xs σ) {v : Int} (v0 : 0 ≤ v) (v1 : v < 44) {a2 a3 a4 : Option AV} (hq : Q (.inl (some (vL (wS (im xs (Lf P xs lim) v))))) σ) : wp t 227 4 [some (vR 53), some (vI v), a2, a3, a4] [] σ Q := by
  have hx := xok_of hP hC
  have key : ∀ c, (0 ≤ c ∧ c < 152) → cdf xs c = v → (c < 4 ∨ 128 ≤ c) → (v < 4 ∨ 20 ≤ v) → wS (TSp P xs lim c) = wS (im xs (Lf P xs lim) v) := fun c hc e he hv => wS_congr (fun t ht => ⟨fun ⟨u, k1, k2⟩ => ⟨c, u, k1, e, k2⟩, fun ⟨c', u, k1, k3, k2⟩ => by
    have hvl := (Lf_okF hP hC _ _ k1).1
    have h0 := hvl.1
    have h1 := hvl.2
    have : c' = c := by
      unfold cdf at e k3
      by_cases a : 128 ≤ c'
      · rw [if_pos a] at k3
        by_cases b : 128 ≤ c
        · rw [if_pos b] at e; omega
        · rw [if_neg b, if_pos (by omega)] at e; omega
      · rw [if_neg a] at k3
        by_cases a2 : c' < 4
        · rw [if_pos a2] at k3
          by_cases b : 128 ≤ c
          · rw [if_pos b] at e; omega
          · rw [if_neg b, if_pos (by omega)] at e; omega
        · rw [if_neg a2] at k3
          have hz := hx.1 _ (la_mem (xs := xs) (i := (c' - 4) / 4) (by omega) (by omega))
          omega
    rw [this] at k1
    exact ⟨u, k1, k2⟩⟩)
  rw [x227_4]
  refine ⟨⟨by omega, by omega⟩, fun a => ?_, fun a => ?_⟩
  · simp only [x227_9, e226 hP hC h v0 (show v < 152 by omega), x227_14, aft_l, aft_r, optL_s, optL_n, xgo_n, xgo_s, List.cons_append, List.nil_append, List.append_nil, true_and, and_true, Nat.sub_zero, Nat.zero_le, true_implies, false_implies, implies_true, not_true_eq_false, not_false_eq_true, true_or, or_true]
    rw [key v (by omega) (by unfold cdf; rw [if_neg (by omega), if_pos a]) (Or.inl a) (Or.inl a)]
    exact hq
  · rw [x227_15]
    refine ⟨⟨by omega, by omega⟩, fun b => ?_, fun b => ?_⟩
    · rw [x227_34]
      have := tbl (t := t) hP hC h (show 4 ≤ v by omega) b hq xs.length 0 none (by omega) (by omega)
      rw [show wS (fun t => ∃ j : Int, 0 ≤ j ∧ (j < 0 ∧ (la xs j / 2353 = (v - 4) / 4 ∧ TSp P xs lim (4 + 4 * j + v % 4) t))) = BitVec.ofNat 64 0 from (wS_z _).mpr (fun t ht ⟨j, k0, k1, _⟩ => by omega)] at this
      exact this
    · simp only [x227_21, e226 hP hC h (show 0 ≤ 128 + v - 20 by omega) (show 128 + v - 20 < 152 by omega), x227_33, aft_l, aft_r, optL_s, optL_n, xgo_n, xgo_s, List.cons_append, List.nil_append, List.append_nil, true_and, and_true, Nat.sub_zero, Nat.zero_le, true_implies, false_implies, implies_true, not_true_eq_false, not_false_eq_true, true_or, or_true]
      rw [key (128 + v - 20) (by omega) (by unfold cdf; rw [if_pos (by omega)]; omega) (Or.inr (by omega)) (Or.inr (by omega))]
      exact hq
theorem e227 (hP : okP P) (hl : 0 ≤ lim ∧ lim ≤ 2) (hC : isC P lim xs) (h : FQ P lim xs σ) {v : Int} (v0 : 0 ≤ v) (v1 : v < 44) : Call t 227 [vR 53, vI v] σ Q ↔ Q (.inl (some (vL (wS (im xs (Lf P xs lim) v))))) σ := Call_iff (fun Q hq => by
  simp only [x227_0, e219 hP hl h, aft_l, aft_r, optL_s, optL_n, xgo_n, xgo_s, List.cons_append, List.nil_append, List.append_nil, true_and, and_true, Nat.sub_zero, Nat.zero_le, true_implies, false_implies, implies_true, not_true_eq_false, not_false_eq_true, true_or, or_true]
  exact tb1 hP hC h v0 v1 hq)
theorem c227 (hP : okP P) (hl : 0 ≤ lim ∧ lim ≤ 2) (hC : isC P lim xs) (h : LQ P lim xs σ) {v : Int} (v0 : 0 ≤ v) (v1 : v < 44) (hq : ∀ σ', FQ P lim xs σ' → fr vM σ σ' → Q (.inl (some (vL (wS (im xs (Lf P xs lim) v))))) σ') : Call t 227 [vR 53, vI v] σ Q := by
  rw [x227_0]
  refine c219q hP hl hC h (fun σ1 g1 g2 => ?_)
  simp only [aft_l, aft_r, optL_s, optL_n, xgo_n, xgo_s, List.cons_append, List.nil_append, List.append_nil, true_and, and_true, Nat.sub_zero, Nat.zero_le, true_implies, false_implies, implies_true, not_true_eq_false, not_false_eq_true, true_or, or_true]
  exact tb1 hP hC g1 v0 v1 (hq σ1 g1 g2)
/-- pointsTo -/
theorem c228 (hP : okP P) (hl : 0 ≤ lim ∧ lim ≤ 2) (hC : isC P lim xs) (h : LQ P lim xs σ) {v : Int} (hv : inR v) (h0 : ¬ (0 ≤ v ∧ v < 20) → Q (.inl (some (vL (BitVec.ofInt 64 0)))) (sI σ 53 0 1))
    (h1 : (0 ≤ v ∧ v < 20) → ∀ σ', FQ P lim xs σ' → gI σ' 53 0 = 0 → fr qM σ σ' → Q (.inl (some (vL (wS (im xs (Lf P xs lim) v))))) σ') : Call t 228 [vR 53, vI v] σ Q := by
  simp only [x228_0, x228_4, e180 hv, eq_true (b2i_in _), b2i_0, aft_l, aft_r, optL_s, optL_n, xgo_n, xgo_s, List.cons_append, List.nil_append, List.append_nil, true_and, and_true, Nat.sub_zero, Nat.zero_le, true_implies, false_implies, implies_true, not_true_eq_false, not_false_eq_true, true_or, or_true]
  by_cases q : 0 ≤ v ∧ v < 20
  · rw [dcl_t q]
    refine ⟨fun a => (by cases a), fun _ => ?_⟩
    rw [x228_14]
    refine c227 hP hl hC (LQ_fr h q0 qK0) q.1 (by omega) (fun σ1 g1 g2 => ?_)
    simp only [x228_24, aft_l, aft_r, optL_s, optL_n, xgo_n, xgo_s, List.cons_append, List.nil_append, List.append_nil, true_and, and_true, Nat.sub_zero, Nat.zero_le, true_implies, false_implies, implies_true, not_true_eq_false, not_false_eq_true, true_or, or_true]
    exact h1 q σ1 g1 (frq0 g2).1 (frq0 g2).2
  · rw [dcl_f q]
    refine ⟨fun _ => ?_, fun a => absurd rfl a⟩
    simp only [x228_7, x228_12, e175, (show inR (0 : Int) = True from eq_true ⟨by decide, by decide⟩), aft_l, aft_r, optL_s, optL_n, xgo_n, xgo_s, List.cons_append, List.nil_append, List.append_nil, true_and, and_true, Nat.sub_zero, Nat.zero_le, true_implies, false_implies, implies_true, not_true_eq_false, not_false_eq_true, true_or, or_true]
    exact h0 q
/-- which context a question means: v below 4 with k 0, or a local with k among its contexts -/
def cxq (xs : List Int) (v k : Int) : Prop := (v < 4 ∧ k = 0) ∨ (4 ≤ v ∧ (0 ≤ k ∧ k < nc xs ((v - 4) / 4)))
def cxc (xs : List Int) (v k : Int) : Int := if v < 4 then v else clo v (cbl xs ((v - 4) / 4 * 2353) + k)
/-- pointsToIn -/
theorem c229 (hP : okP P) (hl : 0 ≤ lim ∧ lim ≤ 2) (hC : isC P lim xs) (h : LQ P lim xs σ) {v k : Int} (hv : inR v) (hk : inR k)
    (h0 : ¬ ((0 ≤ v ∧ v < 20) ∧ cxq xs v k) → ∀ σ', LQ P lim xs σ' → gI σ' 53 0 = 1 → fr qM σ σ' → Q (.inl (some (vL (BitVec.ofInt 64 0)))) σ')
    (h1 : (0 ≤ v ∧ v < 20) → cxq xs v k → ∀ σ', FQ P lim xs σ' → gI σ' 53 0 = 0 → fr qM σ σ' → Q (.inl (some (vL (wS (TSp P xs lim (cxc xs v k)))))) σ') : Call t 229 [vR 53, vI v, vI k] σ Q := by
  simp only [x229_0, x229_4, e180 hv, eq_true (b2i_in _), b2i_0, aft_l, aft_r, optL_s, optL_n, xgo_n, xgo_s, List.cons_append, List.nil_append, List.append_nil, true_and, and_true, Nat.sub_zero, Nat.zero_le, true_implies, false_implies, implies_true, not_true_eq_false, not_false_eq_true, true_or, or_true]
  by_cases q : 0 ≤ v ∧ v < 20
  · rw [dcl_t q]
    refine ⟨fun a => (by cases a), fun _ => ?_⟩
    rw [x229_14]
    refine c219q hP hl hC h (fun σ1 g1 g2 => ?_)
    have hX := g1.2.2.2.2.1
    have hl2 := hX.1.2
    have g3 : FQ P lim xs (sI σ1 53 0 0) := FQ_fr g1 q0 qK0
    have hz : gI (sI σ1 53 0 0) 53 0 = 0 := by rw [gI_sI, if_pos ⟨rfl, rfl⟩]
    have hf3 : fr qM σ (sI σ1 53 0 0) := fr_trans (frq g2) q0q
    have bad : ∀ a1 a2 a3, ¬ cxq xs v k → wp t 229 51 [some (vR 53), a1, a2, a3] [] σ1 Q := fun a1 a2 a3 hn => by
      simp only [x229_51, x229_56, e175, (show inR (0 : Int) = True from eq_true ⟨by decide, by decide⟩), aft_l, aft_r, optL_s, optL_n, xgo_n, xgo_s, List.cons_append, List.nil_append, List.append_nil, true_and, and_true, Nat.sub_zero, Nat.zero_le, true_implies, false_implies, implies_true, not_true_eq_false, not_false_eq_true, true_or, or_true]
      exact h0 (fun z => hn z.2) _ (LQ_fr (FQ_LQ g1) q0 qK0) (by rw [gI_sI, if_pos ⟨rfl, rfl⟩]) (fr_trans (frq g2) q0q)
    simp only [x229_18, aft_l, aft_r, optL_s, optL_n, xgo_n, xgo_s, List.cons_append, List.nil_append, List.append_nil, true_and, and_true, Nat.sub_zero, Nat.zero_le, true_implies, false_implies, implies_true, not_true_eq_false, not_false_eq_true, true_or, or_true]
    have eq4 : ¬ v < 4 → qdv (v - 4) 4 = (v - 4) / 4 := fun a => by unfold qdv; rw [if_pos (by omega)]
    refine ⟨⟨by omega, by omega⟩, hv, fun a => ?_, fun a => ?_⟩
    · rw [x229_29]
      refine ⟨hk, fun b => ?_, fun b => ?_⟩
      · have fin := h1 q (Or.inl ⟨a, b⟩) _ g3 hz hf3
        unfold cxc at fin
        rw [if_pos a] at fin
        rw [x229_58]
        refine ⟨hv, fun _ => ?_, fun z => absurd a z⟩
        simp only [x229_69, x229_84, e226 hP hC g3 q.1 (show v < 152 by omega), x229_87, aft_l, aft_r, optL_s, optL_n, xgo_n, xgo_s, List.cons_append, List.nil_append, List.append_nil, true_and, and_true, Nat.sub_zero, Nat.zero_le, true_implies, false_implies, implies_true, not_true_eq_false, not_false_eq_true, true_or, or_true]
        exact fin
      · rw [x229_33]
        exact bad _ _ _ (fun z => by unfold cxq at z; omega)
    · rw [eq4 a]
      have hn := nc_rng xs ((v - 4) / 4)
      have hc0 := cbl_rng xs ((v - 4) / 4 * 2353)
      simp only [x229_36, e221 hX (show 0 ≤ (v - 4) / 4 by omega) (show (v - 4) / 4 ≤ 3 by omega), x229_43, e177 hk (show inR 0 from ⟨by decide, by decide⟩) (show inR (nc xs ((v - 4) / 4) - 1) from ⟨by omega, by omega⟩), x229_48, eq_true (b2i_in _), b2i_0, aft_l, aft_r, optL_s, optL_n, xgo_n, xgo_s, List.cons_append, List.nil_append, List.append_nil, true_and, and_true, Nat.sub_zero, Nat.zero_le, true_implies, false_implies, implies_true, not_true_eq_false, not_false_eq_true, true_or, or_true]
      by_cases p : 0 ≤ k ∧ k ≤ nc xs ((v - 4) / 4) - 1
      · have fin := h1 q (Or.inr ⟨by omega, by omega⟩) _ g3 hz hf3
        unfold cxc at fin
        rw [if_neg a] at fin
        have hcl := vld_152 (xok_of hP hC) (clo_vld (xs := xs) q.1 (show 0 ≤ cbl xs ((v - 4) / 4 * 2353) + k by omega) (by omega))
        rw [dcl_t p]
        refine ⟨fun z => (by cases z), fun _ => ?_⟩
        rw [x229_58]
        refine ⟨hv, fun z => absurd z a, fun _ => ?_⟩
        simp only [x229_73, e220 g3.2.2.2.2.1 hC.1 (show 0 ≤ (v - 4) / 4 by omega) (show (v - 4) / 4 ≤ 4 by omega), x229_79, e211 q.1 (show v ≤ 19 by omega), x229_84, e226 hP hC g3 hcl.1 hcl.2, x229_87, aft_l, aft_r, optL_s, optL_n, xgo_n, xgo_s, List.cons_append, List.nil_append, List.append_nil, true_and, and_true, Nat.sub_zero, Nat.zero_le, true_implies, false_implies, implies_true, not_true_eq_false, not_false_eq_true, true_or, or_true]
        exact fin
      · rw [dcl_f p]
        refine ⟨fun _ => bad _ _ _ (fun z => by unfold cxq at z; omega), fun z => absurd rfl z⟩
  · rw [dcl_f q]
    refine ⟨fun _ => ?_, fun a => absurd rfl a⟩
    simp only [x229_7, x229_12, e175, (show inR (0 : Int) = True from eq_true ⟨by decide, by decide⟩), aft_l, aft_r, optL_s, optL_n, xgo_n, xgo_s, List.cons_append, List.nil_append, List.append_nil, true_and, and_true, Nat.sub_zero, Nat.zero_le, true_implies, false_implies, implies_true, not_true_eq_false, not_false_eq_true, true_or, or_true]
    exact h0 (fun z => q z.1) _ (LQ_fr h q0 qK0) (by rw [gI_sI, if_pos ⟨rfl, rfl⟩]) q0q
theorem m8_rng (hP : okP P) : 0 ≤ mny P 4 (-1) ∧ mny P 4 (-1) ≤ 8 := ⟨(cn_rng _ _).1, hP.2.2.1⟩
/-- isField -/
theorem e230 (h : LPr σ P) (hP : okP P) {s f : Int} (hs : inR s) (hf : inR f) : Call t 230 [vR 53, vI s, vI f] σ Q ↔ Q (.inl (some (vI (b2i (dcl ((0 ≤ s ∧ s < mny P 4 (-1)) ∧ (0 ≤ f ∧ f < 3))))))) σ := Call_iff (fun Q hq => by
  have hm := m8_rng hP
  simp only [x230_0, x230_6, x230_11, x230_14, x230_20, e203 h hP, e177 hs (show inR 0 from ⟨by decide, by decide⟩) (show inR (mny P 4 (-1) - 1) from ⟨by omega, by omega⟩), e177 hf (show inR 0 from ⟨by decide, by decide⟩) (show inR 2 from ⟨by decide, by decide⟩), eq_true (b2i_in _), b2i_0, aft_l, aft_r, optL_s, optL_n, xgo_n, xgo_s, List.cons_append, List.nil_append, List.append_nil, true_and, and_true, Nat.sub_zero, Nat.zero_le, true_implies, false_implies, implies_true, not_true_eq_false, not_false_eq_true, true_or, or_true]
  by_cases a : 0 ≤ s ∧ s ≤ mny P 4 (-1) - 1
  · by_cases b : 0 ≤ f ∧ f ≤ 2
    · rw [dcl_t a, dcl_t b]
      rw [dcl_t (by omega), b2i_t] at hq
      refine ⟨fun z => (by cases z), fun _ => ⟨fun z => (by cases z), fun _ => ?_⟩⟩
      rw [x230_23, x230_28]; exact ⟨Or.inr rfl, hq⟩
    · rw [dcl_t a, dcl_f b]
      rw [dcl_f (by omega), b2i_f] at hq
      refine ⟨fun z => (by cases z), fun _ => ⟨fun _ => ?_, fun z => absurd rfl z⟩⟩
      rw [x230_27, x230_28]; exact ⟨Or.inl rfl, hq⟩
  · rw [dcl_f a]
    rw [dcl_f (by omega), b2i_f] at hq
    refine ⟨fun _ => ?_, fun z => absurd rfl z⟩
    rw [x230_27, x230_28]; exact ⟨Or.inl rfl, hq⟩)
/-- fieldPointsTo -/
theorem c231 (hP : okP P) (hl : 0 ≤ lim ∧ lim ≤ 2) (hC : isC P lim xs) (h : LQ P lim xs σ) {s f : Int} (hs : inR s) (hf : inR f) (h0 : ¬ ((0 ≤ s ∧ s < mny P 4 (-1)) ∧ (0 ≤ f ∧ f < 3)) → Q (.inl (some (vL (BitVec.ofInt 64 0)))) (sI σ 53 0 1))
    (h1 : ((0 ≤ s ∧ s < mny P 4 (-1)) ∧ (0 ≤ f ∧ f < 3)) → ∀ σ', FQ P lim xs σ' → gI σ' 53 0 = 0 → fr qM σ σ' → Q (.inl (some (vL (wS (im xs (Lf P xs lim) (20 + 3 * s + f)))))) σ') : Call t 231 [vR 53, vI s, vI f] σ Q := by
  have hm := m8_rng hP
  simp only [x231_0, x231_6, e230 h.1 hP hs hf, eq_true (b2i_in _), b2i_0, aft_l, aft_r, optL_s, optL_n, xgo_n, xgo_s, List.cons_append, List.nil_append, List.append_nil, true_and, and_true, Nat.sub_zero, Nat.zero_le, true_implies, false_implies, implies_true, not_true_eq_false, not_false_eq_true, true_or, or_true]
  by_cases q : (0 ≤ s ∧ s < mny P 4 (-1)) ∧ (0 ≤ f ∧ f < 3)
  · rw [dcl_t q]
    refine ⟨fun a => (by cases a), fun _ => ?_⟩
    rw [x231_16]
    refine c227 hP hl hC (LQ_fr h q0 qK0) (by omega) (by omega) (fun σ1 g1 g2 => ?_)
    simp only [x231_33, aft_l, aft_r, optL_s, optL_n, xgo_n, xgo_s, List.cons_append, List.nil_append, List.append_nil, true_and, and_true, Nat.sub_zero, Nat.zero_le, true_implies, false_implies, implies_true, not_true_eq_false, not_false_eq_true, true_or, or_true]
    exact h1 q σ1 g1 (frq0 g2).1 (frq0 g2).2
  · rw [dcl_f q]
    refine ⟨fun _ => ?_, fun a => absurd rfl a⟩
    simp only [x231_9, x231_14, e175, (show inR (0 : Int) = True from eq_true ⟨by decide, by decide⟩), aft_l, aft_r, optL_s, optL_n, xgo_n, xgo_s, List.cons_append, List.nil_append, List.append_nil, true_and, and_true, Nat.sub_zero, Nat.zero_le, true_implies, false_implies, implies_true, not_true_eq_false, not_false_eq_true, true_or, or_true]
    exact h0 q
theorem bt1 {l : BitVec 64} {j : Nat} (hj : j < 64) : BitVec.toInt (BitVec.sshiftRight l j &&& BitVec.ofNat 64 1) = if l.getLsbD j = true then 1 else 0 := by
  by_cases q : l.getLsbD j = true
  · rw [if_pos q]
    have : BitVec.sshiftRight l j &&& BitVec.ofNat 64 1 = BitVec.ofNat 64 1 := by rw [bb_and1', bb_sar _ hj]; exact q
    rw [this]; decide
  · rw [if_neg q]
    have : BitVec.sshiftRight l j &&& BitVec.ofNat 64 1 = BitVec.ofNat 64 0 := by
      apply BitVec.eq_of_getLsbD_eq
      intro i hi
      rw [BitVec.getLsbD_and]
      by_cases e : i = 0
      · rw [e, bb_sar _ hj]
        cases z : l.getLsbD j with
        | true => exact absurd z q
        | false => simp
      · have : (BitVec.ofNat 64 1).getLsbD i = false := by
          have := bb_one (n := 0) (i := i) (by omega)
          rw [BitVec.shiftLeft_zero] at this
          rw [this, decide_eq_false e]
        rw [this, Bool.and_false]; simp
    rw [this]; decide
theorem bil {l : BitVec 64} (hq : Q (.inl (some (vI (pw l)))) σ) : ∀ (d : Nat) (i : Nat) (a1 : Option AV), i + d = 64 → wp t 178 4 [some (vL l), a1, some (vI (cn (fun j => l.getLsbD j.toNat) i)), some (vI i)] [] σ Q
  | 0, i, a1, hd => by
    have e : i = 64 := by omega
    subst e
    rw [x178_4]
    refine ⟨⟨by omega, by omega⟩, fun a => by omega, fun _ => ?_⟩
    rw [x178_25]; exact hq
  | d + 1, i, a1, hd => by
    have ih := bil hq d (i + 1) (lhead a1) (by omega)
    rw [cn_succ, Int.toNat_natCast] at ih
    rw [x178_4]
    refine ⟨⟨by omega, by omega⟩, fun _ => ?_, fun a => by omega⟩
    rw [x178_10, sh6_id (by omega) (by omega), Int.toNat_natCast, bt1 (by omega)]
    exact ih
/-- bits -/
theorem e178 {l : BitVec 64} : Call t 178 [vL l] σ Q ↔ Q (.inl (some (vI (pw l)))) σ := Call_iff (fun Q hq => by
  rw [x178_0]; exact bil hq 64 0 _ (by omega))
theorem fcl (hq : Q (.inl (some (vI (fpop (gL σ 62))))) σ) : ∀ (d : Nat) (i : Nat), i + d = 456 → wp t 232 13 [some (vR 53), some (vI (fsum (gL σ 62) i)), some (vI i)] [] σ Q
  | 0, i, hd => by
    have e : i = 456 := by omega
    subst e
    rw [x232_13]
    refine ⟨⟨by omega, by omega⟩, fun a => by omega, fun _ => ?_⟩
    rw [x232_40]; exact hq
  | d + 1, i, hd => by
    have ih := fcl hq d (i + 1) (by omega)
    rw [x232_13]
    refine ⟨⟨by omega, by omega⟩, fun _ => ?_, fun a => by omega⟩
    simp only [x232_22, e178, x232_32, aft_l, aft_r, optL_s, optL_n, xgo_n, xgo_s, List.cons_append, List.nil_append, List.append_nil, true_and, and_true, Nat.sub_zero, Nat.zero_le, true_implies, false_implies, implies_true, not_true_eq_false, not_false_eq_true, true_or, or_true]
    exact ⟨⟨by omega, by omega⟩, ih⟩
/-- factCount -/
theorem c232 (hP : okP P) (hl : 0 ≤ lim ∧ lim ≤ 2) (hC : isC P lim xs) (h : LQ P lim xs σ) (hq : ∀ σ', FQ P lim xs σ' → gI σ' 53 0 = 0 → fr qM σ σ' → Q (.inl (some (vI (FN P xs lim)))) σ') : Call t 232 [vR 53] σ Q := by
  rw [x232_0]
  refine c219q hP hl hC (LQ_fr h q0 qK0) (fun σ1 g1 g2 => ?_)
  simp only [x232_9, aft_l, aft_r, optL_s, optL_n, xgo_n, xgo_s, List.cons_append, List.nil_append, List.append_nil, true_and, and_true, Nat.sub_zero, Nat.zero_le, true_implies, false_implies, implies_true, not_true_eq_false, not_false_eq_true, true_or, or_true]
  have fin := hq σ1 g1 (frq0 g2).1 (frq0 g2).2
  rw [← FN_of hP hC g1.2.2.2.2.2.1] at fin
  exact fcl fin 456 0 (by omega)
/-- mayAlias -/
def alp (P : Pg) (xs : List Int) (lim v w : Int) : Prop := ∃ t : Nat, t < 64 ∧ (im xs (Lf P xs lim) v t ∧ im xs (Lf P xs lim) w t)
theorem c233 (hP : okP P) (hl : 0 ≤ lim ∧ lim ≤ 2) (hC : isC P lim xs) (h : LQ P lim xs σ) {v w : Int} (hv : inR v) (hw : inR w) (h0 : ¬ ((0 ≤ v ∧ v < 20) ∧ (0 ≤ w ∧ w < 20)) → Q (.inl (some (vI 0))) (sI σ 53 0 1))
    (h1 : (0 ≤ v ∧ v < 20) → (0 ≤ w ∧ w < 20) → ∀ σ', FQ P lim xs σ' → gI σ' 53 0 = 0 → fr qM σ σ' → Q (.inl (some (vI (b2i (dcl (alp P xs lim v w)))))) σ') : Call t 233 [vR 53, vI v, vI w] σ Q := by
  simp only [x233_0, x233_4, x233_7, x233_11, e180 hv, e180 hw, eq_true (b2i_in _), b2i_0, aft_l, aft_r, optL_s, optL_n, xgo_n, xgo_s, List.cons_append, List.nil_append, List.append_nil, true_and, and_true, Nat.sub_zero, Nat.zero_le, true_implies, false_implies, implies_true, not_true_eq_false, not_false_eq_true, true_or, or_true]
  have bad : ¬ ((0 ≤ v ∧ v < 20) ∧ (0 ≤ w ∧ w < 20)) → ∀ a1 a2, wp t 233 14 [some (vR 53), a1, a2] [] σ Q := fun hn a1 a2 => by
    simp only [x233_14, x233_19, e176, aft_l, aft_r, optL_s, optL_n, xgo_n, xgo_s, List.cons_append, List.nil_append, List.append_nil, true_and, and_true, Nat.sub_zero, Nat.zero_le, true_implies, false_implies, implies_true, not_true_eq_false, not_false_eq_true, true_or, or_true]
    exact h0 hn
  by_cases q : 0 ≤ v ∧ v < 20
  · by_cases p : 0 ≤ w ∧ w < 20
    · rw [dcl_t q, dcl_t p]
      refine ⟨fun a => (by cases a), fun _ => ⟨fun a => (by cases a), fun _ => ?_⟩⟩
      rw [x233_20]
      refine c227 hP hl hC (LQ_fr h q0 qK0) q.1 (by omega) (fun σ1 g1 g2 => ?_)
      have fin := h1 q p σ1 g1 (frq0 g2).1 (frq0 g2).2
      simp only [x233_30, e227 hP hl hC g1 p.1 (show w < 44 by omega), x233_35, lCmp_eq, eq_true lCmp_in, aft_l, aft_r, optL_s, optL_n, xgo_n, xgo_s, List.cons_append, List.nil_append, List.append_nil, true_and, and_true, Nat.sub_zero, Nat.zero_le, true_implies, false_implies, implies_true, not_true_eq_false, not_false_eq_true, true_or, or_true]
      have hz := SW_z (SW_and (SW_wS (im xs (Lf P xs lim) v)) (SW_wS (im xs (Lf P xs lim) w)))
      refine ⟨fun a => ?_, fun a => ?_⟩
      · rw [dcl_f (fun ⟨t, ht, k⟩ => hz.mp a t ht k), b2i_f] at fin
        rw [x233_45, x233_46]; exact ⟨Or.inl rfl, fin⟩
      · rw [dcl_t (by
          apply Classical.byContradiction
          intro hno
          exact a (hz.mpr (fun t ht k => hno ⟨t, ht, k⟩))), b2i_t] at fin
        rw [x233_41, x233_46]; exact ⟨Or.inr rfl, fin⟩
    · rw [dcl_t q, dcl_f p]
      refine ⟨fun a => (by cases a), fun _ => ⟨fun _ => bad (fun z => p z.2) _ _, fun a => absurd rfl a⟩⟩
  · rw [dcl_f q]
    refine ⟨fun _ => bad (fun z => q z.1) _ _, fun a => absurd rfl a⟩
end LQ2
