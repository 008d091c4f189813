/-! the class: questions 1 -/
def clq : Nat → Int → Prop := fun c _ => 19 ≤ c ∧ c ≤ 45
theorem CI_45 {P : Pg} {lim : Int} {σ σ' : St} (h : CI P lim σ) (g : fr (fun c _ => c = 45) σ σ') : CI P lim σ' := CI_fr h g (fun c j k => by omega)
theorem CI_26 {P : Pg} {lim : Int} {σ σ' : St} (h : CI P lim σ) (g : fr (fun c _ => c = 26) σ σ') : CI P lim σ' := CI_fr h g (fun c j k => by omega)
section CQ
variable {t : Nat} {σ : St} {Q : Res → St → Prop} {P : Pg} {lim : Int} {xs ys : List Int}
theorem c125 (ht : 1 ≤ t) (hP : okP P) (h : CI P lim σ) {n : Int} (hn : inR n) (h1 : (0 ≤ n ∧ n < tot P) → Q (.inl (some (vI (kd P n)))) σ) (h0 : ¬ (0 ≤ n ∧ n < tot P) → Q (.inr 3) σ) : Call t 125 [vR 0, vI n] σ Q := by
  rw [x125_0]
  refine ⟨ht, c164 (by omega) hP h hn (fun a => ?_) (fun a => ?_)⟩
  · simp only [x125_5, e90 hP h.1.2.1 a.1 a.2, x125_13, aft_l, aft_r, optL_s, optL_n, xgo_n, xgo_s, List.cons_append, List.nil_append, List.append_nil, true_and, and_true, Nat.sub_zero, Nat.zero_le, true_implies, false_implies, implies_true, not_true_eq_false, not_false_eq_true, true_or, or_true]; exact h1 a
  · simp only [xgo_n, aft_l, aft_r, optL_s, optL_n, xgo_n, xgo_s, List.cons_append, List.nil_append, List.append_nil, true_and, and_true, Nat.sub_zero, Nat.zero_le, true_implies, false_implies, implies_true, not_true_eq_false, not_false_eq_true, true_or, or_true]; exact h0 a
theorem c126 (ht : 1 ≤ t) (hP : okP P) (h : CI P lim σ) {n : Int} (hn : inR n) (h1 : (0 ≤ n ∧ n < tot P) → Q (.inl (some (vI (own P n)))) σ) (h0 : ¬ (0 ≤ n ∧ n < tot P) → Q (.inr 3) σ) : Call t 126 [vR 0, vI n] σ Q := by
  rw [x126_0]
  refine ⟨ht, c164 (by omega) hP h hn (fun a => ?_) (fun a => ?_)⟩
  · simp only [x126_5, e94 hP.1 h.1.2.1 a.1 a.2, x126_13, aft_l, aft_r, optL_s, optL_n, xgo_n, xgo_s, List.cons_append, List.nil_append, List.append_nil, true_and, and_true, Nat.sub_zero, Nat.zero_le, true_implies, false_implies, implies_true, not_true_eq_false, not_false_eq_true, true_or, or_true]; exact h1 a
  · simp only [xgo_n, aft_l, aft_r, optL_s, optL_n, xgo_n, xgo_s, List.cons_append, List.nil_append, List.append_nil, true_and, and_true, Nat.sub_zero, Nat.zero_le, true_implies, false_implies, implies_true, not_true_eq_false, not_false_eq_true, true_or, or_true]; exact h0 a
theorem c124 (h : CI P lim σ) (hq : Q (.inl (some (vI (tot P)))) σ) : Call t 124 [vR 0] σ Q := by
  simp only [x124_0, e86 h.1.2.1, x124_7, aft_l, aft_r, optL_s, optL_n, xgo_n, xgo_s, List.cons_append, List.nil_append, List.append_nil, true_and, and_true, Nat.sub_zero, Nat.zero_le, true_implies, false_implies, implies_true, not_true_eq_false, not_false_eq_true, true_or, or_true]; exact hq
theorem c127 (hP : okP P) (h : CI P lim σ) (hq : Q (.inl (some (vI (mny P 4 (-1))))) σ) : Call t 127 [vR 0] σ Q := by
  simp only [x127_0, e87' h hP, x127_7, aft_l, aft_r, optL_s, optL_n, xgo_n, xgo_s, List.cons_append, List.nil_append, List.append_nil, true_and, and_true, Nat.sub_zero, Nat.zero_le, true_implies, false_implies, implies_true, not_true_eq_false, not_false_eq_true, true_or, or_true]; exact hq
theorem c129 (ht : 1 ≤ t) (hP : okP P) (hl : 0 ≤ lim ∧ lim ≤ 2) (hC : isC P lim xs) (h : CI P lim σ) {f : Int} (hf : inR f) (h1 : (0 ≤ f ∧ f < 4) → ∀ σ', CI P lim σ' → fr clq σ σ' → Q (.inl (some (vI (nc xs f)))) σ') (h0 : ¬ (0 ≤ f ∧ f < 4) → Q (.inr 3) σ) : Call t 129 [vR 0, vI f] σ Q := by
  rw [x129_0]
  refine ⟨ht, c162 (by omega) hf (fun a => ?_) (fun a => ?_)⟩
  · simp only [x129_5, e79 h, x129_20, aft_l, aft_r, optL_s, optL_n, xgo_n, xgo_s, List.cons_append, List.nil_append, List.append_nil, true_and, and_true, Nat.sub_zero, Nat.zero_le, true_implies, false_implies, implies_true, not_true_eq_false, not_false_eq_true, true_or, or_true]
    refine s19 hP hl hC h (fun σ1 g1 g2 g3 => ?_)
    simp only [x129_23, x55_0_19, x129_30, e23_20 g1.1 a.1 (show f ≤ 3 by omega), x129_34, aft_l, aft_r, optL_s, optL_n, xgo_n, xgo_s, List.cons_append, List.nil_append, List.append_nil, true_and, and_true, Nat.sub_zero, Nat.zero_le, true_implies, false_implies, implies_true, not_true_eq_false, not_false_eq_true, true_or, or_true]
    exact h1 a σ1 g2 (fr_mono g3 (fun c j k => by unfold clq; omega))
  · simp only [xgo_n, aft_l, aft_r, optL_s, optL_n, xgo_n, xgo_s, List.cons_append, List.nil_append, List.append_nil, true_and, and_true, Nat.sub_zero, Nat.zero_le, true_implies, false_implies, implies_true, not_true_eq_false, not_false_eq_true, true_or, or_true]; exact h0 a
theorem lenK_rng (k : Int) : 0 ≤ lenK k ∧ lenK k ≤ 2 := by unfold lenK; split <;> (try split) <;> omega
theorem c132 (ht : 1 ≤ t) (hP : okP P) (hl : 0 ≤ lim ∧ lim ≤ 2) (hC : isC P lim xs) (h : CI P lim σ) {v : Int} (hv : inR v) (h1 : (0 ≤ v ∧ v < 20) → ∀ σ', CI P lim σ' → fr clq σ σ' → Q (.inl (some (vL (wS (im xs (Lf P xs lim) v))))) σ') (h0 : ¬ (0 ≤ v ∧ v < 20) → Q (.inr 3) σ) : Call t 132 [vR 0, vI v] σ Q := by
  rw [x132_0]
  refine ⟨ht, c165 (by omega) hv (fun a => ?_) (fun a => ?_)⟩
  · simp only [x132_5, e79 h, x132_20, aft_l, aft_r, optL_s, optL_n, xgo_n, xgo_s, List.cons_append, List.nil_append, List.append_nil, true_and, and_true, Nat.sub_zero, Nat.zero_le, true_implies, false_implies, implies_true, not_true_eq_false, not_false_eq_true, true_or, or_true]
    refine s19 hP hl hC h (fun σ1 g1 g2 g3 => ?_)
    simp only [x132_23, e58_19 a.1 (show v < 44 by omega), x132_31, wS_of (INr_SW_19 g1 a.1 (show v < 44 by omega)), aft_l, aft_r, optL_s, optL_n, xgo_n, xgo_s, List.cons_append, List.nil_append, List.append_nil, true_and, and_true, Nat.sub_zero, Nat.zero_le, true_implies, false_implies, implies_true, not_true_eq_false, not_false_eq_true, true_or, or_true]
    exact h1 a σ1 g2 (fr_mono g3 (fun c j k => by unfold clq; omega))
  · simp only [xgo_n, aft_l, aft_r, optL_s, optL_n, xgo_n, xgo_s, List.cons_append, List.nil_append, List.append_nil, true_and, and_true, Nat.sub_zero, Nat.zero_le, true_implies, false_implies, implies_true, not_true_eq_false, not_false_eq_true, true_or, or_true]; exact h0 a
theorem C_pos (hC : isC P lim xs) : 0 < (xs.length : Int) := by
  have : 0 < xs.length := List.length_pos_of_mem ((hC.2 0).mpr (fun X h0 _ => h0))
  omega
theorem c134 (ht : 1 ≤ t) (hP : okP P) (hl : 0 ≤ lim ∧ lim ≤ 2) (hC : isC P lim xs) (h : CI P lim σ) {s f : Int} (hs : inR s) (hf : inR f) (h1 : ((0 ≤ s ∧ s < mny P 4 (-1)) ∧ (0 ≤ f ∧ f < 3)) → ∀ σ', CI P lim σ' → fr clq σ σ' → Q (.inl (some (vL (wS (im xs (Lf P xs lim) (20 + 3 * s + f)))))) σ')
    (h0 : ¬ ((0 ≤ s ∧ s < mny P 4 (-1)) ∧ (0 ≤ f ∧ f < 3)) → Q (.inr 3) σ) : Call t 134 [vR 0, vI s, vI f] σ Q := by
  have hm := m8_rng hP
  rw [x134_0]
  refine ⟨ht, c166 (by omega) hP h hs hf (fun a => ?_) (fun a => ?_)⟩
  · simp only [x134_6, e79 h, x134_21, aft_l, aft_r, optL_s, optL_n, xgo_n, xgo_s, List.cons_append, List.nil_append, List.append_nil, true_and, and_true, Nat.sub_zero, Nat.zero_le, true_implies, false_implies, implies_true, not_true_eq_false, not_false_eq_true, true_or, or_true]
    refine s19 hP hl hC h (fun σ1 g1 g2 g3 => ?_)
    simp only [x134_24, k171, x134_33, e58_19 (show 0 ≤ 20 + 3 * s + f by omega) (show 20 + 3 * s + f < 44 by omega), x134_36, wS_of (INr_SW_19 g1 (show 0 ≤ 20 + 3 * s + f by omega) (show 20 + 3 * s + f < 44 by omega)), aft_l, aft_r, optL_s, optL_n, xgo_n, xgo_s, List.cons_append, List.nil_append, List.append_nil, true_and, and_true, Nat.sub_zero, Nat.zero_le, true_implies, false_implies, implies_true, not_true_eq_false, not_false_eq_true, true_or, or_true]
    exact h1 a σ1 g2 (fr_mono g3 (fun c j k => by unfold clq; omega))
  · simp only [xgo_n, aft_l, aft_r, optL_s, optL_n, xgo_n, xgo_s, List.cons_append, List.nil_append, List.append_nil, true_and, and_true, Nat.sub_zero, Nat.zero_le, true_implies, false_implies, implies_true, not_true_eq_false, not_false_eq_true, true_or, or_true]; exact h0 a
theorem c135 (hP : okP P) (hl : 0 ≤ lim ∧ lim ≤ 2) (hC : isC P lim xs) (h : CI P lim σ) (hq : ∀ σ', CI P lim σ' → fr clq σ σ' → Q (.inl (some (vI (FN P xs lim)))) σ') : Call t 135 [vR 0] σ Q := by
  simp only [x135_0, e79 h, x135_15, aft_l, aft_r, optL_s, optL_n, xgo_n, xgo_s, List.cons_append, List.nil_append, List.append_nil, true_and, and_true, Nat.sub_zero, Nat.zero_le, true_implies, false_implies, implies_true, not_true_eq_false, not_false_eq_true, true_or, or_true]
  refine s19 hP hl hC h (fun σ1 g1 g2 g3 => ?_)
  have e : gI σ1 19 9 = FN P xs lim := by
    rw [g1.2.2.2.2.2.2.2.1]
    exact FN_of hP hC (g := 24) g1.2.2.2.1
  simp only [x135_18, x56_0_19, x135_25, e, aft_l, aft_r, optL_s, optL_n, xgo_n, xgo_s, List.cons_append, List.nil_append, List.append_nil, true_and, and_true, Nat.sub_zero, Nat.zero_le, true_implies, false_implies, implies_true, not_true_eq_false, not_false_eq_true, true_or, or_true]
  exact hq σ1 g2 (fr_mono g3 (fun c j k => by unfold clq; omega))
theorem c136 (ht : 2 ≤ t) (hP : okP P) (hl : 0 ≤ lim ∧ lim ≤ 2) (hC : isC P lim xs) (h : CI P lim σ) {v w : Int} (hv : inR v) (hw : inR w) (h1 : (0 ≤ v ∧ v < 20) → (0 ≤ w ∧ w < 20) → ∀ σ', CI P lim σ' → fr clq σ σ' → Q (.inl (some (vI (b2i (dcl (alp P xs lim v w)))))) σ') (h0 : ¬ ((0 ≤ v ∧ v < 20) ∧ (0 ≤ w ∧ w < 20)) → Q (.inr 3) σ) : Call t 136 [vR 0, vI v, vI w] σ Q := by
  rw [x136_0]
  refine ⟨by omega, c165 (by omega) hv (fun a => ?_) (fun a => ?_)⟩
  · simp only [x136_5, aft_l, aft_r, optL_s, optL_n, xgo_n, xgo_s, List.cons_append, List.nil_append, List.append_nil, true_and, and_true, Nat.sub_zero, Nat.zero_le, true_implies, false_implies, implies_true, not_true_eq_false, not_false_eq_true, true_or, or_true]
    refine ⟨by omega, c165 (by omega) hw (fun b => ?_) (fun b => ?_)⟩
    · simp only [x136_10, e79 h, x136_25, aft_l, aft_r, optL_s, optL_n, xgo_n, xgo_s, List.cons_append, List.nil_append, List.append_nil, true_and, and_true, Nat.sub_zero, Nat.zero_le, true_implies, false_implies, implies_true, not_true_eq_false, not_false_eq_true, true_or, or_true]
      refine s19 hP hl hC h (fun σ1 g1 g2 g3 => ?_)
      have fin := h1 a b σ1 g2 (fr_mono g3 (fun c j k => by unfold clq; omega))
      simp only [x136_28, e58_19 a.1 (show v < 44 by omega), x136_36, e58_19 b.1 (show w < 44 by omega), x136_44, lCmp_eq, eq_true lCmp_in, aft_l, aft_r, optL_s, optL_n, xgo_n, xgo_s, List.cons_append, List.nil_append, List.append_nil, true_and, and_true, Nat.sub_zero, Nat.zero_le, true_implies, false_implies, implies_true, not_true_eq_false, not_false_eq_true, true_or, or_true]
      have hz := SW_z (SW_and (INr_SW_19 g1 a.1 (show v < 44 by omega)) (INr_SW_19 g1 b.1 (show w < 44 by omega)))
      refine ⟨fun c => ?_, fun c => ?_⟩
      · rw [dcl_f (fun ⟨t, ht, k⟩ => hz.mp c t ht k), b2i_f] at fin
        rw [x136_54, x136_55]; exact ⟨Or.inl rfl, fin⟩
      · rw [dcl_t (by
          apply Classical.byContradiction
          intro hno
          exact c (hz.mpr (fun t ht k => hno ⟨t, ht, k⟩))), b2i_t] at fin
        rw [x136_50, x136_55]; exact ⟨Or.inr rfl, fin⟩
    · simp only [xgo_n, aft_l, aft_r, optL_s, optL_n, xgo_n, xgo_s, List.cons_append, List.nil_append, List.append_nil, true_and, and_true, Nat.sub_zero, Nat.zero_le, true_implies, false_implies, implies_true, not_true_eq_false, not_false_eq_true, true_or, or_true]; exact h0 (fun z => b z.2)
  · simp only [xgo_n, aft_l, aft_r, optL_s, optL_n, xgo_n, xgo_s, List.cons_append, List.nil_append, List.append_nil, true_and, and_true, Nat.sub_zero, Nat.zero_le, true_implies, false_implies, implies_true, not_true_eq_false, not_false_eq_true, true_or, or_true]; exact h0 (fun z => a z.1)
theorem GW_wS {E : Int → Int → Prop} (h : ∀ a b, GW σ a b ↔ E a b) {a : Int} (a0 : 0 ≤ a) (a1 : a < 44) : gL σ 45 a = wS (E a) := wS_of (SW_congr (GW_SW a0 a1) (fun t _ => h a t))
theorem c137 (ht : 1 ≤ t) (hP : okP P) (hl : 0 ≤ lim ∧ lim ≤ 2) (hC : isC P lim xs) (h : CI P lim σ) {v : Int} (hv : inR v) (h1 : (0 ≤ v ∧ v < 20) → ∀ σ', CI P lim σ' → fr clq σ σ' → Q (.inl (some (vL (wS (TC (im xs (Lf P xs lim)) v))))) σ') (h0 : ¬ (0 ≤ v ∧ v < 20) → Q (.inr 3) σ) : Call t 137 [vR 0, vI v] σ Q := by
  rw [x137_0]
  refine ⟨ht, c165 (by omega) hv (fun a => ?_) (fun a => ?_)⟩
  · simp only [x137_5, e79 h, x137_20, aft_l, aft_r, optL_s, optL_n, xgo_n, xgo_s, List.cons_append, List.nil_append, List.append_nil, true_and, and_true, Nat.sub_zero, Nat.zero_le, true_implies, false_implies, implies_true, not_true_eq_false, not_false_eq_true, true_or, or_true]
    refine s19 hP hl hC h (fun σ1 g1 g2 g3 => ?_)
    simp only [x137_23, aft_l, aft_r, optL_s, optL_n, xgo_n, xgo_s, List.cons_append, List.nil_append, List.append_nil, true_and, and_true, Nat.sub_zero, Nat.zero_le, true_implies, false_implies, implies_true, not_true_eq_false, not_false_eq_true, true_or, or_true]
    refine c159 hP g1 (fun σ2 k1 k2 => ?_)
    simp only [x137_27, e40 a.1 (show v < 44 by omega), x137_35, GW_wS k1 a.1 (show v < 44 by omega), aft_l, aft_r, optL_s, optL_n, xgo_n, xgo_s, List.cons_append, List.nil_append, List.append_nil, true_and, and_true, Nat.sub_zero, Nat.zero_le, true_implies, false_implies, implies_true, not_true_eq_false, not_false_eq_true, true_or, or_true]
    exact h1 a σ2 (CI_45 g2 k2) (fr_trans (fr_mono g3 (fun c j k => by unfold clq; omega)) (fr_mono k2 (fun c j k => by unfold clq; omega)))
  · simp only [xgo_n, aft_l, aft_r, optL_s, optL_n, xgo_n, xgo_s, List.cons_append, List.nil_append, List.append_nil, true_and, and_true, Nat.sub_zero, Nat.zero_le, true_implies, false_implies, implies_true, not_true_eq_false, not_false_eq_true, true_or, or_true]; exact h0 a
theorem es1 {E : Int → Int → Prop} (h : ∀ a b, GW σ a b ↔ E a b) (hq : ∀ a2 a4 a3, wp t 138 48 [some (vR 0), some (vL (wS (fun t => ∃ g, 0 ≤ g ∧ (g < 4 ∧ E g t)))), a2, a3, a4] [] σ Q) :
    ∀ (d : Nat) (i : Int) (a2 a4 : Option AV), 0 ≤ i → i + d = 4 → wp t 138 26 [some (vR 0), some (vL (wS (fun t => ∃ g, 0 ≤ g ∧ (g < i ∧ E g t)))), a2, some (vI i), a4] [] σ Q
  | 0, i, a2, a4, i0, hd => by
    have e : i = 4 := by omega
    subst e
    rw [x138_26]
    exact ⟨⟨by omega, by omega⟩, fun a => by omega, fun _ => hq _ _ _⟩
  | d + 1, i, a2, a4, i0, hd => by
    rw [x138_26]
    refine ⟨⟨by omega, by omega⟩, fun _ => ?_, fun a => by omega⟩
    simp only [x138_31, e40 i0 (show i < 44 by omega), x138_40, GW_wS h i0 (show i < 44 by omega), wS_or, aft_l, aft_r, optL_s, optL_n, xgo_n, xgo_s, List.cons_append, List.nil_append, List.append_nil, true_and, and_true, Nat.sub_zero, Nat.zero_le, true_implies, false_implies, implies_true, not_true_eq_false, not_false_eq_true, true_or, or_true]
    rw [show wS (fun t => (∃ g, 0 ≤ g ∧ (g < i ∧ E g t)) ∨ E i t) = wS (fun t => ∃ g, 0 ≤ g ∧ (g < i + 1 ∧ E g t)) from wS_congr (fun t ht => ⟨fun k => by
      rcases k with ⟨g, k0, k1, k2⟩ | k
      · exact ⟨g, k0, by omega, k2⟩
      · exact ⟨i, i0, by omega, k⟩, fun ⟨g, k0, k1, k2⟩ => by
      by_cases z : g = i
      · rw [z] at k2; exact Or.inr k2
      · exact Or.inl ⟨g, k0, by omega, k2⟩⟩)]
    exact es1 h hq d (i + 1) _ _ (by omega) (by omega)
theorem es2 {R : Int → Prop} (hq : Q (.inl (some (vI (iW (fun s => s < 8 ∧ ∃ t, (20 + 3 * s ≤ t ∧ t < 23 + 3 * s) ∧ R t))))) σ) :
    ∀ (d : Nat) (i : Int) (a0 a2 : Option AV), 0 ≤ i → i + d = 8 → wp t 138 53 [a0, some (vL (wS R)), a2, some (vI (iW (fun s => s < i ∧ ∃ t, (20 + 3 * s ≤ t ∧ t < 23 + 3 * s) ∧ R t))), some (vI i)] [] σ Q
  | 0, i, a0, a2, i0, hd => by
    have e : i = 8 := by omega
    subst e
    rw [x138_53]
    refine ⟨⟨by omega, by omega⟩, fun a => by omega, fun _ => ?_⟩
    rw [x138_85]; exact hq
  | d + 1, i, a0, a2, i0, hd => by
    have hz := SW_z (SW_and (SW_wS R) (SW_seven (z := 20 + 3 * i + 0) (by omega) (by omega)))
    rw [x138_53]
    refine ⟨⟨by omega, by omega⟩, fun _ => ?_, fun a => by omega⟩
    simp only [x138_60, k172, x138_66, lCmp_eq, eq_true lCmp_in, aft_l, aft_r, optL_s, optL_n, xgo_n, xgo_s, List.cons_append, List.nil_append, List.append_nil, true_and, and_true, Nat.sub_zero, Nat.zero_le, true_implies, false_implies, implies_true, not_true_eq_false, not_false_eq_true, true_or, or_true]
    refine ⟨fun a => ?_, fun a => ?_⟩
    · rw [x138_79, show iW (fun s => s < i ∧ ∃ t, (20 + 3 * s ≤ t ∧ t < 23 + 3 * s) ∧ R t) = iW (fun s => s < i + 1 ∧ ∃ t, (20 + 3 * s ≤ t ∧ t < 23 + 3 * s) ∧ R t) from iW_congr (fun s hs => ⟨fun k => ⟨by omega, k.2⟩, fun ⟨k1, t, k2, k3⟩ => by
        by_cases z : (s : Int) = i
        · rw [z] at k2
          exact absurd ⟨by rw [show ((t.toNat : Nat) : Int) = t by omega]; exact k3, by omega, by omega⟩ (hz.mp a t.toNat (by omega))
        · exact ⟨by omega, t, k2, k3⟩⟩)]
      exact es2 hq d (i + 1) _ _ (by omega) (by omega)
    · have hex : ∃ t, (20 + 3 * i ≤ t ∧ t < 23 + 3 * i) ∧ R t := by
        apply Classical.byContradiction
        intro hno
        exact a (hz.mpr (fun t ht k => hno ⟨t, ⟨by omega, by omega⟩, k.1⟩))
      rw [x138_72, x138_79, iW_one i0 (by omega), iW_or, show iW (fun t => (t < i ∧ ∃ t', (20 + 3 * t ≤ t' ∧ t' < 23 + 3 * t) ∧ R t') ∨ t = i) = iW (fun s => s < i + 1 ∧ ∃ t, (20 + 3 * s ≤ t ∧ t < 23 + 3 * s) ∧ R t) from iW_congr (fun s hs => ⟨fun k => by
        rcases k with ⟨k1, k2⟩ | k
        · exact ⟨by omega, k2⟩
        · rw [k]; exact ⟨by omega, hex⟩, fun ⟨k1, k2⟩ => by
        by_cases z : (s : Int) = i
        · exact Or.inr z
        · exact Or.inl ⟨by omega, k2⟩⟩)]
      exact ⟨⟨by omega, by omega⟩, es2 hq d (i + 1) _ _ (by omega) (by omega)⟩
theorem c138 (hP : okP P) (hl : 0 ≤ lim ∧ lim ≤ 2) (hC : isC P lim xs) (h : CI P lim σ) (hq : ∀ σ', CI P lim σ' → fr clq σ σ' → Q (.inl (some (vI (iW (escS P xs lim))))) σ') : Call t 138 [vR 0] σ Q := by
  simp only [x138_0, e79 h, x138_15, aft_l, aft_r, optL_s, optL_n, xgo_n, xgo_s, List.cons_append, List.nil_append, List.append_nil, true_and, and_true, Nat.sub_zero, Nat.zero_le, true_implies, false_implies, implies_true, not_true_eq_false, not_false_eq_true, true_or, or_true]
  refine s19 hP hl hC h (fun σ1 g1 g2 g3 => ?_)
  simp only [x138_18, aft_l, aft_r, optL_s, optL_n, xgo_n, xgo_s, List.cons_append, List.nil_append, List.append_nil, true_and, and_true, Nat.sub_zero, Nat.zero_le, true_implies, false_implies, implies_true, not_true_eq_false, not_false_eq_true, true_or, or_true]
  refine c159 hP g1 (fun σ2 k1 k2 => ?_)
  have fin := hq σ2 (CI_45 g2 k2) (fr_trans (fr_mono g3 (fun c j k => by unfold clq; omega)) (fr_mono k2 (fun c j k => by unfold clq; omega)))
  have z0 : BitVec.ofNat 64 0 = wS (fun t => ∃ g, 0 ≤ g ∧ (g < 0 ∧ TC (im xs (Lf P xs lim)) g t)) := ((wS_z _).mpr (fun t ht ⟨g, g0, g1, _⟩ => by omega)).symm
  simp only [x138_22, aft_l, aft_r, optL_s, optL_n, xgo_n, xgo_s, List.cons_append, List.nil_append, List.append_nil, true_and, and_true, Nat.sub_zero, Nat.zero_le, true_implies, false_implies, implies_true, not_true_eq_false, not_false_eq_true, true_or, or_true]
  rw [z0]
  refine es1 k1 (fun a2 a4 a3 => ?_) 4 0 _ _ (by omega) (by omega)
  rw [x138_48]
  have := es2 (t := t) (σ := σ2) (Q := Q) (R := glR P xs lim) fin 8 0 (some (vR 0)) (lhead a2) (by omega) (by omega)
  rw [← iW_0 (S := fun s => s < 0 ∧ ∃ t, (20 + 3 * s ≤ t ∧ t < 23 + 3 * s) ∧ glR P xs lim t) (fun t ht k => by omega)] at this
  exact this
end CQ

