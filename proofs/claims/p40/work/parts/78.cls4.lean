/-! the class: questions 2 -/
section CQ2
variable {t : Nat} {σ : St} {Q : Res → St → Prop} {P : Pg} {lim : Int} {xs ys : List Int}
theorem c139 (ht : 3 ≤ t) (hP : okP P) (hY : isC P 0 ys) (h : CI P lim σ) {v w : Int} (hv : inR v) (hw : inR w) (h0 : ¬ fAsk P v w → ∀ σ', CI P lim σ' → fr clq σ σ' → Q (.inr 3) σ')
    (h2 : fAsk P v w → ¬ im ys (Lf P ys 0) v w → ∀ σ', CI P lim σ' → fr clq σ σ' → Q (.inr 4) σ') (h1 : fAsk P v w → im ys (Lf P ys 0) v w → ∀ σ', CI P lim σ' → RKp P ys 0 v w (gI σ' 39 (v * 44 + w)) (gI σ' 40 (v * 44 + w)) → fr clq σ σ' → Q (.inl (some (vI (gI σ' 39 (v * 44 + w))))) σ') : Call t 139 [vR 0, vI v, vI w] σ Q := by
  have hm := m8_rng hP
  rw [x139_0]
  refine s30 hP hY h (fun σ1 g1 g2 g3 => ?_)
  have g4 : fr clq σ σ1 := fr_mono g3 (fun c j k => by unfold clq; omega)
  simp only [x139_12, aft_l, aft_r, optL_s, optL_n, xgo_n, xgo_s, List.cons_append, List.nil_append, List.append_nil, true_and, and_true, Nat.sub_zero, Nat.zero_le, true_implies, false_implies, implies_true, not_true_eq_false, not_false_eq_true, true_or, or_true]
  refine ⟨ht, c167 (by omega) hP g2 g1 hv hw (fun a => ?_) (fun a b => ?_) (fun a b => ?_)⟩
  · simp only [xgo_n, aft_l, aft_r, optL_s, optL_n, xgo_n, xgo_s, List.cons_append, List.nil_append, List.append_nil, true_and, and_true, Nat.sub_zero, Nat.zero_le, true_implies, false_implies, implies_true, not_true_eq_false, not_false_eq_true, true_or, or_true]; exact h0 a σ1 g2 g4
  · simp only [xgo_n, aft_l, aft_r, optL_s, optL_n, xgo_n, xgo_s, List.cons_append, List.nil_append, List.append_nil, true_and, and_true, Nat.sub_zero, Nat.zero_le, true_implies, false_implies, implies_true, not_true_eq_false, not_false_eq_true, true_or, or_true]; exact h2 a b σ1 g2 g4
  · have a1 := a.1
    have a2 := a.2
    have hr := g1.2.2.2.2.2.2.1 v w a1.1 (by omega) a2.1 (by omega) b
    simp only [x139_18, e60_30 a1.1 (show v < 44 by omega) a2.1 (show w < 44 by omega), x139_27, aft_l, aft_r, optL_s, optL_n, xgo_n, xgo_s, List.cons_append, List.nil_append, List.append_nil, true_and, and_true, Nat.sub_zero, Nat.zero_le, true_implies, false_implies, implies_true, not_true_eq_false, not_false_eq_true, true_or, or_true]
    exact h1 a b σ1 g2 hr g4
theorem c140 (ht : 3 ≤ t) (hP : okP P) (hY : isC P 0 ys) (h : CI P lim σ) {v w : Int} (hv : inR v) (hw : inR w) (h0 : ¬ fAsk P v w → ∀ σ', CI P lim σ' → fr clq σ σ' → Q (.inr 3) σ')
    (h2 : fAsk P v w → ¬ im ys (Lf P ys 0) v w → ∀ σ', CI P lim σ' → fr clq σ σ' → Q (.inr 4) σ') (h1 : fAsk P v w → im ys (Lf P ys 0) v w → ∀ σ', CI P lim σ' → RKp P ys 0 v w (gI σ' 39 (v * 44 + w)) (gI σ' 40 (v * 44 + w)) → fr clq σ σ' → Q (.inl (some (vI (gI σ' 40 (v * 44 + w))))) σ') : Call t 140 [vR 0, vI v, vI w] σ Q := by
  have hm := m8_rng hP
  rw [x140_0]
  refine s30 hP hY h (fun σ1 g1 g2 g3 => ?_)
  have g4 : fr clq σ σ1 := fr_mono g3 (fun c j k => by unfold clq; omega)
  simp only [x140_12, aft_l, aft_r, optL_s, optL_n, xgo_n, xgo_s, List.cons_append, List.nil_append, List.append_nil, true_and, and_true, Nat.sub_zero, Nat.zero_le, true_implies, false_implies, implies_true, not_true_eq_false, not_false_eq_true, true_or, or_true]
  refine ⟨ht, c167 (by omega) hP g2 g1 hv hw (fun a => ?_) (fun a b => ?_) (fun a b => ?_)⟩
  · simp only [xgo_n, aft_l, aft_r, optL_s, optL_n, xgo_n, xgo_s, List.cons_append, List.nil_append, List.append_nil, true_and, and_true, Nat.sub_zero, Nat.zero_le, true_implies, false_implies, implies_true, not_true_eq_false, not_false_eq_true, true_or, or_true]; exact h0 a σ1 g2 g4
  · simp only [xgo_n, aft_l, aft_r, optL_s, optL_n, xgo_n, xgo_s, List.cons_append, List.nil_append, List.append_nil, true_and, and_true, Nat.sub_zero, Nat.zero_le, true_implies, false_implies, implies_true, not_true_eq_false, not_false_eq_true, true_or, or_true]; exact h2 a b σ1 g2 g4
  · have a1 := a.1
    have a2 := a.2
    have hr := g1.2.2.2.2.2.2.1 v w a1.1 (by omega) a2.1 (by omega) b
    simp only [x140_18, e61_30 a1.1 (show v < 44 by omega) a2.1 (show w < 44 by omega), x140_27, aft_l, aft_r, optL_s, optL_n, xgo_n, xgo_s, List.cons_append, List.nil_append, List.append_nil, true_and, and_true, Nat.sub_zero, Nat.zero_le, true_implies, false_implies, implies_true, not_true_eq_false, not_false_eq_true, true_or, or_true]
    exact h1 a b σ1 g2 hr g4
theorem c141 (hP : okP P) (hY : isC P 0 ys) (h : CI P lim σ) (hq : ∀ σ' r, RDn P ys 0 r → CI P lim σ' → fr clq σ σ' → Q (.inl (some (vI r))) σ') : Call t 141 [vR 0] σ Q := by
  rw [x141_0]
  refine s30 hP hY h (fun σ1 g1 g2 g3 => ?_)
  simp only [x141_12, x57_0_30, x141_19, aft_l, aft_r, optL_s, optL_n, xgo_n, xgo_s, List.cons_append, List.nil_append, List.append_nil, true_and, and_true, Nat.sub_zero, Nat.zero_le, true_implies, false_implies, implies_true, not_true_eq_false, not_false_eq_true, true_or, or_true]
  exact hq σ1 _ g1.2.2.2.2.2.2.2.2 g2 (fr_mono g3 (fun c j k => by unfold clq; omega))
theorem c142 (ht : 1 ≤ t) (hP : okP P) (h : CI P lim σ) {v : Int} (hv : inR v) (h1 : (0 ≤ v ∧ v < 20) → ∀ σ', CI P lim σ' → fr clq σ σ' → Q (.inl (some (vL (wS (ugT P (mny P 4 (-1)) v))))) σ') (h0 : ¬ (0 ≤ v ∧ v < 20) → Q (.inr 3) σ) : Call t 142 [vR 0, vI v] σ Q := by
  have hm := m8_rng hP
  rw [x142_0]
  refine ⟨ht, c165 (by omega) hv (fun a => ?_) (fun a => ?_)⟩
  · simp only [x142_5, aft_l, aft_r, optL_s, optL_n, xgo_n, xgo_s, List.cons_append, List.nil_append, List.append_nil, true_and, and_true, Nat.sub_zero, Nat.zero_le, true_implies, false_implies, implies_true, not_true_eq_false, not_false_eq_true, true_or, or_true]
    refine s41 hP h (fun σ1 g1 g2 g3 => ?_)
    simp only [x142_16, e87' g2 hP, x142_28, aft_l, aft_r, optL_s, optL_n, xgo_n, xgo_s, List.cons_append, List.nil_append, List.append_nil, true_and, and_true, Nat.sub_zero, Nat.zero_le, true_implies, false_implies, implies_true, not_true_eq_false, not_false_eq_true, true_or, or_true]
    refine c118 g1 a.1 a.2 (by omega) (fun l hl => ?_)
    simp only [x142_31, wS_of hl, aft_l, aft_r, optL_s, optL_n, xgo_n, xgo_s, List.cons_append, List.nil_append, List.append_nil, true_and, and_true, Nat.sub_zero, Nat.zero_le, true_implies, false_implies, implies_true, not_true_eq_false, not_false_eq_true, true_or, or_true]
    exact h1 a σ1 g2 (fr_mono g3 (fun c j k => by unfold clq; omega))
  · simp only [xgo_n, aft_l, aft_r, optL_s, optL_n, xgo_n, xgo_s, List.cons_append, List.nil_append, List.append_nil, true_and, and_true, Nat.sub_zero, Nat.zero_le, true_implies, false_implies, implies_true, not_true_eq_false, not_false_eq_true, true_or, or_true]; exact h0 a
theorem c143 (ht : 2 ≤ t) (hP : okP P) (h : CI P lim σ) {v w : Int} (hv : inR v) (hw : inR w) (h1 : (0 ≤ v ∧ v < 20) → (0 ≤ w ∧ w < 20) → ∀ σ', CI P lim σ' → fr clq σ σ' → Q (.inl (some (vI (b2i (dcl (ugE P (v, 0) (w, 0))))))) σ') (h0 : ¬ ((0 ≤ v ∧ v < 20) ∧ (0 ≤ w ∧ w < 20)) → Q (.inr 3) σ) : Call t 143 [vR 0, vI v, vI w] σ Q := by
  rw [x143_0]
  refine ⟨by omega, c165 (by omega) hv (fun a => ?_) (fun a => ?_)⟩
  · simp only [x143_5, aft_l, aft_r, optL_s, optL_n, xgo_n, xgo_s, List.cons_append, List.nil_append, List.append_nil, true_and, and_true, Nat.sub_zero, Nat.zero_le, true_implies, false_implies, implies_true, not_true_eq_false, not_false_eq_true, true_or, or_true]
    refine ⟨by omega, c165 (by omega) hw (fun b => ?_) (fun b => ?_)⟩
    · simp only [x143_10, aft_l, aft_r, optL_s, optL_n, xgo_n, xgo_s, List.cons_append, List.nil_append, List.append_nil, true_and, and_true, Nat.sub_zero, Nat.zero_le, true_implies, false_implies, implies_true, not_true_eq_false, not_false_eq_true, true_or, or_true]
      refine s41 hP h (fun σ1 g1 g2 g3 => ?_)
      simp only [x143_21, aft_l, aft_r, optL_s, optL_n, xgo_n, xgo_s, List.cons_append, List.nil_append, List.append_nil, true_and, and_true, Nat.sub_zero, Nat.zero_le, true_implies, false_implies, implies_true, not_true_eq_false, not_false_eq_true, true_or, or_true]
      refine c117 g1 a.1 (by omega) b.1 (by omega) ?_
      simp only [x143_30, aft_l, aft_r, optL_s, optL_n, xgo_n, xgo_s, List.cons_append, List.nil_append, List.append_nil, true_and, and_true, Nat.sub_zero, Nat.zero_le, true_implies, false_implies, implies_true, not_true_eq_false, not_false_eq_true, true_or, or_true]
      exact ⟨b2i_z _, h1 a b σ1 g2 (fr_mono g3 (fun c j k => by unfold clq; omega))⟩
    · simp only [xgo_n, aft_l, aft_r, optL_s, optL_n, xgo_n, xgo_s, List.cons_append, List.nil_append, List.append_nil, true_and, and_true, Nat.sub_zero, Nat.zero_le, true_implies, false_implies, implies_true, not_true_eq_false, not_false_eq_true, true_or, or_true]; exact h0 (fun z => b z.2)
  · simp only [xgo_n, aft_l, aft_r, optL_s, optL_n, xgo_n, xgo_s, List.cons_append, List.nil_append, List.append_nil, true_and, and_true, Nat.sub_zero, Nat.zero_le, true_implies, false_implies, implies_true, not_true_eq_false, not_false_eq_true, true_or, or_true]; exact h0 (fun z => a z.1)
theorem c144 (hP : okP P) (h : CI P lim σ) (hq : ∀ σ', CI P lim σ' → fr clq σ σ' → Q (.inl (some (vI (cn (fun t => dcl (ugF P t)) (20 + mny P 4 (-1)).toNat)))) σ') : Call t 144 [vR 0] σ Q := by
  have hm := m8_rng hP
  rw [x144_0]
  refine s41 hP h (fun σ1 g1 g2 g3 => ?_)
  simp only [x144_11, e87' g2 hP, x144_22, aft_l, aft_r, optL_s, optL_n, xgo_n, xgo_s, List.cons_append, List.nil_append, List.append_nil, true_and, and_true, Nat.sub_zero, Nat.zero_le, true_implies, false_implies, implies_true, not_true_eq_false, not_false_eq_true, true_or, or_true]
  refine c119 g1 (by omega) ?_
  simp only [x144_25, aft_l, aft_r, optL_s, optL_n, xgo_n, xgo_s, List.cons_append, List.nil_append, List.append_nil, true_and, and_true, Nat.sub_zero, Nat.zero_le, true_implies, false_implies, implies_true, not_true_eq_false, not_false_eq_true, true_or, or_true]
  exact hq σ1 g2 (fr_mono g3 (fun c j k => by unfold clq; omega))
theorem mdl (hP : okP P) (hI : INr 19 σ P lim xs) (h : CI P lim σ) {R : Int → Prop} {A : Int → Int → Prop} (hA : ∀ n x : Int, A n x ↔ ∃ m, 0 ≤ m ∧ (m < n ∧ (kd P m = 3 ∧ (R (own P m) ∧ im xs (Lf P xs lim) (vv P m) x)))) (hq : Q (.inl (some (vL (wS (A (tot P)))))) σ) :
    ∀ (d : Nat) (i : Int) (a1 a3 a5 : Option AV), 0 ≤ i → i + d = tot P → wp t 145 46 [some (vR 0), a1, some (vL (wS R)), a3, some (vL (wS (A i))), a5, some (vI i)] [] σ Q
  | 0, i, a1, a3, a5, i0, hd => by
    have ht := tot_rng hP.1
    have e : i = tot P := by omega
    simp only [x145_46, e86 h.1.2.1, x145_55, aft_l, aft_r, optL_s, optL_n, xgo_n, xgo_s, List.cons_append, List.nil_append, List.append_nil, true_and, and_true, Nat.sub_zero, Nat.zero_le, true_implies, false_implies, implies_true, not_true_eq_false, not_false_eq_true, true_or, or_true]
    refine ⟨⟨⟨by omega, by omega⟩, ⟨by omega, by omega⟩⟩, fun a => by omega, fun _ => ?_⟩
    rw [x145_114, e]; exact hq
  | d + 1, i, a1, a3, a5, i0, hd => by
    have ht := tot_rng hP.1
    have i1 : i < tot P := by omega
    have how := (own_spec hP.1 i0 i1).1
    obtain ⟨hk, ⟨hv, hw, hn⟩, h5⟩ := hP.2.1 _ i0 i1
    have hat := SW_at (SW_wS R) (z := own P i) how.1 (by omega)
    have keep : ∀ a3 a5, ¬ (kd P i = 3 ∧ R (own P i)) → wp t 145 108 [some (vR 0), a1, some (vL (wS R)), a3, some (vL (wS (A i))), a5, some (vI i)] [] σ Q := fun a3 a5 hno => by
      have e : wS (A i) = wS (A (i + 1)) := wS_congr (fun x hx => by
        rw [hA, hA]
        exact ⟨fun ⟨m, m0, m1, k⟩ => ⟨m, m0, by omega, k⟩, fun ⟨m, m0, m1, k⟩ => by
          by_cases z : m = i
          · rw [z] at k; exact absurd ⟨k.1, k.2.1⟩ hno
          · exact ⟨m, m0, by omega, k⟩⟩)
      rw [x145_108, e]
      exact mdl hP hI h hA hq d (i + 1) _ _ _ (by omega) (by omega)
    simp only [x145_46, e86 h.1.2.1, x145_55, aft_l, aft_r, optL_s, optL_n, xgo_n, xgo_s, List.cons_append, List.nil_append, List.append_nil, true_and, and_true, Nat.sub_zero, Nat.zero_le, true_implies, false_implies, implies_true, not_true_eq_false, not_false_eq_true, true_or, or_true]
    refine ⟨⟨⟨by omega, by omega⟩, ⟨by omega, by omega⟩⟩, fun _ => ?_, fun a => by omega⟩
    simp only [x145_58, e90 hP h.1.2.1 i0 i1, x145_67, aft_l, aft_r, optL_s, optL_n, xgo_n, xgo_s, List.cons_append, List.nil_append, List.append_nil, true_and, and_true, Nat.sub_zero, Nat.zero_le, true_implies, false_implies, implies_true, not_true_eq_false, not_false_eq_true, true_or, or_true]
    refine ⟨⟨by omega, by omega⟩, fun a => ?_, fun a => keep _ _ (fun z => a z.1)⟩
    simp only [x145_71, e94 hP.1 h.1.2.1 i0 i1, x145_81, k173, x145_84, eq_true (b2i_in _), b2i_0, aft_l, aft_r, optL_s, optL_n, xgo_n, xgo_s, List.cons_append, List.nil_append, List.append_nil, true_and, and_true, Nat.sub_zero, Nat.zero_le, true_implies, false_implies, implies_true, not_true_eq_false, not_false_eq_true, true_or, or_true]
    refine ⟨fun b => keep _ _ (fun z => by rw [hat.mpr z.2] at b; cases b), fun b => ?_⟩
    have b : R (own P i) := hat.mp (by
      cases z : (wS R).getLsbD (sh6 (own P i)) with
      | true => rfl
      | false => exact absurd z b)
    have e : wS (fun x => A i x ∨ im xs (Lf P xs lim) (vv P i) x) = wS (A (i + 1)) := wS_congr (fun x hx => by
      rw [hA, hA]
      constructor
      · rintro (⟨m, m0, m1, k⟩ | k)
        · exact ⟨m, m0, by omega, k⟩
        · exact ⟨i, i0, by omega, a, b, k⟩
      · rintro ⟨m, m0, m1, k⟩
        by_cases z : m = i
        · rw [z] at k; exact Or.inr k.2.2
        · exact Or.inl ⟨m, m0, by omega, k⟩)
    simp only [x145_87, e91 hP h.1.2.1 i0 i1, x145_102, e58_19 hv.1 (show vv P i < 44 by omega), x145_105, x145_108, wS_of (INr_SW_19 hI hv.1 (show vv P i < 44 by omega)), wS_or, aft_l, aft_r, optL_s, optL_n, xgo_n, xgo_s, List.cons_append, List.nil_append, List.append_nil, true_and, and_true, Nat.sub_zero, Nat.zero_le, true_implies, false_implies, implies_true, not_true_eq_false, not_false_eq_true, true_or, or_true]
    rw [e]
    exact mdl hP hI h hA hq d (i + 1) _ _ _ (by omega) (by omega)
theorem c145 (ht : 1 ≤ t) (hP : okP P) (hl : 0 ≤ lim ∧ lim ≤ 2) (hC : isC P lim xs) (h : CI P lim σ) {f : Int} (hf : inR f) (h1 : (0 ≤ f ∧ f < 4) → ∀ σ', CI P lim σ' → fr clq σ σ' → Q (.inl (some (vL (wS (modS P xs lim f))))) σ') (h0 : ¬ (0 ≤ f ∧ f < 4) → Q (.inr 3) σ) : Call t 145 [vR 0, vI f] σ Q := by
  have htr := tot_rng hP.1
  rw [x145_0]
  refine ⟨ht, c162 (by omega) hf (fun a => ?_) (fun a => ?_)⟩
  · simp only [x145_5, e79 h, x145_20, aft_l, aft_r, optL_s, optL_n, xgo_n, xgo_s, List.cons_append, List.nil_append, List.append_nil, true_and, and_true, Nat.sub_zero, Nat.zero_le, true_implies, false_implies, implies_true, not_true_eq_false, not_false_eq_true, true_or, or_true]
    refine s19 hP hl hC h (fun σ1 g1 g2 g3 => ?_)
    simp only [x145_23, aft_l, aft_r, optL_s, optL_n, xgo_n, xgo_s, List.cons_append, List.nil_append, List.append_nil, true_and, and_true, Nat.sub_zero, Nat.zero_le, true_implies, false_implies, implies_true, not_true_eq_false, not_false_eq_true, true_or, or_true]
    refine c160 hP g2.1.2.1 (fun σ2 k1 k2 => ?_)
    have g4 := CI_45 g2 k2
    have g5 : INr 19 σ2 P lim xs := INr_fr_19 g1 k2 (fun c j z => by omega)
    have fin := h1 a σ2 g4 (fr_trans (fr_mono g3 (fun c j k => by unfold clq; omega)) (fr_mono k2 (fun c j k => by unfold clq; omega)))
    have z0 : BitVec.ofNat 64 0 = wS (fun x => ∃ m, 0 ≤ m ∧ (m < 0 ∧ (kd P m = 3 ∧ ((TC (ECl P) f (own P m) ∨ own P m = f) ∧ im xs (Lf P xs lim) (vv P m) x)))) := ((wS_z _).mpr (fun t ht ⟨m, m0, m1, _⟩ => by omega)).symm
    rw [show wS (modS P xs lim f) = wS (fun x => ∃ m, 0 ≤ m ∧ (m < tot P ∧ (kd P m = 3 ∧ ((TC (ECl P) f (own P m) ∨ own P m = f) ∧ im xs (Lf P xs lim) (vv P m) x)))) from wS_congr (fun x hx => ⟨fun ⟨m, a0, a1, a2, a3, a4⟩ => ⟨m, a0, a1, a2, a3.symm, a4⟩, fun ⟨m, a0, a1, a2, a3, a4⟩ => ⟨m, a0, a1, a2, a3.symm, a4⟩⟩)] at fin
    simp only [x145_27, e40 a.1 (show f < 44 by omega), x145_35, GW_wS k1 a.1 (show f < 44 by omega), aft_l, aft_r, optL_s, optL_n, xgo_n, xgo_s, List.cons_append, List.nil_append, List.append_nil, true_and, and_true, Nat.sub_zero, Nat.zero_le, true_implies, false_implies, implies_true, not_true_eq_false, not_false_eq_true, true_or, or_true]
    rw [wS_of (SW_one a.1 (show f < 64 by omega)), wS_or, z0]
    exact mdl (R := fun g => TC (ECl P) f g ∨ g = f) (A := fun i x => ∃ m, 0 ≤ m ∧ (m < i ∧ (kd P m = 3 ∧ ((TC (ECl P) f (own P m) ∨ own P m = f) ∧ im xs (Lf P xs lim) (vv P m) x)))) hP g5 g4 (fun n x => Iff.rfl) fin (tot P).toNat 0 _ _ _ (by omega) (by omega)
  · simp only [xgo_n, aft_l, aft_r, optL_s, optL_n, xgo_n, xgo_s, List.cons_append, List.nil_append, List.append_nil, true_and, and_true, Nat.sub_zero, Nat.zero_le, true_implies, false_implies, implies_true, not_true_eq_false, not_false_eq_true, true_or, or_true]; exact h0 a
theorem c146 (ht : 1 ≤ t) (hP : okP P) (hl : 0 ≤ lim ∧ lim ≤ 2) (hC : isC P lim xs) (h : CI P lim σ) {f : Int} (hf : inR f) (h1 : (0 ≤ f ∧ f < 4) → ∀ σ', CI P lim σ' → fr clq σ σ' → Q (.inl (some (vI (b2i (dcl (0 < nc xs f)))))) σ') (h0 : ¬ (0 ≤ f ∧ f < 4) → Q (.inr 3) σ) : Call t 146 [vR 0, vI f] σ Q := by
  have hn := nc_rng xs f
  have hc0 := cbl_rng xs (f * 2353)
  have hL := isC_len hP hC
  rw [x146_0]
  refine ⟨ht, c162 (by omega) hf (fun a => ?_) (fun a => ?_)⟩
  · simp only [x146_5, e79 h, x146_20, aft_l, aft_r, optL_s, optL_n, xgo_n, xgo_s, List.cons_append, List.nil_append, List.append_nil, true_and, and_true, Nat.sub_zero, Nat.zero_le, true_implies, false_implies, implies_true, not_true_eq_false, not_false_eq_true, true_or, or_true]
    refine s19 hP hl hC h (fun σ1 g1 g2 g3 => ?_)
    have fin := h1 a σ1 g2 (fr_mono g3 (fun c j k => by unfold clq; omega))
    simp only [x146_23, x55_0_19, x146_30, e23_20 g1.1 a.1 (show f ≤ 3 by omega), x146_34, aft_l, aft_r, optL_s, optL_n, xgo_n, xgo_s, List.cons_append, List.nil_append, List.append_nil, true_and, and_true, Nat.sub_zero, Nat.zero_le, true_implies, false_implies, implies_true, not_true_eq_false, not_false_eq_true, true_or, or_true]
    refine ⟨⟨by omega, by omega⟩, fun b => ?_, fun b => ?_⟩
    · rw [dcl_t b, b2i_t] at fin
      rw [x146_37, x146_42]; exact ⟨Or.inr rfl, fin⟩
    · rw [dcl_f b, b2i_f] at fin
      rw [x146_41, x146_42]; exact ⟨Or.inl rfl, fin⟩
  · simp only [xgo_n, aft_l, aft_r, optL_s, optL_n, xgo_n, xgo_s, List.cons_append, List.nil_append, List.append_nil, true_and, and_true, Nat.sub_zero, Nat.zero_le, true_implies, false_implies, implies_true, not_true_eq_false, not_false_eq_true, true_or, or_true]; exact h0 a
theorem bdc {l : BitVec 64} {S : Int → Prop} (h : SW l S) {z : Int} (z0 : 0 ≤ z) (z1 : z < 64) : l.getLsbD (sh6 z) = dcl (S z) := by
  have := SW_at h z0 z1
  by_cases q : S z
  · rw [dcl_t q]; exact this.mpr q
  · rw [dcl_f q]
    cases k : l.getLsbD (sh6 z) with
    | false => rfl
    | true => exact absurd (this.mp k) q
theorem cyl {E : Int → Int → Prop} (h : ∀ a b, GW σ a b ↔ E a b) {v : Int} (hv : 0 ≤ v ∧ v < 20) {A : Int → Int → Prop} (hA : ∀ n x : Int, A n x ↔ (x = v ∨ (x < n ∧ (0 ≤ x ∧ (E v x ∧ E x v))))) (hq : Q (.inl (some (vI (iW (A 20))))) σ) :
    ∀ (d : Nat) (i : Int) (a3 : Option AV), 0 ≤ i → i + d = 20 → wp t 148 26 [some (vR 0), some (vI v), some (vL (wS (E v))), a3, some (vI (iW (A i))), some (vI i)] [] σ Q
  | 0, i, a3, i0, hd => by
    have e : i = 20 := by omega
    subst e
    rw [x148_26]
    refine ⟨⟨by omega, by omega⟩, fun a => by omega, fun _ => ?_⟩
    rw [x148_73]; exact hq
  | d + 1, i, a3, i0, hd => by
    have keep : ∀ a3, ¬ (E v i ∧ E i v) → wp t 148 67 [some (vR 0), some (vI v), some (vL (wS (E v))), a3, some (vI (iW (A i))), some (vI i)] [] σ Q := fun a3 hno => by
      rw [x148_67, show iW (A i) = iW (A (i + 1)) from iW_congr (fun x hx => by
        rw [hA, hA]
        constructor
        · rintro (k | ⟨k1, k2⟩)
          · exact Or.inl k
          · exact Or.inr ⟨by omega, k2⟩
        · rintro (k | ⟨k1, k2, k3⟩)
          · exact Or.inl k
          · by_cases z : (x : Int) = i
            · rw [z] at k3; exact absurd k3 hno
            · exact Or.inr ⟨by omega, k2, k3⟩)]
      exact cyl h hv hA hq d (i + 1) _ (by omega) (by omega)
    rw [x148_26]
    refine ⟨⟨by omega, by omega⟩, fun _ => ?_, fun a => by omega⟩
    simp only [x148_33, k173, x148_39, eq_true (b2i_in _), b2i_0, bdc (SW_wS (E v)) i0 (show i < 64 by omega), aft_l, aft_r, optL_s, optL_n, xgo_n, xgo_s, List.cons_append, List.nil_append, List.append_nil, true_and, and_true, Nat.sub_zero, Nat.zero_le, true_implies, false_implies, implies_true, not_true_eq_false, not_false_eq_true, true_or, or_true]
    refine ⟨fun a => keep _ (fun z => by rw [dcl_t z.1] at a; cases a), fun a => ?_⟩
    have a : E v i := dcl_iff.mp (by
      cases z : dcl (E v i) with
      | true => rfl
      | false => exact absurd z a)
    simp only [x148_42, e40 i0 (show i < 44 by omega), x148_51, k173, x148_55, eq_true (b2i_in _), b2i_0, GW_wS h i0 (show i < 44 by omega), bdc (SW_wS (E i)) hv.1 (show v < 64 by omega), aft_l, aft_r, optL_s, optL_n, xgo_n, xgo_s, List.cons_append, List.nil_append, List.append_nil, true_and, and_true, Nat.sub_zero, Nat.zero_le, true_implies, false_implies, implies_true, not_true_eq_false, not_false_eq_true, true_or, or_true]
    refine ⟨fun b => keep _ (fun z => by rw [dcl_t z.2] at b; cases b), fun b => ?_⟩
    have b : E i v := dcl_iff.mp (by
      cases z : dcl (E i v) with
      | true => rfl
      | false => exact absurd z b)
    rw [x148_58, x148_67, iW_one i0 (by omega), iW_or, show iW (fun t => A i t ∨ t = i) = iW (A (i + 1)) from iW_congr (fun x hx => by
        rw [hA, hA]
        constructor
        · rintro ((k | ⟨k1, k2⟩) | k)
          · exact Or.inl k
          · exact Or.inr ⟨by omega, k2⟩
          · rw [k]; exact Or.inr ⟨by omega, i0, a, b⟩
        · rintro (k | ⟨k1, k2, k3⟩)
          · exact Or.inl (Or.inl k)
          · by_cases z : (x : Int) = i
            · exact Or.inr z
            · exact Or.inl (Or.inr ⟨by omega, k2, k3⟩))]
    exact ⟨⟨by omega, by omega⟩, cyl h hv hA hq d (i + 1) _ (by omega) (by omega)⟩
theorem TCf_rng (hP : okP P) {a b : Int} (h : TC (EFl P) a b) : 0 ≤ b ∧ b < 20 := TC_sub (S := fun x => 0 ≤ x ∧ x < 20) h (fun t ⟨n, n0, n1, k⟩ => (EFn_rng hP n0 n1 k).2) (fun x y _ ⟨n, n0, n1, k⟩ => (EFn_rng hP n0 n1 k).2)
theorem c148 (ht : 1 ≤ t) (hP : okP P) (h : CI P lim σ) {v : Int} (hv : inR v) (h1 : (0 ≤ v ∧ v < 20) → ∀ σ', CI P lim σ' → fr clq σ σ' → Q (.inl (some (vI (iW (cyS P v))))) σ') (h0 : ¬ (0 ≤ v ∧ v < 20) → Q (.inr 3) σ) : Call t 148 [vR 0, vI v] σ Q := by
  rw [x148_0]
  refine ⟨ht, c165 (by omega) hv (fun a => ?_) (fun a => ?_)⟩
  · simp only [x148_5, aft_l, aft_r, optL_s, optL_n, xgo_n, xgo_s, List.cons_append, List.nil_append, List.append_nil, true_and, and_true, Nat.sub_zero, Nat.zero_le, true_implies, false_implies, implies_true, not_true_eq_false, not_false_eq_true, true_or, or_true]
    refine c161 hP h.1.2.1 (fun σ2 k1 k2 => ?_)
    have fin := h1 a σ2 (CI_45 h k2) (fr_mono k2 (fun c j k => by unfold clq; omega))
    simp only [x148_9, e40 a.1 (show v < 44 by omega), x148_17, GW_wS k1 a.1 (show v < 44 by omega), aft_l, aft_r, optL_s, optL_n, xgo_n, xgo_s, List.cons_append, List.nil_append, List.append_nil, true_and, and_true, Nat.sub_zero, Nat.zero_le, true_implies, false_implies, implies_true, not_true_eq_false, not_false_eq_true, true_or, or_true]
    have := cyl (t := t - 1) (Q := Q) (A := fun n x => x = v ∨ (x < n ∧ (0 ≤ x ∧ (TC (EFl P) v x ∧ TC (EFl P) x v)))) k1 a (fun n x => Iff.rfl) (by
      rw [show iW (fun x => x = v ∨ (x < 20 ∧ (0 ≤ x ∧ (TC (EFl P) v x ∧ TC (EFl P) x v)))) = iW (cyS P v) from iW_congr (fun x hx => by
        unfold cyS
        constructor
        · rintro (k | ⟨_, _, k⟩)
          · exact Or.inl k
          · exact Or.inr k
        · rintro (k | k)
          · exact Or.inl k
          · have := TCf_rng hP k.1; exact Or.inr ⟨by omega, by omega, k⟩)]
      exact fin) 20 0 none (by omega) (by omega)
    rw [show iW (fun x => x = v ∨ (x < 0 ∧ (0 ≤ x ∧ (TC (EFl P) v x ∧ TC (EFl P) x v)))) = iW (fun x => x = v) from iW_congr (fun x hx => ⟨fun k => k.resolve_right (fun z => by omega), Or.inl⟩)] at this
    rw [iW_one a.1 (by omega)]
    exact ⟨by omega, this⟩
  · simp only [xgo_n, aft_l, aft_r, optL_s, optL_n, xgo_n, xgo_s, List.cons_append, List.nil_append, List.append_nil, true_and, and_true, Nat.sub_zero, Nat.zero_le, true_implies, false_implies, implies_true, not_true_eq_false, not_false_eq_true, true_or, or_true]; exact h0 a
end CQ2

