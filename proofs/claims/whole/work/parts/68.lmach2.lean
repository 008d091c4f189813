/-! the law's machine: statements, the run -/
section LM2
variable {t : Nat} {σ s : St} {Q : Res → St → Prop} {P : Pg} {φ : Int → Int}
/-- some way of standing as the pure machine -/
def LE (P : Pg) (s σ : St) : Prop := (∃ φ, LR P φ s σ) ∧ LBd σ
theorem lm70 {σ σ' : St} (g : fr (fun c _ => c = 70 ∨ c = 75) σ σ') : fr lmM σ σ' := fr_mono g (fun c j k => by unfold lmM; omega)
theorem lm_37 {σ σ' : St} (g : fr (fun c _ => c = 70 ∨ c = 75) σ σ') (j : Int) : gI σ' 53 j = gI σ 53 j := fr_I g _ _ (by omega)
theorem LR_pv (h : LR P φ s σ) {a : Int} (ha : dmL σ a) : pvL φ σ (gI σ 70 a) (gI s 47 (φ a)) := (h.2.1 a ha).2.2
theorem LR_fl (h : LR P φ s σ) (hD : 0 ≤ gI s 46 6) : LR P φ (mfl s) (sI σ 53 39 (gI σ 53 39 + 1)) := by
  have h1 := h.1
  refine LR_cnt h ?_ ?_ ?_ ?_ ?_ (fun c hc => gI_rne hc) rfl (fun c hc => gI_rne hc) rfl
  · unfold mfl
    simp only [gI_sI, gI_sI, gL_sI, gD_sI, gI_sL, gL_sL, gD_sL, gI_sD, gL_sD, gD_sD, Nat.reduceEqDiff, Int.reduceEq, reduceCtorEq, false_and, and_false, and_self, if_true, if_false, not_false_eq_true, not_true_eq_false]
    exact ⟨h1.1, by rw [h1.2.1], h1.2.2⟩
  · unfold mfl; simp only [gI_sI, gI_sI, gL_sI, gD_sI, gI_sL, gL_sL, gD_sL, gI_sD, gL_sD, gD_sD, Nat.reduceEqDiff, Int.reduceEq, reduceCtorEq, false_and, and_false, and_self, if_true, if_false, not_false_eq_true, not_true_eq_false]; omega
  · unfold mfl; simp only [gI_sI, gI_sI, gL_sI, gD_sI, gI_sL, gL_sL, gD_sL, gI_sD, gL_sD, gD_sD, Nat.reduceEqDiff, Int.reduceEq, reduceCtorEq, false_and, and_false, and_self, if_true, if_false, not_false_eq_true, not_true_eq_false]
  · simp only [gI_sI, gI_sI, gL_sI, gD_sI, gI_sL, gL_sL, gD_sL, gI_sD, gL_sD, gD_sD, Nat.reduceEqDiff, Int.reduceEq, reduceCtorEq, false_and, and_false, and_self, if_true, if_false, not_false_eq_true, not_true_eq_false]
  · simp only [gI_sI, gI_sI, gL_sI, gD_sI, gI_sL, gL_sL, gD_sL, gI_sD, gL_sD, gD_sD, Nat.reduceEqDiff, Int.reduceEq, reduceCtorEq, false_and, and_false, and_self, if_true, if_false, not_false_eq_true, not_true_eq_false]
theorem LE_of (h : LR P φ s σ) (hB : LBd σ) : LE P s σ := ⟨⟨φ, h⟩, hB⟩
theorem LB_fr {σ σ' : St} (h : LBd σ) (h1 : gI σ' 53 37 = gI σ 53 37) (h2 : gI σ' 53 38 = gI σ 53 38) : LBd σ' := by unfold LBd; rw [h1, h2]; exact h
theorem LR_as (h : LR P φ s σ) (hB : LBd σ) {a v p l : Int} (ha : dmL σ a) (hl : φ a = l) (hv : pvL φ σ v p) (hq : ∀ σ', LE P (mwr l p s) σ' → gI σ' 53 37 = gI σ 53 37 → fr lmM σ σ' → Q (.inl none) σ') : Call t 260 [vR 53, vI a, vI v] σ Q :=
  LR_wr h hB ha hv (fun σ' g1 g2 => hq σ' (LE_of (by rw [← hl]; exact g1) (LB_fr hB (lm_37 g2 37) (lm_37 g2 38))) (lm_37 g2 37) (lm70 g2))
/-- executes -/
theorem LR_ex (hP : okP P) (hLP : LPr σ P) (h : LR P φ s σ) (hB : LBd σ) {n : Int} (n0 : 0 ≤ n) (n1 : n < tot P) (hD : 0 < gI s 46 6 ∧ gI s 46 6 ≤ 6) (hX : 0 ≤ gI s 46 8 ∧ gI s 46 8 ≤ 200) (hU : 1 ≤ gI s 46 7) (hF : gI σ 53 37 ≤ 200) (hO : gI σ 53 38 ≤ 199)
    (hq : ∀ σ', LE P (mex1 P n (madr (vv P n) s) (madr (ww P n) s) s) σ' → gI σ' 53 37 ≤ gI σ 53 37 + 1 → fr lmM σ σ' → Q (.inl none) σ') : Call t 265 [vR 53, vI (plc P n)] σ Q := by
  have hpr := plc_rng hP.1 n0 n1
  obtain ⟨hk, ⟨hv, hw, hn⟩, h5⟩ := hP.2.1 n n0 n1
  have h1 := h.1
  rw [x265_0, LP_vv hLP hP.1 n0 n1]
  refine ⟨by omega, LR_at h hv.1 hv.2 hD (fun l dl el => ?_)⟩
  simp only [x265_10, LP_ww hLP hP.1 n0 n1, aft_l, aft_r, optL_s, optL_n, xgo_n, xgo_s, List.cons_append, List.nil_append, List.append_nil, true_and, and_true, Nat.sub_zero, Nat.zero_le, true_implies, false_implies, implies_true, not_true_eq_false, not_false_eq_true, true_or, or_true]
  refine ⟨by omega, LR_at h hw.1 hw.2 hD (fun r dr er => ?_)⟩
  simp only [x265_21, LP_kd hLP hP.1 n0 n1, aft_l, aft_r, optL_s, optL_n, xgo_n, xgo_s, List.cons_append, List.nil_append, List.append_nil, true_and, and_true, Nat.sub_zero, Nat.zero_le, true_implies, false_implies, implies_true, not_true_eq_false, not_false_eq_true, true_or, or_true]
  rw [← el, ← er] at hq
  have lr := dm_rng hB dl
  have rr := dm_rng hB dr
  have pr := LR_pv h dr
  have pl := LR_pv h dl
  have r70 : ∀ a, dmL σ a → 0 ≤ gI σ 70 a ∧ gI σ 70 a ≤ 1412 := fun a ha => by
    rcases LR_pv h ha with k | ⟨b, e, hb, _⟩
    · omega
    · have := dm_rng hB hb; omega
  have rin : inR (gI σ 70 r) := by have := r70 r dr; exact ⟨by omega, by omega⟩
  have lin : inR (gI σ 70 l) := by have := r70 l dl; exact ⟨by omega, by omega⟩
  have flt : LE P (mfl s) (sI σ 53 39 (gI σ 53 39 + 1)) := LE_of (LR_fl h (by omega)) (LB_fr hB (by simp only [gI_sI, gI_sI, gL_sI, gD_sI, gI_sL, gL_sL, gD_sL, gI_sD, gL_sD, gD_sD, Nat.reduceEqDiff, Int.reduceEq, reduceCtorEq, false_and, and_false, and_self, if_true, if_false, not_false_eq_true, not_true_eq_false]) (by simp only [gI_sI, gI_sI, gL_sI, gD_sI, gI_sL, gL_sL, gD_sL, gI_sD, gL_sD, gD_sD, Nat.reduceEqDiff, Int.reduceEq, reduceCtorEq, false_and, and_false, and_self, if_true, if_false, not_false_eq_true, not_true_eq_false]))
  have flf : fr lmM σ (sI σ 53 39 (gI σ 53 39 + 1)) := fr_sI fr_refl (by unfold lmM; omega)
  have fl37 : gI (sI σ 53 39 (gI σ 53 39 + 1)) 53 37 ≤ gI σ 53 37 + 1 := by rw [gI_sI, if_neg (by omega)]; omega
  refine ⟨by omega, ⟨by omega, by omega⟩, fun k => ?_, fun k => ?_⟩
  · have hc : kd P n = 0 ∨ kd P n = 1 ∨ kd P n = 2 ∨ kd P n = 3 ∨ kd P n = 4 ∨ kd P n = 5 := by omega
    unfold mex1 at hq
    rcases hc with e | e | e | e | e | e
    · rw [e] at hq ⊢
      simp only [if_true] at hq
      show wp t 265 68 _ [] σ Q
      rw [x265_68]
      refine LR_as h hB (p := φ r) dl rfl (Or.inr ⟨r, rfl, dr, rfl, (h.2.1 r dr).1.1⟩) (fun σ' g1 g2 g3 => ?_)
      simp only [x265_76, x265_269, aft_l, aft_r, optL_s, optL_n, xgo_n, xgo_s, List.cons_append, List.nil_append, List.append_nil, true_and, and_true, Nat.sub_zero, Nat.zero_le, true_implies, false_implies, implies_true, not_true_eq_false, not_false_eq_true, true_or, or_true]
      exact hq σ' g1 (by omega) g3
    · rw [e] at hq ⊢
      simp only [Int.reduceEq, if_true, if_false] at hq
      show wp t 265 79 _ [] σ Q
      rw [x265_79]
      refine ⟨rr, LR_as h hB dl rfl pr (fun σ' g1 g2 g3 => ?_)⟩
      simp only [x265_90, x265_269, aft_l, aft_r, optL_s, optL_n, xgo_n, xgo_s, List.cons_append, List.nil_append, List.append_nil, true_and, and_true, Nat.sub_zero, Nat.zero_le, true_implies, false_implies, implies_true, not_true_eq_false, not_false_eq_true, true_or, or_true]
      exact hq σ' g1 (by omega) g3
    · rw [e] at hq ⊢
      simp only [Int.reduceEq, if_true, if_false] at hq
      show wp t 265 93 _ [] σ Q
      rw [x265_93]
      refine ⟨rr, rin, fun z => ?_, fun z => ?_⟩
      · have pz : gI s 47 (φ r) = 0 := by
          rcases pr with k | ⟨b, e, hb, _⟩
          · exact k.2
          · have := dm_rng hB hb; omega
        rw [if_pos pz] at hq
        rw [x265_102, x265_269]; exact hq _ flt fl37 flf
      · obtain ⟨b, e, hb, eb, pb⟩ := pr.resolve_left (fun k => z k.1)
        rw [if_neg (by omega), ← eb] at hq
        have e1 : gI σ 70 r - 1 = b := by omega
        have br := dm_rng hB hb
        rw [x265_115, e1]
        refine ⟨rr, br, LR_as h hB dl rfl (LR_pv h hb) (fun σ' g1 g2 g3 => ?_)⟩
        simp only [x265_133, x265_269, aft_l, aft_r, optL_s, optL_n, xgo_n, xgo_s, List.cons_append, List.nil_append, List.append_nil, true_and, and_true, Nat.sub_zero, Nat.zero_le, true_implies, false_implies, implies_true, not_true_eq_false, not_false_eq_true, true_or, or_true]
        exact hq σ' g1 (by omega) g3
    · rw [e] at hq ⊢
      simp only [Int.reduceEq, if_true, if_false] at hq
      show wp t 265 136 _ [] σ Q
      rw [x265_136]
      refine ⟨lr, lin, fun z => ?_, fun z => ?_⟩
      · have pz : gI s 47 (φ l) = 0 := by
          rcases pl with k | ⟨b, e, hb, _⟩
          · exact k.2
          · have := dm_rng hB hb; omega
        rw [if_pos pz] at hq
        rw [x265_145, x265_269]; exact hq _ flt fl37 flf
      · obtain ⟨b, e, hb, eb, pb⟩ := pl.resolve_left (fun k => z k.1)
        rw [if_neg (by omega), ← eb] at hq
        have e1 : gI σ 70 l - 1 = b := by omega
        rw [x265_158, e1]
        refine ⟨lr, rr, LR_as h hB hb rfl pr (fun σ' g1 g2 g3 => ?_)⟩
        simp only [x265_176, x265_269, aft_l, aft_r, optL_s, optL_n, xgo_n, xgo_s, List.cons_append, List.nil_append, List.append_nil, true_and, and_true, Nat.sub_zero, Nat.zero_le, true_implies, false_implies, implies_true, not_true_eq_false, not_false_eq_true, true_or, or_true]
        exact hq σ' g1 (by omega) g3
    · rw [e] at hq ⊢
      simp only [Int.reduceEq, if_true, if_false] at hq
      show wp t 265 179 _ [] σ Q
      have hs0 : 0 ≤ sn P n ∧ sn P n ≤ 7 := by have := sn_lt hP n0 n1 e; omega
      simp only [x265_179, e185 hLP hP n0 n1, x265_187, aft_l, aft_r, optL_s, optL_n, xgo_n, xgo_s, List.cons_append, List.nil_append, List.append_nil, true_and, and_true, Nat.sub_zero, Nat.zero_le, true_implies, false_implies, implies_true, not_true_eq_false, not_false_eq_true, true_or, or_true]
      refine LR_ob h hB hO hU hs0 (fun σ1 g1 g2 g3 g4 => ?_)
      simp only [x265_190, aft_l, aft_r, optL_s, optL_n, xgo_n, xgo_s, List.cons_append, List.nil_append, List.append_nil, true_and, and_true, Nat.sub_zero, Nat.zero_le, true_implies, false_implies, implies_true, not_true_eq_false, not_false_eq_true, true_or, or_true]
      have dold : ∀ a, dmL σ a → dmL σ1 a := fun a ha => by unfold dmL at *; rw [g2, g3]; omega
      have nb : ¬ (808 + 3 * gI σ 53 38 ≤ l ∧ l < 808 + 3 * gI σ 53 38 + 3) := fun k => by
        have := hB.1
        have := hB.2
        unfold dmL at dl; omega
      have dn : dmL σ1 (808 + 3 * gI σ 53 38) := by
        have := hB.2
        unfold dmL; rw [g2, g3]; omega
      have hB1 : LBd σ1 := by unfold LBd at *; rw [g2, g3]; omega
      refine LR_as g1 hB1 (p := gI s 46 7) (dold l dl) (if_neg nb) (Or.inr ⟨_, rfl, dn, ?_, hU⟩) (fun σ' k1 k2 k3 => ?_)
      · show (if 808 + 3 * gI σ 53 38 ≤ 808 + 3 * gI σ 53 38 ∧ 808 + 3 * gI σ 53 38 < 808 + 3 * gI σ 53 38 + 3 then gI s 46 7 + (808 + 3 * gI σ 53 38 - (808 + 3 * gI σ 53 38)) else φ (808 + 3 * gI σ 53 38)) = gI s 46 7
        rw [if_pos ⟨by omega, by omega⟩]; omega
      · simp only [x265_193, x265_269, aft_l, aft_r, optL_s, optL_n, xgo_n, xgo_s, List.cons_append, List.nil_append, List.append_nil, true_and, and_true, Nat.sub_zero, Nat.zero_le, true_implies, false_implies, implies_true, not_true_eq_false, not_false_eq_true, true_or, or_true]
        exact hq σ' k1 (by omega) (fr_trans g4 k3)
    · rw [e] at hq ⊢
      simp only [Int.reduceEq, if_true, if_false] at hq
      show wp t 265 196 _ [] σ Q
      rw [x265_196, LP_nn hLP hP.1 n0 n1]
      refine ⟨rr, by omega, ?_⟩
      have hn2 := h5 e
      have done : ∀ σ', wp t 265 213 [some (vR 53), some (vI (plc P n)), some (vI l), some (vI r)] [] σ' Q ↔ Q (.inl none) σ' := fun σ' => by simp only [x265_213, x265_269, aft_l, aft_r, optL_s, optL_n, xgo_n, xgo_s, List.cons_append, List.nil_append, List.append_nil, true_and, and_true, Nat.sub_zero, Nat.zero_le, true_implies, false_implies, implies_true, not_true_eq_false, not_false_eq_true, true_or, or_true]
      have asg : ∀ v p, pvL φ σ v p → (∀ σ', LE P (mwr (φ l) p s) σ' → gI σ' 53 37 ≤ gI σ 53 37 + 1 → fr lmM σ σ' → Q (.inl none) σ') → Call 0 260 [vR 53, vI l, vI v] σ (fun r' σ' => r' = .inl none ∧ Q (.inl none) σ') := fun v p hp hk => LR_as h hB dl rfl hp (fun σ' g1 g2 g3 => ⟨rfl, hk σ' g1 (by omega) g3⟩)
      rw [x264_0]
      refine ⟨rin, fun z => ?_, fun z => ?_⟩
      · have pz : gI s 47 (φ r) = 0 := by
          rcases pr with k | ⟨b, e, hb, _⟩
          · exact k.2
          · have := dm_rng hB hb; omega
        rw [if_pos (Or.inl pz)] at hq
        rw [x264_8]
        refine LR_as h hB dl rfl pr (fun σ' g1 g2 g3 => ?_)
        simp only [x264_14, done, aft_l, aft_r, optL_s, optL_n, xgo_n, xgo_s, List.cons_append, List.nil_append, List.append_nil, true_and, and_true, Nat.sub_zero, Nat.zero_le, true_implies, false_implies, implies_true, not_true_eq_false, not_false_eq_true, true_or, or_true]
        exact hq σ' g1 (by omega) g3
      · obtain ⟨b, e, hb, eb, pb⟩ := pr.resolve_left (fun k => z k.1)
        have e1 : gI σ 70 r - 1 = b := by omega
        have br := dm_rng hB hb
        have cb := (h.2.1 b hb).2.1
        rw [x264_4]
        refine ⟨⟨by omega, by omega⟩, fun y => ?_, fun y => ?_⟩
        · rw [if_pos (Or.inr y)] at hq
          rw [x264_8]
          refine LR_as h hB dl rfl pr (fun σ' g1 g2 g3 => ?_)
          simp only [x264_14, done, aft_l, aft_r, optL_s, optL_n, xgo_n, xgo_s, List.cons_append, List.nil_append, List.append_nil, true_and, and_true, Nat.sub_zero, Nat.zero_le, true_implies, false_implies, implies_true, not_true_eq_false, not_false_eq_true, true_or, or_true]
          exact hq σ' g1 (by omega) g3
        · rw [if_neg (by omega), ← eb, ← cb.1] at hq
          rw [x264_15, e1]
          refine ⟨br, ⟨by omega, by omega⟩, fun w => ?_, fun w => ?_⟩
          · rw [if_pos (Or.inl (by omega))] at hq
            simp only [x264_56, x264_66, done, aft_l, aft_r, optL_s, optL_n, xgo_n, xgo_s, List.cons_append, List.nil_append, List.append_nil, true_and, and_true, Nat.sub_zero, Nat.zero_le, true_implies, false_implies, implies_true, not_true_eq_false, not_false_eq_true, true_or, or_true]
            exact hq _ flt fl37 flf
          · rw [x264_32]
            refine ⟨⟨by omega, by omega⟩, ⟨by omega, by omega⟩, fun u => ?_, fun u => ?_⟩
            · rw [if_pos (Or.inr (by omega))] at hq
              simp only [x264_56, x264_66, done, aft_l, aft_r, optL_s, optL_n, xgo_n, xgo_s, List.cons_append, List.nil_append, List.append_nil, true_and, and_true, Nat.sub_zero, Nat.zero_le, true_implies, false_implies, implies_true, not_true_eq_false, not_false_eq_true, true_or, or_true]
              exact hq _ flt fl37 flf
            · rw [if_neg (by omega)] at hq
              obtain ⟨d1, d2⟩ := h.2.2.2.1 b (nn P n) hb (by omega) (by omega) (by omega)
              rw [x264_45]
              refine LR_as h hB (p := φ b + nn P n) dl rfl (Or.inr ⟨b + nn P n, by omega, d1, d2, by omega⟩) (fun σ' g1 g2 g3 => ?_)
              simp only [x264_53, x264_66, done, aft_l, aft_r, optL_s, optL_n, xgo_n, xgo_s, List.cons_append, List.nil_append, List.append_nil, true_and, and_true, Nat.sub_zero, Nat.zero_le, true_implies, false_implies, implies_true, not_true_eq_false, not_false_eq_true, true_or, or_true]
              exact hq σ' g1 (by omega) g3
  · have e6 : kd P n = 6 := by omega
    unfold mex1 at hq
    rw [e6] at hq
    simp only [Int.reduceEq, if_true, if_false] at hq
    have hB38 : LE P s σ := LE_of h hB
    rw [x265_216, h1.1.1]
    refine ⟨⟨by omega, by omega⟩, fun z => ?_, fun z => ?_⟩
    · rw [if_neg (by omega)] at hq
      rw [x265_269]; exact hq σ hB38 (by omega) fr_refl
    · rw [x265_225, h1.1.2]
      refine ⟨⟨by omega, by omega⟩, fun y => ?_, fun y => ?_⟩
      · rw [if_neg (by omega)] at hq
        rw [x265_235, x265_269]; exact hq σ hB38 (by omega) fr_refl
      · rw [if_pos (by omega)] at hq
        rw [x265_238, LP_nn hLP hP.1 n0 n1]
        refine ⟨by omega, LR_op hP h hB hF hU hn (by omega) (fun σ1 g1 g2 g3 g4 g5 => ?_)⟩
        have dold : ∀ a, dmL σ a → dmL σ1 a := fun a ha => by unfold dmL at *; rw [g2, g3]; omega
        have hB1 : LBd σ1 := by unfold LBd at *; rw [g2, g3]; omega
        have m6 : gI (mop P (nn P n) s) 46 6 = gI s 46 6 + 1 := by rw [mop_46, if_pos rfl]
        have e36 : gI σ1 53 36 = gI s 46 6 + 1 := g1.1.1.1.trans m6
        have top := g1.2.2.2.2.2.1 (gI s 46 6) (by omega) (by rw [m6]; omega)
        have nbr : ¬ (4 + 4 * gI σ 53 37 ≤ r ∧ r < 4 + 4 * gI σ 53 37 + 4) := fun k => by
          have := hB.1
          unfold dmL at dr; omega
        have pr1 := LR_pv g1 (dold r dr)
        simp only [if_neg nbr] at pr1
        rw [mop_47] at pr1
        have hru := (h.2.1 r dr).1.2
        simp only [show (gI s 46 7 ≤ φ r ∧ φ r < gI s 46 7 + 4) = False from eq_false (by omega), if_false] at pr1
        rw [g4 r dr] at pr1
        simp only [x265_248, e36, show gI s 46 6 + 1 - 1 = gI s 46 6 by omega, g4 r dr, aft_l, aft_r, optL_s, optL_n, xgo_n, xgo_s, List.cons_append, List.nil_append, List.append_nil, true_and, and_true, Nat.sub_zero, Nat.zero_le, true_implies, false_implies, implies_true, not_true_eq_false, not_false_eq_true, true_or, or_true]
        refine ⟨by omega, rr, LR_as g1 hB1 (l := madr (4 + 4 * nn P n) (mop P (nn P n) s)) (Or.inr (Or.inl ⟨top.2.1.1, by omega⟩)) ?_ pr1 (fun σ' k1 k2 k3 => ?_)⟩
        · have := top.2.2 0 (by omega) (by omega)
          rw [Int.add_zero] at this
          refine Eq.trans this ?_
          unfold madr
          rw [if_neg (by omega), m6, show gI s 46 6 + 1 - 1 = gI s 46 6 by omega]; omega
        · simp only [x265_269, aft_l, aft_r, optL_s, optL_n, xgo_n, xgo_s, List.cons_append, List.nil_append, List.append_nil, true_and, and_true, Nat.sub_zero, Nat.zero_le, true_implies, false_implies, implies_true, not_true_eq_false, not_false_eq_true, true_or, or_true]
          exact hq σ' k1 (by omega) (fr_trans g5 k3)
end LM2
