/-! the law's loop: cases 1 -/
def wM : Nat → Int → Prop := fun c j => clq c j ∨ c = 77 ∨ c = 78
section LO2
variable {t : Nat} {σ : St} {Q : Res → St → Prop} {P PS : Pg} {lim lS : Int} {xs ys : List Int}
theorem fin_q (h : JV P lim PS lS σ) {σ1 σ2 : St} (hC1 : CI P lim σ1) (f1 : fr wM σ σ1) (hL : LJ P lim σ2) (f2 : fr qM σ1 σ2) : JV P lim PS lS σ2 ∧ (gI σ2 79 = gI σ 79 ∧ (gL σ2 77 0 = gL σ1 77 0 ∧ gD σ2 78 0 = gD σ1 78 0)) := by
  refine ⟨JV_q h (CI_fr hC1 f2 (fun c j k => by unfold qM vM at k; omega)) hL (fr_trans (fr_mono f1 (fun c j k => by unfold wM clq at k; unfold jM clq; omega)) (fr_mono f2 (fun c j k => Or.inr (Or.inl k)))), ?_, fr_L f2 77 0 (by unfold qM vM; omega), fr_D f2 78 0 (by unfold qM vM; omega)⟩
  funext j
  rw [fr_I f2 79 j (by unfold qM vM; omega), fr_I f1 79 j (by unfold wM clq; omega)]
theorem wM_w {σ1 : St} {l : BitVec 64} (f : fr clq σ σ1) : fr wM σ (sL σ1 77 0 l) := fr_sL (fr_mono f (fun c j k => Or.inl k)) (by unfold wM; omega)
theorem wM_c {σ1 : St} (f : fr clq σ σ1) : fr wM σ σ1 := fr_mono f (fun c j k => Or.inl k)
theorem CI_w {σ1 : St} {l : BitVec 64} (h : CI P lim σ1) : CI P lim (sL σ1 77 0 l) := CI_fr h (fr_sL (M := fun c _ => c = 77) fr_refl rfl) (fun c j k => by omega)
theorem LQ_w {σ1 : St} (h : LQ P lim xs σ) (f : fr wM σ σ1) : LQ P lim xs σ1 := LQ_fr h f (fun c j k => by unfold wM clq at k; omega)
theorem e79w {σ1 : St} (f : fr wM σ σ1) : gI σ1 79 = gI σ 79 := funext fun j => fr_I f 79 j (by unfold wM clq; omega)
theorem fr01 {σ1 : St} {v : Int} : fr qM σ1 (sI σ1 53 0 v) := q0q
theorem op_731 {i : Int} {a6 a7 a8 : Option AV} (h : JV P lim PS lS σ) (hi : 0 ≤ i) (hlen : i + 3 < gI σ 79 (-1)) (hn : ∀ j, 0 ≤ j → j < gI σ 79 (-1) → inR (gI σ 79 j)) (ht : 4 ≤ t) (hq : HQ t i σ Q) : wp t 305 731 [some (vR 79), some (vR 0), some (vR 53), some (vR 77), some (vR 78), some (vI i), a6, a7, a8] [] σ Q := by
  obtain ⟨⟨⟨hP, hl⟩, hPS, hlS⟩, hCI, ⟨xs, hC, hLQ⟩, hT⟩ := id h
  have n1 := hn (i + 1) (by omega) (by omega)
  generalize hv : gI σ 79 (i + 1) = v at n1
  have el : gI σ 79 (-1) = gI σ 79 (-1) := rfl
  rw [x305_731, hv]
  refine ⟨by omega, by omega, ?_⟩
  rw [x287_0]
  refine ⟨by omega, c132 (by omega) hP hl hC hCI n1 (fun a σ1 g1 g2 => ?_) (fun a => ?_)⟩
  · simp only [x287_7, x287_14, x305_742, e79w (wM_w g2), hv, aft_l, aft_r, optL_s, optL_n, xgo_n, xgo_s, List.cons_append, List.nil_append, List.append_nil, true_and, and_true, Nat.sub_zero, Nat.zero_le, true_implies, false_implies, implies_true, not_true_eq_false, not_false_eq_true, true_or, or_true]
    refine ⟨by omega, by omega, c228 hP hl hC (LQ_w hLQ (wM_w g2)) n1 (fun b => absurd a b) (fun _ σ2 k1 k2 k3 => ?_)⟩
    simp only [aft_l, aft_r, optL_s, optL_n, xgo_n, xgo_s, List.cons_append, List.nil_append, List.append_nil, true_and, and_true, Nat.sub_zero, Nat.zero_le, true_implies, false_implies, implies_true, not_true_eq_false, not_false_eq_true, true_or, or_true]
    obtain ⟨r1, r2, r3, r4⟩ := fin_q h (CI_w g1) (wM_w g2) ⟨xs, hC, FQ_LQ k1⟩ k3
    exact KL_754 ⟨by decide, by decide⟩ k2 (fun _ => by rw [r3, gL_sL, if_pos ⟨rfl, rfl⟩]) (fun b6 b7 b8 => hq _ _ _ _ _ _ _ _ _ r1 r2 (by omega))
  · simp only [show hd 287 4 3 = some (12, 3) from rfl, xgo_s, lk4, x287_12, x305_742, hv, aft_l, aft_r, optL_s, optL_n, xgo_n, xgo_s, List.cons_append, List.nil_append, List.append_nil, true_and, and_true, Nat.sub_zero, Nat.zero_le, true_implies, false_implies, implies_true, not_true_eq_false, not_false_eq_true, true_or, or_true]
    refine ⟨by omega, c228 hP hl hC hLQ n1 (fun _ => ?_) (fun b => absurd b a)⟩
    simp only [aft_l, aft_r, optL_s, optL_n, xgo_n, xgo_s, List.cons_append, List.nil_append, List.append_nil, true_and, and_true, Nat.sub_zero, Nat.zero_le, true_implies, false_implies, implies_true, not_true_eq_false, not_false_eq_true, true_or, or_true]
    obtain ⟨r1, r2, r3, r4⟩ := fin_q h hCI (wM_c fr_refl) ⟨xs, hC, LQ_fr hLQ (q0 (v := 1)) qK0⟩ (fr01 (σ1 := σ) (v := 1))
    exact KL_754 (z := 1) ⟨by decide, by decide⟩ (by rw [gI_sI, if_pos ⟨rfl, rfl⟩]) (fun k => by cases k) (fun b6 b7 b8 => hq _ _ _ _ _ _ _ _ _ r1 r2 (by omega))
theorem op_1008 {i : Int} {a6 a7 a8 : Option AV} (h : JV P lim PS lS σ) (hi : 0 ≤ i) (hlen : i + 3 < gI σ 79 (-1)) (hn : ∀ j, 0 ≤ j → j < gI σ 79 (-1) → inR (gI σ 79 j)) (ht : 4 ≤ t) (hq : HQ t i σ Q) : wp t 305 1008 [some (vR 79), some (vR 0), some (vR 53), some (vR 77), some (vR 78), some (vI i), a6, a7, a8] [] σ Q := by
  obtain ⟨⟨⟨hP, hl⟩, hPS, hlS⟩, hCI, ⟨xs, hC, hLQ⟩, hT⟩ := id h
  have n1 := hn (i + 1) (by omega) (by omega)
  generalize hv : gI σ 79 (i + 1) = v at n1
  have el : gI σ 79 (-1) = gI σ 79 (-1) := rfl
  rw [x305_1008, hv]
  refine ⟨by omega, by omega, ?_⟩
  rw [x291_0]
  refine ⟨by omega, c137 (by omega) hP hl hC hCI n1 (fun a σ1 g1 g2 => ?_) (fun a => ?_)⟩
  · simp only [x291_7, x291_14, x305_1019, e79w (wM_w g2), hv, aft_l, aft_r, optL_s, optL_n, xgo_n, xgo_s, List.cons_append, List.nil_append, List.append_nil, true_and, and_true, Nat.sub_zero, Nat.zero_le, true_implies, false_implies, implies_true, not_true_eq_false, not_false_eq_true, true_or, or_true]
    refine ⟨by omega, by omega, c235 hP hl hC (LQ_w hLQ (wM_w g2)) n1 (fun b => absurd a b) (fun _ σ2 k1 k2 k3 => ?_)⟩
    simp only [aft_l, aft_r, optL_s, optL_n, xgo_n, xgo_s, List.cons_append, List.nil_append, List.append_nil, true_and, and_true, Nat.sub_zero, Nat.zero_le, true_implies, false_implies, implies_true, not_true_eq_false, not_false_eq_true, true_or, or_true]
    obtain ⟨r1, r2, r3, r4⟩ := fin_q h (CI_w g1) (wM_w g2) ⟨xs, hC, FQ_LQ k1⟩ k3
    exact KL_1031 ⟨by decide, by decide⟩ k2 (fun _ => by rw [r3, gL_sL, if_pos ⟨rfl, rfl⟩]) (fun b6 b7 b8 => hq _ _ _ _ _ _ _ _ _ r1 r2 (by omega))
  · simp only [show hd 291 4 3 = some (12, 3) from rfl, xgo_s, lk4, x291_12, x305_1019, hv, aft_l, aft_r, optL_s, optL_n, xgo_n, xgo_s, List.cons_append, List.nil_append, List.append_nil, true_and, and_true, Nat.sub_zero, Nat.zero_le, true_implies, false_implies, implies_true, not_true_eq_false, not_false_eq_true, true_or, or_true]
    refine ⟨by omega, c235 hP hl hC hLQ n1 (fun _ => ?_) (fun b => absurd b a)⟩
    simp only [aft_l, aft_r, optL_s, optL_n, xgo_n, xgo_s, List.cons_append, List.nil_append, List.append_nil, true_and, and_true, Nat.sub_zero, Nat.zero_le, true_implies, false_implies, implies_true, not_true_eq_false, not_false_eq_true, true_or, or_true]
    obtain ⟨r1, r2, r3, r4⟩ := fin_q h hCI (wM_c fr_refl) ⟨xs, hC, LQ_fr hLQ (q0 (v := 1)) qK0⟩ (fr01 (σ1 := σ) (v := 1))
    exact KL_1031 (z := 1) ⟨by decide, by decide⟩ (by rw [gI_sI, if_pos ⟨rfl, rfl⟩]) (fun k => by cases k) (fun b6 b7 b8 => hq _ _ _ _ _ _ _ _ _ r1 r2 (by omega))
theorem op_1225 {i : Int} {a6 a7 a8 : Option AV} (h : JV P lim PS lS σ) (hi : 0 ≤ i) (hlen : i + 3 < gI σ 79 (-1)) (hn : ∀ j, 0 ≤ j → j < gI σ 79 (-1) → inR (gI σ 79 j)) (ht : 4 ≤ t) (hq : HQ t i σ Q) : wp t 305 1225 [some (vR 79), some (vR 0), some (vR 53), some (vR 77), some (vR 78), some (vI i), a6, a7, a8] [] σ Q := by
  obtain ⟨⟨⟨hP, hl⟩, hPS, hlS⟩, hCI, ⟨xs, hC, hLQ⟩, hT⟩ := id h
  have n1 := hn (i + 1) (by omega) (by omega)
  generalize hv : gI σ 79 (i + 1) = v at n1
  have el : gI σ 79 (-1) = gI σ 79 (-1) := rfl
  rw [x305_1225, hv]
  refine ⟨by omega, by omega, ?_⟩
  rw [x294_0]
  refine ⟨by omega, c142 (by omega) hP hCI n1 (fun a σ1 g1 g2 => ?_) (fun a => ?_)⟩
  · simp only [x294_7, x294_14, x305_1236, e79w (wM_w g2), hv, aft_l, aft_r, optL_s, optL_n, xgo_n, xgo_s, List.cons_append, List.nil_append, List.append_nil, true_and, and_true, Nat.sub_zero, Nat.zero_le, true_implies, false_implies, implies_true, not_true_eq_false, not_false_eq_true, true_or, or_true]
    refine ⟨by omega, by omega, c249 hP hl hC (LQ_w hLQ (wM_w g2)) n1 (fun b => absurd a b) (fun _ σ2 k1 k2 k3 => ?_)⟩
    simp only [aft_l, aft_r, optL_s, optL_n, xgo_n, xgo_s, List.cons_append, List.nil_append, List.append_nil, true_and, and_true, Nat.sub_zero, Nat.zero_le, true_implies, false_implies, implies_true, not_true_eq_false, not_false_eq_true, true_or, or_true]
    obtain ⟨r1, r2, r3, r4⟩ := fin_q h (CI_w g1) (wM_w g2) ⟨xs, hC, FQ_LQ k1⟩ k3
    exact KL_1248 ⟨by decide, by decide⟩ k2 (fun _ => by rw [r3, gL_sL, if_pos ⟨rfl, rfl⟩]) (fun b6 b7 b8 => hq _ _ _ _ _ _ _ _ _ r1 r2 (by omega))
  · simp only [show hd 294 4 3 = some (12, 3) from rfl, xgo_s, lk4, x294_12, x305_1236, hv, aft_l, aft_r, optL_s, optL_n, xgo_n, xgo_s, List.cons_append, List.nil_append, List.append_nil, true_and, and_true, Nat.sub_zero, Nat.zero_le, true_implies, false_implies, implies_true, not_true_eq_false, not_false_eq_true, true_or, or_true]
    refine ⟨by omega, c249 hP hl hC hLQ n1 (fun _ => ?_) (fun b => absurd b a)⟩
    simp only [aft_l, aft_r, optL_s, optL_n, xgo_n, xgo_s, List.cons_append, List.nil_append, List.append_nil, true_and, and_true, Nat.sub_zero, Nat.zero_le, true_implies, false_implies, implies_true, not_true_eq_false, not_false_eq_true, true_or, or_true]
    obtain ⟨r1, r2, r3, r4⟩ := fin_q h hCI (wM_c fr_refl) ⟨xs, hC, LQ_fr hLQ (q0 (v := 1)) qK0⟩ (fr01 (σ1 := σ) (v := 1))
    exact KL_1248 (z := 1) ⟨by decide, by decide⟩ (by rw [gI_sI, if_pos ⟨rfl, rfl⟩]) (fun k => by cases k) (fun b6 b7 b8 => hq _ _ _ _ _ _ _ _ _ r1 r2 (by omega))
theorem op_1368 {i : Int} {a6 a7 a8 : Option AV} (h : JV P lim PS lS σ) (hi : 0 ≤ i) (hlen : i + 3 < gI σ 79 (-1)) (hn : ∀ j, 0 ≤ j → j < gI σ 79 (-1) → inR (gI σ 79 j)) (ht : 4 ≤ t) (hq : HQ t i σ Q) : wp t 305 1368 [some (vR 79), some (vR 0), some (vR 53), some (vR 77), some (vR 78), some (vI i), a6, a7, a8] [] σ Q := by
  obtain ⟨⟨⟨hP, hl⟩, hPS, hlS⟩, hCI, ⟨xs, hC, hLQ⟩, hT⟩ := id h
  have n1 := hn (i + 1) (by omega) (by omega)
  generalize hv : gI σ 79 (i + 1) = v at n1
  have el : gI σ 79 (-1) = gI σ 79 (-1) := rfl
  rw [x305_1368, hv]
  refine ⟨by omega, by omega, ?_⟩
  rw [x296_0]
  refine ⟨by omega, c145 (by omega) hP hl hC hCI n1 (fun a σ1 g1 g2 => ?_) (fun a => ?_)⟩
  · simp only [x296_7, x296_14, x305_1379, e79w (wM_w g2), hv, aft_l, aft_r, optL_s, optL_n, xgo_n, xgo_s, List.cons_append, List.nil_append, List.append_nil, true_and, and_true, Nat.sub_zero, Nat.zero_le, true_implies, false_implies, implies_true, not_true_eq_false, not_false_eq_true, true_or, or_true]
    refine ⟨by omega, by omega, c253 hP hl hC (LQ_w hLQ (wM_w g2)) n1 (fun b => absurd a b) (fun _ σ2 k1 k2 k3 => ?_)⟩
    simp only [aft_l, aft_r, optL_s, optL_n, xgo_n, xgo_s, List.cons_append, List.nil_append, List.append_nil, true_and, and_true, Nat.sub_zero, Nat.zero_le, true_implies, false_implies, implies_true, not_true_eq_false, not_false_eq_true, true_or, or_true]
    obtain ⟨r1, r2, r3, r4⟩ := fin_q h (CI_w g1) (wM_w g2) ⟨xs, hC, k1⟩ k3
    exact KL_1391 ⟨by decide, by decide⟩ k2 (fun _ => by rw [r3, gL_sL, if_pos ⟨rfl, rfl⟩]) (fun b6 b7 b8 => hq _ _ _ _ _ _ _ _ _ r1 r2 (by omega))
  · simp only [show hd 296 4 3 = some (12, 3) from rfl, xgo_s, lk4, x296_12, x305_1379, hv, aft_l, aft_r, optL_s, optL_n, xgo_n, xgo_s, List.cons_append, List.nil_append, List.append_nil, true_and, and_true, Nat.sub_zero, Nat.zero_le, true_implies, false_implies, implies_true, not_true_eq_false, not_false_eq_true, true_or, or_true]
    refine ⟨by omega, c253 hP hl hC hLQ n1 (fun _ => ?_) (fun b => absurd b a)⟩
    simp only [aft_l, aft_r, optL_s, optL_n, xgo_n, xgo_s, List.cons_append, List.nil_append, List.append_nil, true_and, and_true, Nat.sub_zero, Nat.zero_le, true_implies, false_implies, implies_true, not_true_eq_false, not_false_eq_true, true_or, or_true]
    obtain ⟨r1, r2, r3, r4⟩ := fin_q h hCI (wM_c fr_refl) ⟨xs, hC, LQ_fr hLQ (q0 (v := 1)) qK0⟩ (fr01 (σ1 := σ) (v := 1))
    exact KL_1391 (z := 1) ⟨by decide, by decide⟩ (by rw [gI_sI, if_pos ⟨rfl, rfl⟩]) (fun k => by cases k) (fun b6 b7 b8 => hq _ _ _ _ _ _ _ _ _ r1 r2 (by omega))
end LO2
