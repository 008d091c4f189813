/-! the law's loop: cases 6 -/
section LO7
variable {t : Nat} {σ : St} {Q : Res → St → Prop} {P PS : Pg} {lim lS : Int} {xs ys : List Int}
/-- functionOf -/
theorem op_402 {i : Int} {a6 a7 a8 : Option AV} (h : JV P lim PS lS σ) (hi : 0 ≤ i) (hlen : i + 3 < gI σ 79 (-1)) (hn : ∀ j, 0 ≤ j → j < gI σ 79 (-1) → inR (gI σ 79 j)) (ht : 4 ≤ t) (hq : HQ t i σ Q) : wp t 305 402 [some (vR 79), some (vR 0), some (vR 53), some (vR 77), some (vR 78), some (vI i), a6, a7, a8] [] σ Q := by
  obtain ⟨⟨⟨hP, hl⟩, hPS, hlS⟩, hCI, ⟨xs, hC, hLQ⟩, hT⟩ := id h
  have n1 := hn (i + 1) (by omega) (by omega)
  generalize hv : gI σ 79 (i + 1) = v at n1
  rw [x305_402, hv]
  refine ⟨by omega, by omega, ?_⟩
  rw [x282_0]
  refine ⟨by omega, c126 (by omega) hP hCI n1 (fun a => ?_) (fun a => ?_)⟩
  · have hk := (own_spec hP.1 a.1 a.2).1
    have g2 : fr clq σ σ := fr_refl
    simp only [x282_7, x282_15, x305_413, e79w (wM_w g2), hv, aft_l, aft_r, optL_s, optL_n, xgo_n, xgo_s, List.cons_append, List.nil_append, List.append_nil, true_and, and_true, Nat.sub_zero, Nat.zero_le, true_implies, false_implies, implies_true, not_true_eq_false, not_false_eq_true, true_or, or_true]
    refine ⟨⟨by omega, by omega⟩, by omega, by omega, c202 (LQ_w hLQ (wM_w g2)).1 hP n1 (fun b => absurd a b) (fun _ => ?_)⟩
    simp only [aft_l, aft_r, optL_s, optL_n, xgo_n, xgo_s, List.cons_append, List.nil_append, List.append_nil, true_and, and_true, Nat.sub_zero, Nat.zero_le, true_implies, false_implies, implies_true, not_true_eq_false, not_false_eq_true, true_or, or_true]
    obtain ⟨r1, r2, r3, r4⟩ := fin_q h (CI_w hCI) (wM_w g2) ⟨xs, hC, LQ_fr (LQ_w hLQ (wM_w g2)) (q0 (v := 0)) qK0⟩ (fr01 (v := 0))
    exact KI_425 (z := 0) ⟨by decide, by decide⟩ ⟨by omega, by omega⟩ (by rw [gI_sI, if_pos ⟨rfl, rfl⟩]) (fun _ => by rw [r3, gL_sL, if_pos ⟨rfl, rfl⟩]) (fun b6 b7 b8 => hq _ _ _ _ _ _ _ _ _ r1 r2 (by omega))
  · simp only [show hd 282 4 3 = some (13, 3) from rfl, xgo_s, lk4, x282_13, x305_413, hv, aft_l, aft_r, optL_s, optL_n, xgo_n, xgo_s, List.cons_append, List.nil_append, List.append_nil, true_and, and_true, Nat.sub_zero, Nat.zero_le, true_implies, false_implies, implies_true, not_true_eq_false, not_false_eq_true, true_or, or_true]
    refine ⟨by omega, c202 hLQ.1 hP n1 (fun _ => ?_) (fun b => absurd b a)⟩
    simp only [aft_l, aft_r, optL_s, optL_n, xgo_n, xgo_s, List.cons_append, List.nil_append, List.append_nil, true_and, and_true, Nat.sub_zero, Nat.zero_le, true_implies, false_implies, implies_true, not_true_eq_false, not_false_eq_true, true_or, or_true]
    obtain ⟨r1, r2⟩ := fin_0 (v := 1) h
    exact KI_425 (z := 1) ⟨by decide, by decide⟩ ⟨by decide, by decide⟩ (by rw [gI_sI, if_pos ⟨rfl, rfl⟩]) (fun k => by cases k) (fun b6 b7 b8 => hq _ _ _ _ _ _ _ _ _ r1 r2 (by omega))
/-- observed -/
theorem op_1618 {i : Int} {a6 a7 a8 : Option AV} (h : JV P lim PS lS σ) (hi : 0 ≤ i) (hlen : i + 3 < gI σ 79 (-1)) (hn : ∀ j, 0 ≤ j → j < gI σ 79 (-1) → inR (gI σ 79 j)) (ht : 4 ≤ t) (hq : HQ t i σ Q) : wp t 305 1618 [some (vR 79), some (vR 0), some (vR 53), some (vR 77), some (vR 78), some (vI i), a6, a7, a8] [] σ Q := by
  obtain ⟨⟨⟨hP, hl⟩, hPS, hlS⟩, hCI, ⟨xs, hC, hLQ⟩, hTX, hF, hS, hM⟩ := id h
  have n1 := hn (i + 1) (by omega) (by omega)
  generalize hv : gI σ 79 (i + 1) = v at n1
  rw [x305_1618, hv]
  refine ⟨by omega, by omega, ?_⟩
  rw [x300_0]
  refine ⟨by omega, c150 (by omega) n1 (fun a => ?_) (fun a => ?_)⟩
  · have g2 : fr clq σ σ := fr_refl
    have em : gL (sL σ 77 0 (gL σ 49 v)) 75 v = gL σ 49 v := (hM.1 v a.1 (by omega)).symm
    simp only [x300_7, x300_14, x305_1629, e79w (wM_w g2), hv, aft_l, aft_r, optL_s, optL_n, xgo_n, xgo_s, List.cons_append, List.nil_append, List.append_nil, true_and, and_true, Nat.sub_zero, Nat.zero_le, true_implies, false_implies, implies_true, not_true_eq_false, not_false_eq_true, true_or, or_true]
    refine ⟨by omega, by omega, c268 n1 (fun b => absurd a b) (fun _ => ?_)⟩
    simp only [em, aft_l, aft_r, optL_s, optL_n, xgo_n, xgo_s, List.cons_append, List.nil_append, List.append_nil, true_and, and_true, Nat.sub_zero, Nat.zero_le, true_implies, false_implies, implies_true, not_true_eq_false, not_false_eq_true, true_or, or_true]
    obtain ⟨r1, r2, r3, r4⟩ := fin_q h (CI_w hCI) (wM_w g2) ⟨xs, hC, LQ_fr (LQ_w hLQ (wM_w g2)) (q0 (v := 0)) qK0⟩ (fr01 (v := 0))
    exact KL_1641 (z := 0) ⟨by decide, by decide⟩ (by rw [gI_sI, if_pos ⟨rfl, rfl⟩]) (fun _ => by rw [r3, gL_sL, if_pos ⟨rfl, rfl⟩]) (fun b6 b7 b8 => hq _ _ _ _ _ _ _ _ _ r1 r2 (by omega))
  · simp only [show hd 300 4 3 = some (12, 3) from rfl, xgo_s, lk4, x300_12, x305_1629, hv, aft_l, aft_r, optL_s, optL_n, xgo_n, xgo_s, List.cons_append, List.nil_append, List.append_nil, true_and, and_true, Nat.sub_zero, Nat.zero_le, true_implies, false_implies, implies_true, not_true_eq_false, not_false_eq_true, true_or, or_true]
    refine ⟨by omega, c268 n1 (fun _ => ?_) (fun b => absurd b a)⟩
    simp only [aft_l, aft_r, optL_s, optL_n, xgo_n, xgo_s, List.cons_append, List.nil_append, List.append_nil, true_and, and_true, Nat.sub_zero, Nat.zero_le, true_implies, false_implies, implies_true, not_true_eq_false, not_false_eq_true, true_or, or_true]
    obtain ⟨r1, r2⟩ := fin_0 (v := 1) h
    exact KL_1641 (z := 1) ⟨by decide, by decide⟩ (by rw [gI_sI, if_pos ⟨rfl, rfl⟩]) (fun k => by cases k) (fun b6 b7 b8 => hq _ _ _ _ _ _ _ _ _ r1 r2 (by omega))
/-- fieldObserved -/
theorem op_1673 {i : Int} {a6 a7 a8 : Option AV} (h : JV P lim PS lS σ) (hi : 0 ≤ i) (hlen : i + 3 < gI σ 79 (-1)) (hn : ∀ j, 0 ≤ j → j < gI σ 79 (-1) → inR (gI σ 79 j)) (ht : 4 ≤ t) (hq : HQ t i σ Q) : wp t 305 1673 [some (vR 79), some (vR 0), some (vR 53), some (vR 77), some (vR 78), some (vI i), a6, a7, a8] [] σ Q := by
  obtain ⟨⟨⟨hP, hl⟩, hPS, hlS⟩, hCI, ⟨xs, hC, hLQ⟩, hTX, hF, hS, hM⟩ := id h
  have n1 := hn (i + 1) (by omega) (by omega)
  have n2 := hn (i + 2) (by omega) (by omega)
  have hm := m8_rng hP
  generalize hv : gI σ 79 (i + 1) = v at n1
  generalize hw : gI σ 79 (i + 2) = w at n2
  rw [x305_1673, hv, hw]
  refine ⟨by omega, by omega, by omega, ?_⟩
  rw [x301_0]
  refine ⟨by omega, c151 (by omega) hP hCI n1 n2 (fun a => ?_) (fun a => ?_)⟩
  · have g2 : fr clq σ σ := fr_refl
    have em : gL (sL σ 77 0 (gL σ 49 (20 + 3 * v + w))) 75 (20 + 3 * v + w) = gL σ 49 (20 + 3 * v + w) := (hM.1 (20 + 3 * v + w) (by omega) (by omega)).symm
    simp only [x301_8, x301_16, x305_1690, e79w (wM_w g2), hv, hw, aft_l, aft_r, optL_s, optL_n, xgo_n, xgo_s, List.cons_append, List.nil_append, List.append_nil, true_and, and_true, Nat.sub_zero, Nat.zero_le, true_implies, false_implies, implies_true, not_true_eq_false, not_false_eq_true, true_or, or_true]
    refine ⟨by omega, by omega, by omega, c269 (LQ_w hLQ (wM_w g2)).1 hP n1 n2 (fun b => absurd a b) (fun _ => ?_)⟩
    simp only [em, aft_l, aft_r, optL_s, optL_n, xgo_n, xgo_s, List.cons_append, List.nil_append, List.append_nil, true_and, and_true, Nat.sub_zero, Nat.zero_le, true_implies, false_implies, implies_true, not_true_eq_false, not_false_eq_true, true_or, or_true]
    obtain ⟨r1, r2, r3, r4⟩ := fin_q h (CI_w hCI) (wM_w g2) ⟨xs, hC, LQ_fr (LQ_w hLQ (wM_w g2)) (q0 (v := 0)) qK0⟩ (fr01 (v := 0))
    exact KL_1708 (z := 0) ⟨by decide, by decide⟩ (by rw [gI_sI, if_pos ⟨rfl, rfl⟩]) (fun _ => by rw [r3, gL_sL, if_pos ⟨rfl, rfl⟩]) (fun b6 b7 b8 => hq _ _ _ _ _ _ _ _ _ r1 r2 (by omega))
  · simp only [show hd 301 5 3 = some (14, 4) from rfl, xgo_s, lk5, x301_14, x305_1690, hv, hw, aft_l, aft_r, optL_s, optL_n, xgo_n, xgo_s, List.cons_append, List.nil_append, List.append_nil, true_and, and_true, Nat.sub_zero, Nat.zero_le, true_implies, false_implies, implies_true, not_true_eq_false, not_false_eq_true, true_or, or_true]
    refine ⟨by omega, by omega, c269 hLQ.1 hP n1 n2 (fun _ => ?_) (fun b => absurd b a)⟩
    simp only [aft_l, aft_r, optL_s, optL_n, xgo_n, xgo_s, List.cons_append, List.nil_append, List.append_nil, true_and, and_true, Nat.sub_zero, Nat.zero_le, true_implies, false_implies, implies_true, not_true_eq_false, not_false_eq_true, true_or, or_true]
    obtain ⟨r1, r2⟩ := fin_0 (v := 1) h
    exact KL_1708 (z := 1) ⟨by decide, by decide⟩ (by rw [gI_sI, if_pos ⟨rfl, rfl⟩]) (fun k => by cases k) (fun b6 b7 b8 => hq _ _ _ _ _ _ _ _ _ r1 r2 (by omega))
/-- contextCall -/
theorem op_651 {i : Int} {a6 a7 a8 : Option AV} (h : JV P lim PS lS σ) (hi : 0 ≤ i) (hlen : i + 3 < gI σ 79 (-1)) (hn : ∀ j, 0 ≤ j → j < gI σ 79 (-1) → inR (gI σ 79 j)) (ht : 4 ≤ t) (hq : HQ t i σ Q) : wp t 305 651 [some (vR 79), some (vR 0), some (vR 53), some (vR 77), some (vR 78), some (vI i), a6, a7, a8] [] σ Q := by
  obtain ⟨⟨⟨hP, hl⟩, hPS, hlS⟩, hCI, ⟨xs, hC, hLQ⟩, hT⟩ := id h
  have n1 := hn (i + 1) (by omega) (by omega)
  have n2 := hn (i + 2) (by omega) (by omega)
  have n3 := hn (i + 3) (by omega) (by omega)
  generalize hv : gI σ 79 (i + 1) = v at n1
  generalize hw : gI σ 79 (i + 2) = w at n2
  generalize hu : gI σ 79 (i + 3) = u at n3
  have hk := kyA_rng xs v w
  have hc := cod_rng hk.1 hk.2
  rw [x305_651, hv, hw, hu]
  refine ⟨by omega, by omega, by omega, by omega, ?_⟩
  rw [x286_0]
  refine ⟨by omega, c131 (by omega) hP hl hC hCI n1 n2 n3 (fun a b c σ1 g1 g2 => ?_) (fun a σ1 g1 g2 => ?_)⟩
  · have hcal := cod_cal hk.1 hk.2 c.1 c.2
    have hr : inR (calK (kyA xs v w) u) := by rw [← hcal]; split <;> exact ⟨by omega, by omega⟩
    simp only [x286_10, x286_19, x305_674, e79w (wM_w g2), hv, hw, hu, aft_l, aft_r, optL_s, optL_n, xgo_n, xgo_s, List.cons_append, List.nil_append, List.append_nil, true_and, and_true, Nat.sub_zero, Nat.zero_le, true_implies, false_implies, implies_true, not_true_eq_false, not_false_eq_true, true_or, or_true]
    refine ⟨hr, by omega, by omega, by omega, by omega, c225 hP hl hC (LQ_w hLQ (wM_w g2)) n1 n2 n3 (fun d => absurd ⟨⟨a, b⟩, c⟩ d) (fun _ _ _ σ2 k1 k2 k3 => ?_)⟩
    simp only [aft_l, aft_r, optL_s, optL_n, xgo_n, xgo_s, List.cons_append, List.nil_append, List.append_nil, true_and, and_true, Nat.sub_zero, Nat.zero_le, true_implies, false_implies, implies_true, not_true_eq_false, not_false_eq_true, true_or, or_true]
    obtain ⟨r1, r2, r3, r4⟩ := fin_q h (CI_w g1) (wM_w g2) ⟨xs, hC, FQ_LQ k1⟩ k3
    exact KI_698 ⟨by decide, by decide⟩ hr k2 (fun _ => by rw [r3, gL_sL, if_pos ⟨rfl, rfl⟩]) (fun b6 b7 b8 => hq _ _ _ _ _ _ _ _ _ r1 r2 (by omega))
  · simp only [show hd 286 7 3 = some (17, 5) from rfl, xgo_s, lk6, x286_17, x305_674, e79w (wM_c g2), hv, hw, hu, aft_l, aft_r, optL_s, optL_n, xgo_n, xgo_s, List.cons_append, List.nil_append, List.append_nil, true_and, and_true, Nat.sub_zero, Nat.zero_le, true_implies, false_implies, implies_true, not_true_eq_false, not_false_eq_true, true_or, or_true]
    refine ⟨by omega, by omega, by omega, c225 hP hl hC (LQ_w hLQ (wM_c g2)) n1 n2 n3 (fun _ σ2 k1 k2 k3 => ?_) (fun b c d => absurd ⟨⟨b, c⟩, d⟩ a)⟩
    simp only [aft_l, aft_r, optL_s, optL_n, xgo_n, xgo_s, List.cons_append, List.nil_append, List.append_nil, true_and, and_true, Nat.sub_zero, Nat.zero_le, true_implies, false_implies, implies_true, not_true_eq_false, not_false_eq_true, true_or, or_true]
    obtain ⟨r1, r2, r3, r4⟩ := fin_q h g1 (wM_c g2) ⟨xs, hC, k1⟩ k3
    exact KI_698 (z := 1) ⟨by decide, by decide⟩ ⟨by decide, by decide⟩ k2 (fun k => by cases k) (fun b6 b7 b8 => hq _ _ _ _ _ _ _ _ _ r1 r2 (by omega))
end LO7
