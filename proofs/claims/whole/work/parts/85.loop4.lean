/-! the law's loop: cases 3 -/
section LO4
variable {t : Nat} {σ : St} {Q : Res → St → Prop} {P PS : Pg} {lim lS : Int} {xs ys : List Int}
/-- fieldPointsTo -/
theorem op_853 {i : Int} {a6 a7 a8 : Option AV} (h : JV P lim PS lS σ) (hi : 0 ≤ i) (hlen : i + 3 < gI σ 79 (-1)) (hn : ∀ j, 0 ≤ j → j < gI σ 79 (-1) → inR (gI σ 79 j)) (ht : 4 ≤ t) (hq : HQ t i σ Q) : wp t 305 853 [some (vR 79), some (vR 0), some (vR 53), some (vR 77), some (vR 78), some (vI i), a6, a7, a8] [] σ Q := by
  obtain ⟨⟨⟨hP, hl⟩, hPS, hlS⟩, hCI, ⟨xs, hC, hLQ⟩, hT⟩ := id h
  have n1 := hn (i + 1) (by omega) (by omega)
  have n2 := hn (i + 2) (by omega) (by omega)
  generalize hv : gI σ 79 (i + 1) = v at n1
  generalize hw : gI σ 79 (i + 2) = w at n2
  rw [x305_853, hv, hw]
  refine ⟨by omega, by omega, by omega, ?_⟩
  rw [x289_0]
  refine ⟨by omega, c134 (by omega) hP hl hC hCI n1 n2 (fun a σ1 g1 g2 => ?_) (fun a => ?_)⟩
  · simp only [x289_8, x289_16, x305_870, e79w (wM_w g2), hv, hw, aft_l, aft_r, optL_s, optL_n, xgo_n, xgo_s, List.cons_append, List.nil_append, List.append_nil, true_and, and_true, Nat.sub_zero, Nat.zero_le, true_implies, false_implies, implies_true, not_true_eq_false, not_false_eq_true, true_or, or_true]
    refine ⟨by omega, by omega, by omega, c231 hP hl hC (LQ_w hLQ (wM_w g2)) n1 n2 (fun b => absurd a b) (fun _ σ2 k1 k2 k3 => ?_)⟩
    simp only [aft_l, aft_r, optL_s, optL_n, xgo_n, xgo_s, List.cons_append, List.nil_append, List.append_nil, true_and, and_true, Nat.sub_zero, Nat.zero_le, true_implies, false_implies, implies_true, not_true_eq_false, not_false_eq_true, true_or, or_true]
    obtain ⟨r1, r2, r3, r4⟩ := fin_q h (CI_w g1) (wM_w g2) ⟨xs, hC, FQ_LQ k1⟩ k3
    exact KL_888 ⟨by decide, by decide⟩ k2 (fun _ => by rw [r3, gL_sL, if_pos ⟨rfl, rfl⟩]) (fun b6 b7 b8 => hq _ _ _ _ _ _ _ _ _ r1 r2 (by omega))
  · simp only [show hd 289 5 3 = some (14, 4) from rfl, xgo_s, lk5, x289_14, x305_870, hv, hw, aft_l, aft_r, optL_s, optL_n, xgo_n, xgo_s, List.cons_append, List.nil_append, List.append_nil, true_and, and_true, Nat.sub_zero, Nat.zero_le, true_implies, false_implies, implies_true, not_true_eq_false, not_false_eq_true, true_or, or_true]
    refine ⟨by omega, by omega, c231 hP hl hC hLQ n1 n2 (fun _ => ?_) (fun b => absurd b a)⟩
    simp only [aft_l, aft_r, optL_s, optL_n, xgo_n, xgo_s, List.cons_append, List.nil_append, List.append_nil, true_and, and_true, Nat.sub_zero, Nat.zero_le, true_implies, false_implies, implies_true, not_true_eq_false, not_false_eq_true, true_or, or_true]
    obtain ⟨r1, r2, r3, r4⟩ := fin_q h hCI (wM_c fr_refl) ⟨xs, hC, LQ_fr hLQ (q0 (v := 1)) qK0⟩ (fr01 (σ1 := σ) (v := 1))
    exact KL_888 (z := 1) ⟨by decide, by decide⟩ (by rw [gI_sI, if_pos ⟨rfl, rfl⟩]) (fun k => by cases k) (fun b6 b7 b8 => hq _ _ _ _ _ _ _ _ _ r1 r2 (by omega))
/-- pointsToIn -/
theorem op_786 {i : Int} {a6 a7 a8 : Option AV} (h : JV P lim PS lS σ) (hi : 0 ≤ i) (hlen : i + 3 < gI σ 79 (-1)) (hn : ∀ j, 0 ≤ j → j < gI σ 79 (-1) → inR (gI σ 79 j)) (ht : 4 ≤ t) (hq : HQ t i σ Q) : wp t 305 786 [some (vR 79), some (vR 0), some (vR 53), some (vR 77), some (vR 78), some (vI i), a6, a7, a8] [] σ Q := by
  obtain ⟨⟨⟨hP, hl⟩, hPS, hlS⟩, hCI, ⟨xs, hC, hLQ⟩, hT⟩ := id h
  have n1 := hn (i + 1) (by omega) (by omega)
  have n2 := hn (i + 2) (by omega) (by omega)
  generalize hv : gI σ 79 (i + 1) = v at n1
  generalize hw : gI σ 79 (i + 2) = w at n2
  rw [x305_786, hv, hw]
  refine ⟨by omega, by omega, by omega, ?_⟩
  rw [x288_0]
  refine ⟨by omega, c133 (by omega) hP hl hC hCI n1 n2 (fun a b σ1 g1 g2 => ?_) (fun a σ1 g1 g2 => ?_)⟩
  · simp only [x288_8, x288_16, x305_803, e79w (wM_w g2), hv, hw, aft_l, aft_r, optL_s, optL_n, xgo_n, xgo_s, List.cons_append, List.nil_append, List.append_nil, true_and, and_true, Nat.sub_zero, Nat.zero_le, true_implies, false_implies, implies_true, not_true_eq_false, not_false_eq_true, true_or, or_true]
    refine ⟨by omega, by omega, by omega, c229 hP hl hC (LQ_w hLQ (wM_w g2)) n1 n2 (fun c => absurd ⟨a, b⟩ c) (fun _ _ σ2 k1 k2 k3 => ?_)⟩
    simp only [aft_l, aft_r, optL_s, optL_n, xgo_n, xgo_s, List.cons_append, List.nil_append, List.append_nil, true_and, and_true, Nat.sub_zero, Nat.zero_le, true_implies, false_implies, implies_true, not_true_eq_false, not_false_eq_true, true_or, or_true]
    obtain ⟨r1, r2, r3, r4⟩ := fin_q h (CI_w g1) (wM_w g2) ⟨xs, hC, FQ_LQ k1⟩ k3
    exact KL_821 ⟨by decide, by decide⟩ k2 (fun _ => by rw [r3, gL_sL, if_pos ⟨rfl, rfl⟩]) (fun b6 b7 b8 => hq _ _ _ _ _ _ _ _ _ r1 r2 (by omega))
  · simp only [show hd 288 5 3 = some (14, 4) from rfl, xgo_s, lk5, x288_14, x305_803, e79w (wM_c g2), hv, hw, aft_l, aft_r, optL_s, optL_n, xgo_n, xgo_s, List.cons_append, List.nil_append, List.append_nil, true_and, and_true, Nat.sub_zero, Nat.zero_le, true_implies, false_implies, implies_true, not_true_eq_false, not_false_eq_true, true_or, or_true]
    refine ⟨by omega, by omega, c229 hP hl hC (LQ_w hLQ (wM_c g2)) n1 n2 (fun _ σ2 k1 k2 k3 => ?_) (fun b c => absurd ⟨b, c⟩ a)⟩
    simp only [aft_l, aft_r, optL_s, optL_n, xgo_n, xgo_s, List.cons_append, List.nil_append, List.append_nil, true_and, and_true, Nat.sub_zero, Nat.zero_le, true_implies, false_implies, implies_true, not_true_eq_false, not_false_eq_true, true_or, or_true]
    obtain ⟨r1, r2, r3, r4⟩ := fin_q h g1 (wM_c g2) ⟨xs, hC, k1⟩ k3
    exact KL_821 (z := 1) ⟨by decide, by decide⟩ k2 (fun k => by cases k) (fun b6 b7 b8 => hq _ _ _ _ _ _ _ _ _ r1 r2 (by omega))
/-- contextCount -/
theorem op_527 {i : Int} {a6 a7 a8 : Option AV} (h : JV P lim PS lS σ) (hi : 0 ≤ i) (hlen : i + 3 < gI σ 79 (-1)) (hn : ∀ j, 0 ≤ j → j < gI σ 79 (-1) → inR (gI σ 79 j)) (ht : 4 ≤ t) (hq : HQ t i σ Q) : wp t 305 527 [some (vR 79), some (vR 0), some (vR 53), some (vR 77), some (vR 78), some (vI i), a6, a7, a8] [] σ Q := by
  obtain ⟨⟨⟨hP, hl⟩, hPS, hlS⟩, hCI, ⟨xs, hC, hLQ⟩, hT⟩ := id h
  have n1 := hn (i + 1) (by omega) (by omega)
  generalize hv : gI σ 79 (i + 1) = v at n1
  have hr := nc_rng xs v
  have hc0 := cbl_rng xs (v * 2353)
  have hL := isC_len hP hC
  rw [x305_527, hv]
  refine ⟨by omega, by omega, ?_⟩
  rw [x284_0]
  refine ⟨by omega, c129 (by omega) hP hl hC hCI n1 (fun a σ1 g1 g2 => ?_) (fun a => ?_)⟩
  · simp only [x284_7, x284_15, x305_538, e79w (wM_w g2), hv, aft_l, aft_r, optL_s, optL_n, xgo_n, xgo_s, List.cons_append, List.nil_append, List.append_nil, true_and, and_true, Nat.sub_zero, Nat.zero_le, true_implies, false_implies, implies_true, not_true_eq_false, not_false_eq_true, true_or, or_true]
    refine ⟨⟨by omega, by omega⟩, by omega, by omega, c222 hP hl hC (LQ_w hLQ (wM_w g2)) n1 (fun b => absurd a b) (fun _ σ2 k1 k2 k3 => ?_)⟩
    simp only [aft_l, aft_r, optL_s, optL_n, xgo_n, xgo_s, List.cons_append, List.nil_append, List.append_nil, true_and, and_true, Nat.sub_zero, Nat.zero_le, true_implies, false_implies, implies_true, not_true_eq_false, not_false_eq_true, true_or, or_true]
    obtain ⟨r1, r2, r3, r4⟩ := fin_q h (CI_w g1) (wM_w g2) ⟨xs, hC, FQ_LQ k1⟩ k3
    exact KI_550 ⟨by decide, by decide⟩ ⟨by omega, by omega⟩ k2 (fun _ => by rw [r3, gL_sL, if_pos ⟨rfl, rfl⟩]) (fun b6 b7 b8 => hq _ _ _ _ _ _ _ _ _ r1 r2 (by omega))
  · simp only [show hd 284 4 3 = some (13, 3) from rfl, xgo_s, lk4, x284_13, x305_538, hv, aft_l, aft_r, optL_s, optL_n, xgo_n, xgo_s, List.cons_append, List.nil_append, List.append_nil, true_and, and_true, Nat.sub_zero, Nat.zero_le, true_implies, false_implies, implies_true, not_true_eq_false, not_false_eq_true, true_or, or_true]
    refine ⟨by omega, c222 hP hl hC hLQ n1 (fun _ => ?_) (fun b => absurd b a)⟩
    simp only [aft_l, aft_r, optL_s, optL_n, xgo_n, xgo_s, List.cons_append, List.nil_append, List.append_nil, true_and, and_true, Nat.sub_zero, Nat.zero_le, true_implies, false_implies, implies_true, not_true_eq_false, not_false_eq_true, true_or, or_true]
    obtain ⟨r1, r2, r3, r4⟩ := fin_q h hCI (wM_c fr_refl) ⟨xs, hC, LQ_fr hLQ (q0 (v := 1)) qK0⟩ (fr01 (σ1 := σ) (v := 1))
    exact KI_550 (z := 1) ⟨by decide, by decide⟩ ⟨by decide, by decide⟩ (by rw [gI_sI, if_pos ⟨rfl, rfl⟩]) (fun k => by cases k) (fun b6 b7 b8 => hq _ _ _ _ _ _ _ _ _ r1 r2 (by omega))
/-- contextLength -/
theorem op_583 {i : Int} {a6 a7 a8 : Option AV} (h : JV P lim PS lS σ) (hi : 0 ≤ i) (hlen : i + 3 < gI σ 79 (-1)) (hn : ∀ j, 0 ≤ j → j < gI σ 79 (-1) → inR (gI σ 79 j)) (ht : 4 ≤ t) (hq : HQ t i σ Q) : wp t 305 583 [some (vR 79), some (vR 0), some (vR 53), some (vR 77), some (vR 78), some (vI i), a6, a7, a8] [] σ Q := by
  obtain ⟨⟨⟨hP, hl⟩, hPS, hlS⟩, hCI, ⟨xs, hC, hLQ⟩, hT⟩ := id h
  have n1 := hn (i + 1) (by omega) (by omega)
  have n2 := hn (i + 2) (by omega) (by omega)
  generalize hv : gI σ 79 (i + 1) = v at n1
  generalize hw : gI σ 79 (i + 2) = w at n2
  have hr := lenK_rng (kyA xs v w)
  rw [x305_583, hv, hw]
  refine ⟨by omega, by omega, by omega, ?_⟩
  rw [x285_0]
  refine ⟨by omega, c130 (by omega) hP hl hC hCI n1 n2 (fun a b σ1 g1 g2 => ?_) (fun a σ1 g1 g2 => ?_)⟩
  · simp only [x285_8, x285_17, x305_600, e79w (wM_w g2), hv, hw, aft_l, aft_r, optL_s, optL_n, xgo_n, xgo_s, List.cons_append, List.nil_append, List.append_nil, true_and, and_true, Nat.sub_zero, Nat.zero_le, true_implies, false_implies, implies_true, not_true_eq_false, not_false_eq_true, true_or, or_true]
    refine ⟨⟨by omega, by omega⟩, by omega, by omega, by omega, c224 hP hl hC (LQ_w hLQ (wM_w g2)) n1 n2 (fun c => absurd ⟨a, b⟩ c) (fun _ _ σ2 k1 k2 k3 => ?_)⟩
    simp only [aft_l, aft_r, optL_s, optL_n, xgo_n, xgo_s, List.cons_append, List.nil_append, List.append_nil, true_and, and_true, Nat.sub_zero, Nat.zero_le, true_implies, false_implies, implies_true, not_true_eq_false, not_false_eq_true, true_or, or_true]
    obtain ⟨r1, r2, r3, r4⟩ := fin_q h (CI_w g1) (wM_w g2) ⟨xs, hC, FQ_LQ k1⟩ k3
    exact KI_618 ⟨by decide, by decide⟩ ⟨by omega, by omega⟩ k2 (fun _ => by rw [r3, gL_sL, if_pos ⟨rfl, rfl⟩]) (fun b6 b7 b8 => hq _ _ _ _ _ _ _ _ _ r1 r2 (by omega))
  · simp only [show hd 285 5 3 = some (15, 4) from rfl, xgo_s, lk5, x285_15, x305_600, e79w (wM_c g2), hv, hw, aft_l, aft_r, optL_s, optL_n, xgo_n, xgo_s, List.cons_append, List.nil_append, List.append_nil, true_and, and_true, Nat.sub_zero, Nat.zero_le, true_implies, false_implies, implies_true, not_true_eq_false, not_false_eq_true, true_or, or_true]
    refine ⟨by omega, by omega, c224 hP hl hC (LQ_w hLQ (wM_c g2)) n1 n2 (fun _ σ2 k1 k2 k3 => ?_) (fun b c => absurd ⟨b, c⟩ a)⟩
    simp only [aft_l, aft_r, optL_s, optL_n, xgo_n, xgo_s, List.cons_append, List.nil_append, List.append_nil, true_and, and_true, Nat.sub_zero, Nat.zero_le, true_implies, false_implies, implies_true, not_true_eq_false, not_false_eq_true, true_or, or_true]
    obtain ⟨r1, r2, r3, r4⟩ := fin_q h g1 (wM_c g2) ⟨xs, hC, k1⟩ k3
    exact KI_618 (z := 1) ⟨by decide, by decide⟩ ⟨by decide, by decide⟩ k2 (fun k => by cases k) (fun b6 b7 b8 => hq _ _ _ _ _ _ _ _ _ r1 r2 (by omega))
end LO4
