/-! the law's loop: cases 7 -/
section LO8
variable {t : Nat} {σ : St} {Q : Res → St → Prop} {P PS : Pg} {lim lS : Int} {xs ys : List Int}
theorem dc0 {x : UInt64} (h : n64 x) : (Op.cmpValue (FP.dcmp x x) .l).toInt = 0 := by rw [dcmp_eq h]; rfl
theorem wM_d {σ1 : St} {d : UInt64} (f : fr clq σ σ1) : fr wM σ (sD σ1 78 0 d) := fr_trans (fr_mono f (fun c j k => Or.inl k)) (fun c j hM => ⟨rfl, rfl, by
  rw [gD_sD, if_neg (fun k => hM (by rw [k.1]; exact Or.inr (Or.inr rfl)))]⟩)
theorem CI_d {σ1 : St} {d : UInt64} (h : CI P lim σ1) : CI P lim (sD σ1 78 0 d) := CI_fr h (M := fun c _ => c = 78) (fun c j hM => ⟨rfl, rfl, by rw [gD_sD, if_neg (fun k => hM k.1)]⟩) (fun c j k => by omega)
/-- precision -/
theorem op_1766 {i : Int} {a6 a7 a8 : Option AV} (h : JV P lim PS lS σ) (ht : 4 ≤ t) (hq : HQ t i σ Q) : wp t 305 1766 [some (vR 79), some (vR 0), some (vR 53), some (vR 77), some (vR 78), some (vI i), a6, a7, a8] [] σ Q := by
  obtain ⟨⟨⟨hP, hl⟩, hPS, hlS⟩, hCI, ⟨xs, hC, hLQ⟩, hT⟩ := id h
  have rA := sm_rng (ptN_rng P xs lim) 20
  have rB := sm_rng (unN_rng P) 20
  rw [x305_1766]
  refine ⟨by omega, ?_⟩
  rw [x302_0]
  refine ⟨by omega, c154 (by omega) hP hl hC hCI (fun a σ1 g1 g2 => ?_) (fun a σ1 g1 g2 => ?_)⟩
  · simp only [show hd 302 3 5 = some (11, 2) from rfl, xgo_s, lk3, x302_11, x305_1772, aft_l, aft_r, optL_s, optL_n, xgo_n, xgo_s, List.cons_append, List.nil_append, List.append_nil, true_and, and_true, Nat.sub_zero, Nat.zero_le, true_implies, false_implies, implies_true, not_true_eq_false, not_false_eq_true, true_or, or_true]
    refine c272 hP hl hC (LQ_w hLQ (wM_c g2)) (fun _ σ2 k1 k2 k3 => ?_) (fun b => absurd a b)
    simp only [x305_1778, e174, k2, x305_1784, aft_l, aft_r, optL_s, optL_n, xgo_n, xgo_s, List.cons_append, List.nil_append, List.append_nil, true_and, and_true, Nat.sub_zero, Nat.zero_le, true_implies, false_implies, implies_true, not_true_eq_false, not_false_eq_true, true_or, or_true]
    obtain ⟨r1, r2, r3, r4⟩ := fin_q h g1 (wM_c g2) ⟨xs, hC, k1⟩ k3
    refine ⟨⟨⟨by decide, by decide⟩, ⟨by decide, by decide⟩⟩, ?_⟩
    rw [x305_1791]
    refine ⟨⟨by decide, by decide⟩, fun k => (by cases k), fun _ => ?_⟩
    rw [x305_1828]
    exact hq _ _ _ _ _ _ _ _ _ r1 r2 (by omega)
  · have hn := n64_div rA.1 (by omega) (show 0 < sm (unN P) 20 by omega) (by omega)
    simp only [x302_6, x302_13, x305_1772, aft_l, aft_r, optL_s, optL_n, xgo_n, xgo_s, List.cons_append, List.nil_append, List.append_nil, true_and, and_true, Nat.sub_zero, Nat.zero_le, true_implies, false_implies, implies_true, not_true_eq_false, not_false_eq_true, true_or, or_true]
    refine ⟨by omega, c272 hP hl hC (LQ_w hLQ (wM_d g2)) (fun b => absurd b a) (fun _ σ2 k1 k2 k3 => ?_)⟩
    simp only [x305_1778, e174, k2, x305_1784, aft_l, aft_r, optL_s, optL_n, xgo_n, xgo_s, List.cons_append, List.nil_append, List.append_nil, true_and, and_true, Nat.sub_zero, Nat.zero_le, true_implies, false_implies, implies_true, not_true_eq_false, not_false_eq_true, true_or, or_true]
    obtain ⟨r1, r2, r3, r4⟩ := fin_q h (CI_d g1) (wM_d g2) ⟨xs, hC, k1⟩ k3
    refine ⟨⟨⟨by decide, by decide⟩, ⟨by decide, by decide⟩⟩, ?_⟩
    rw [x305_1791]
    refine ⟨⟨by decide, by decide⟩, fun _ => ?_, fun k => absurd rfl k⟩
    rw [x305_1796, r4, gD_sD, if_pos ⟨rfl, rfl⟩, dc0 hn]
    refine ⟨⟨by decide, by decide⟩, fun _ => ?_, fun k => absurd rfl k⟩
    rw [x305_1828]
    exact hq _ _ _ _ _ _ _ _ _ r1 r2 (by omega)
/-- averageTargets -/
theorem op_1831 {i : Int} {a6 a7 a8 : Option AV} (h : JV P lim PS lS σ) (ht : 4 ≤ t) (hq : HQ t i σ Q) : wp t 305 1831 [some (vR 79), some (vR 0), some (vR 53), some (vR 77), some (vR 78), some (vI i), a6, a7, a8] [] σ Q := by
  obtain ⟨⟨⟨hP, hl⟩, hPS, hlS⟩, hCI, ⟨xs, hC, hLQ⟩, hT⟩ := id h
  have rA := sm_rng (ptN_rng P xs lim) 20
  have rB := sm_rng (nzN_rng P xs lim) 20
  rw [x305_1831]
  refine ⟨by omega, ?_⟩
  rw [x303_0]
  refine ⟨by omega, c155 (by omega) hP hl hC hCI (fun a σ1 g1 g2 => ?_) (fun a σ1 g1 g2 => ?_)⟩
  · simp only [show hd 303 3 5 = some (12, 2) from rfl, xgo_s, lk3, x303_12, x305_1837, aft_l, aft_r, optL_s, optL_n, xgo_n, xgo_s, List.cons_append, List.nil_append, List.append_nil, true_and, and_true, Nat.sub_zero, Nat.zero_le, true_implies, false_implies, implies_true, not_true_eq_false, not_false_eq_true, true_or, or_true]
    refine c273 hP hl hC (LQ_w hLQ (wM_c g2)) (fun _ σ2 k1 k2 k3 => ?_) (fun b => absurd a b)
    simp only [x305_1843, e174, k2, x305_1849, aft_l, aft_r, optL_s, optL_n, xgo_n, xgo_s, List.cons_append, List.nil_append, List.append_nil, true_and, and_true, Nat.sub_zero, Nat.zero_le, true_implies, false_implies, implies_true, not_true_eq_false, not_false_eq_true, true_or, or_true]
    obtain ⟨r1, r2, r3, r4⟩ := fin_q h g1 (wM_c g2) ⟨xs, hC, k1⟩ k3
    refine ⟨⟨⟨by decide, by decide⟩, ⟨by decide, by decide⟩⟩, ?_⟩
    rw [x305_1856]
    refine ⟨⟨by decide, by decide⟩, fun k => (by cases k), fun _ => ?_⟩
    rw [x305_1894]
    exact hq _ _ _ _ _ _ _ _ _ r1 r2 (by omega)
  · have hn := n64_f2d (n32_div rA.1 (by omega) (show 0 < sm (nzN P xs lim) 20 by omega) (by omega))
    simp only [x303_6, x303_14, x305_1837, aft_l, aft_r, optL_s, optL_n, xgo_n, xgo_s, List.cons_append, List.nil_append, List.append_nil, true_and, and_true, Nat.sub_zero, Nat.zero_le, true_implies, false_implies, implies_true, not_true_eq_false, not_false_eq_true, true_or, or_true]
    refine ⟨hn, by omega, c273 hP hl hC (LQ_w hLQ (wM_d g2)) (fun b => absurd b a) (fun _ σ2 k1 k2 k3 => ?_)⟩
    simp only [x305_1843, e174, k2, x305_1849, aft_l, aft_r, optL_s, optL_n, xgo_n, xgo_s, List.cons_append, List.nil_append, List.append_nil, true_and, and_true, Nat.sub_zero, Nat.zero_le, true_implies, false_implies, implies_true, not_true_eq_false, not_false_eq_true, true_or, or_true]
    obtain ⟨r1, r2, r3, r4⟩ := fin_q h (CI_d g1) (wM_d g2) ⟨xs, hC, k1⟩ k3
    refine ⟨⟨⟨by decide, by decide⟩, ⟨by decide, by decide⟩⟩, ?_⟩
    rw [x305_1856]
    refine ⟨⟨by decide, by decide⟩, fun _ => ?_, fun k => absurd rfl k⟩
    rw [x305_1861, r4, gD_sD, if_pos ⟨rfl, rfl⟩, dc0 hn]
    refine ⟨hn, ⟨by decide, by decide⟩, fun _ => ?_, fun k => absurd rfl k⟩
    rw [x305_1894]
    exact hq _ _ _ _ _ _ _ _ _ r1 r2 (by omega)
end LO8
