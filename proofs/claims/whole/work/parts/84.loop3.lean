/-! the law's loop: cases 2 -/
section LO3
variable {t : Nat} {σ : St} {Q : Res → St → Prop} {P PS : Pg} {lim lS : Int} {xs ys : List Int}
theorem FN_rng (hP : okP P) (hC : isC P lim xs) (h : FQ P lim xs σ) : 0 ≤ FN P xs lim ∧ FN P xs lim ≤ 23104 := by
  have e := FN_of hP hC h.2.2.2.2.2.1
  have hb := Gc_bound (g := 62) (σ := σ) (xok_of hP hC) (fun c u k => Lf_okF hP hC c u ((h.2.2.2.2.2.1 c u).mp k))
  have hn := fpop_nn (gL σ 62)
  rw [e] at hb hn
  exact ⟨hn, hb⟩
theorem op_920 {i : Int} {a6 a7 a8 : Option AV} (h : JV P lim PS lS σ) (ht : 4 ≤ t) (hq : HQ t i σ Q) : wp t 305 920 [some (vR 79), some (vR 0), some (vR 53), some (vR 77), some (vR 78), some (vI i), a6, a7, a8] [] σ Q := by
  obtain ⟨⟨⟨hP, hl⟩, hPS, hlS⟩, hCI, ⟨xs, hC, hLQ⟩, hT⟩ := id h
  have hm := m8_rng hP
  rw [x305_920]
  refine c135 hP hl hC hCI (fun σ1 g1 g2 => ?_)
  simp only [x305_924, aft_l, aft_r, optL_s, optL_n, xgo_n, xgo_s, List.cons_append, List.nil_append, List.append_nil, true_and, and_true, Nat.sub_zero, Nat.zero_le, true_implies, false_implies, implies_true, not_true_eq_false, not_false_eq_true, true_or, or_true]
  refine c232 hP hl hC (LQ_w hLQ (wM_c g2)) (fun σ2 k1 k2 k3 => ?_)
  simp only [x305_928, aft_l, aft_r, optL_s, optL_n, xgo_n, xgo_s, List.cons_append, List.nil_append, List.append_nil, true_and, and_true, Nat.sub_zero, Nat.zero_le, true_implies, false_implies, implies_true, not_true_eq_false, not_false_eq_true, true_or, or_true]
  obtain ⟨r1, r2, r3, r4⟩ := fin_q h g1 (wM_c g2) ⟨xs, hC, FQ_LQ k1⟩ k3
  exact ⟨⟨(by have := FN_rng hP hC k1; exact ⟨by omega, by omega⟩), (by have := FN_rng hP hC k1; exact ⟨by omega, by omega⟩)⟩, hq _ _ _ _ _ _ _ _ _ r1 r2 (by omega)⟩
theorem op_1063 {i : Int} {a6 a7 a8 : Option AV} (h : JV P lim PS lS σ) (ht : 4 ≤ t) (hq : HQ t i σ Q) : wp t 305 1063 [some (vR 79), some (vR 0), some (vR 53), some (vR 77), some (vR 78), some (vI i), a6, a7, a8] [] σ Q := by
  obtain ⟨⟨⟨hP, hl⟩, hPS, hlS⟩, hCI, ⟨xs, hC, hLQ⟩, hT⟩ := id h
  have hm := m8_rng hP
  rw [x305_1063]
  refine c138 hP hl hC hCI (fun σ1 g1 g2 => ?_)
  simp only [x305_1067, aft_l, aft_r, optL_s, optL_n, xgo_n, xgo_s, List.cons_append, List.nil_append, List.append_nil, true_and, and_true, Nat.sub_zero, Nat.zero_le, true_implies, false_implies, implies_true, not_true_eq_false, not_false_eq_true, true_or, or_true]
  refine c236 hP hl hC (LQ_w hLQ (wM_c g2)) (fun σ2 k1 k2 k3 => ?_)
  simp only [x305_1071, aft_l, aft_r, optL_s, optL_n, xgo_n, xgo_s, List.cons_append, List.nil_append, List.append_nil, true_and, and_true, Nat.sub_zero, Nat.zero_le, true_implies, false_implies, implies_true, not_true_eq_false, not_false_eq_true, true_or, or_true]
  obtain ⟨r1, r2, r3, r4⟩ := fin_q h g1 (wM_c g2) ⟨xs, hC, FQ_LQ k1⟩ k3
  exact ⟨⟨(IW_inR (IW_iW _)), (IW_inR (IW_iW _))⟩, hq _ _ _ _ _ _ _ _ _ r1 r2 (by omega)⟩
theorem op_1355 {i : Int} {a6 a7 a8 : Option AV} (h : JV P lim PS lS σ) (ht : 4 ≤ t) (hq : HQ t i σ Q) : wp t 305 1355 [some (vR 79), some (vR 0), some (vR 53), some (vR 77), some (vR 78), some (vI i), a6, a7, a8] [] σ Q := by
  obtain ⟨⟨⟨hP, hl⟩, hPS, hlS⟩, hCI, ⟨xs, hC, hLQ⟩, hT⟩ := id h
  have hm := m8_rng hP
  rw [x305_1355]
  refine c144 hP hCI (fun σ1 g1 g2 => ?_)
  simp only [x305_1359, aft_l, aft_r, optL_s, optL_n, xgo_n, xgo_s, List.cons_append, List.nil_append, List.append_nil, true_and, and_true, Nat.sub_zero, Nat.zero_le, true_implies, false_implies, implies_true, not_true_eq_false, not_false_eq_true, true_or, or_true]
  refine c251 hP hl hC (LQ_w hLQ (wM_c g2)) (fun σ2 k1 k2 k3 => ?_)
  simp only [x305_1363, aft_l, aft_r, optL_s, optL_n, xgo_n, xgo_s, List.cons_append, List.nil_append, List.append_nil, true_and, and_true, Nat.sub_zero, Nat.zero_le, true_implies, false_implies, implies_true, not_true_eq_false, not_false_eq_true, true_or, or_true]
  obtain ⟨r1, r2, r3, r4⟩ := fin_q h g1 (wM_c g2) ⟨xs, hC, FQ_LQ k1⟩ k3
  exact ⟨⟨(by have := cn_rng (fun t => dcl (ugF P t)) (20 + mny P 4 (-1)).toNat; exact ⟨by omega, by omega⟩), (by have := cn_rng (fun t => dcl (ugF P t)) (20 + mny P 4 (-1)).toNat; exact ⟨by omega, by omega⟩)⟩, hq _ _ _ _ _ _ _ _ _ r1 r2 (by omega)⟩
/-- what does not change the law but its fault -/
theorem fin_0 (h : JV P lim PS lS σ) {v : Int} : JV P lim PS lS (sI σ 53 0 v) ∧ gI (sI σ 53 0 v) 79 = gI σ 79 := by
  obtain ⟨⟨⟨hP, hl⟩, hPS, hlS⟩, hCI, ⟨xs, hC, hLQ⟩, hT⟩ := id h
  obtain ⟨r1, r2, r3, r4⟩ := fin_q h hCI (wM_c fr_refl) ⟨xs, hC, LQ_fr hLQ (q0 (v := v)) qK0⟩ (fr01 (σ1 := σ) (v := v))
  exact ⟨r1, r2⟩
theorem op_320 {i : Int} {a6 a7 a8 : Option AV} (h : JV P lim PS lS σ) (ht : 4 ≤ t) (hq : HQ t i σ Q) : wp t 305 320 [some (vR 79), some (vR 0), some (vR 53), some (vR 77), some (vR 78), some (vI i), a6, a7, a8] [] σ Q := by
  obtain ⟨⟨⟨hP, hl⟩, hPS, hlS⟩, hCI, ⟨xs, hC, hLQ⟩, hTX, hF, hS, hM⟩ := id h
  have hm := m8_rng hP
  have htr := tot_rng hP.1
  have fz := fin_0 (v := 0) h
  rw [x305_320]
  refine c123 ?_
  simp only [x305_324, aft_l, aft_r, optL_s, optL_n, xgo_n, xgo_s, List.cons_append, List.nil_append, List.append_nil, true_and, and_true, Nat.sub_zero, Nat.zero_le, true_implies, false_implies, implies_true, not_true_eq_false, not_false_eq_true, true_or, or_true]
  refine c198 ?_
  simp only [x305_328, hF.1, hM.2.1.1, hM.2.2.1, aft_l, aft_r, optL_s, optL_n, xgo_n, xgo_s, List.cons_append, List.nil_append, List.append_nil, true_and, and_true, Nat.sub_zero, Nat.zero_le, true_implies, false_implies, implies_true, not_true_eq_false, not_false_eq_true, true_or, or_true]
  exact ⟨⟨(by have := hF.2; exact ⟨by omega, by omega⟩), (by have := hF.2; exact ⟨by omega, by omega⟩)⟩, hq _ _ _ _ _ _ _ _ _ fz.1 fz.2 (by omega)⟩
theorem op_333 {i : Int} {a6 a7 a8 : Option AV} (h : JV P lim PS lS σ) (ht : 4 ≤ t) (hq : HQ t i σ Q) : wp t 305 333 [some (vR 79), some (vR 0), some (vR 53), some (vR 77), some (vR 78), some (vI i), a6, a7, a8] [] σ Q := by
  obtain ⟨⟨⟨hP, hl⟩, hPS, hlS⟩, hCI, ⟨xs, hC, hLQ⟩, hTX, hF, hS, hM⟩ := id h
  have hm := m8_rng hP
  have htr := tot_rng hP.1
  have fz := fin_0 (v := 0) h
  rw [x305_333]
  refine c124 hCI ?_
  simp only [x305_337, aft_l, aft_r, optL_s, optL_n, xgo_n, xgo_s, List.cons_append, List.nil_append, List.append_nil, true_and, and_true, Nat.sub_zero, Nat.zero_le, true_implies, false_implies, implies_true, not_true_eq_false, not_false_eq_true, true_or, or_true]
  refine c199 hLQ.1 ?_
  simp only [x305_341, hF.1, hM.2.1.1, hM.2.2.1, aft_l, aft_r, optL_s, optL_n, xgo_n, xgo_s, List.cons_append, List.nil_append, List.append_nil, true_and, and_true, Nat.sub_zero, Nat.zero_le, true_implies, false_implies, implies_true, not_true_eq_false, not_false_eq_true, true_or, or_true]
  exact ⟨⟨(by exact ⟨by omega, by omega⟩), (by exact ⟨by omega, by omega⟩)⟩, hq _ _ _ _ _ _ _ _ _ fz.1 fz.2 (by omega)⟩
theorem op_458 {i : Int} {a6 a7 a8 : Option AV} (h : JV P lim PS lS σ) (ht : 4 ≤ t) (hq : HQ t i σ Q) : wp t 305 458 [some (vR 79), some (vR 0), some (vR 53), some (vR 77), some (vR 78), some (vI i), a6, a7, a8] [] σ Q := by
  obtain ⟨⟨⟨hP, hl⟩, hPS, hlS⟩, hCI, ⟨xs, hC, hLQ⟩, hTX, hF, hS, hM⟩ := id h
  have hm := m8_rng hP
  have htr := tot_rng hP.1
  have fz := fin_0 (v := 0) h
  rw [x305_458]
  refine c127 hP hCI ?_
  simp only [x305_462, aft_l, aft_r, optL_s, optL_n, xgo_n, xgo_s, List.cons_append, List.nil_append, List.append_nil, true_and, and_true, Nat.sub_zero, Nat.zero_le, true_implies, false_implies, implies_true, not_true_eq_false, not_false_eq_true, true_or, or_true]
  refine c204 hLQ.1 hP ?_
  simp only [x305_466, hF.1, hM.2.1.1, hM.2.2.1, aft_l, aft_r, optL_s, optL_n, xgo_n, xgo_s, List.cons_append, List.nil_append, List.append_nil, true_and, and_true, Nat.sub_zero, Nat.zero_le, true_implies, false_implies, implies_true, not_true_eq_false, not_false_eq_true, true_or, or_true]
  exact ⟨⟨(by exact ⟨by omega, by omega⟩), (by exact ⟨by omega, by omega⟩)⟩, hq _ _ _ _ _ _ _ _ _ fz.1 fz.2 (by omega)⟩
theorem op_1740 {i : Int} {a6 a7 a8 : Option AV} (h : JV P lim PS lS σ) (ht : 4 ≤ t) (hq : HQ t i σ Q) : wp t 305 1740 [some (vR 79), some (vR 0), some (vR 53), some (vR 77), some (vR 78), some (vI i), a6, a7, a8] [] σ Q := by
  obtain ⟨⟨⟨hP, hl⟩, hPS, hlS⟩, hCI, ⟨xs, hC, hLQ⟩, hTX, hF, hS, hM⟩ := id h
  have hm := m8_rng hP
  have htr := tot_rng hP.1
  have fz := fin_0 (v := 0) h
  rw [x305_1740]
  refine c152 ?_
  simp only [x305_1744, aft_l, aft_r, optL_s, optL_n, xgo_n, xgo_s, List.cons_append, List.nil_append, List.append_nil, true_and, and_true, Nat.sub_zero, Nat.zero_le, true_implies, false_implies, implies_true, not_true_eq_false, not_false_eq_true, true_or, or_true]
  refine c270 ?_
  simp only [x305_1748, hF.1, hM.2.1.1, hM.2.2.1, aft_l, aft_r, optL_s, optL_n, xgo_n, xgo_s, List.cons_append, List.nil_append, List.append_nil, true_and, and_true, Nat.sub_zero, Nat.zero_le, true_implies, false_implies, implies_true, not_true_eq_false, not_false_eq_true, true_or, or_true]
  exact ⟨⟨(by have := hM.2.1.2; exact ⟨by omega, by omega⟩), (by have := hM.2.1.2; exact ⟨by omega, by omega⟩)⟩, hq _ _ _ _ _ _ _ _ _ fz.1 fz.2 (by omega)⟩
theorem op_1753 {i : Int} {a6 a7 a8 : Option AV} (h : JV P lim PS lS σ) (ht : 4 ≤ t) (hq : HQ t i σ Q) : wp t 305 1753 [some (vR 79), some (vR 0), some (vR 53), some (vR 77), some (vR 78), some (vI i), a6, a7, a8] [] σ Q := by
  obtain ⟨⟨⟨hP, hl⟩, hPS, hlS⟩, hCI, ⟨xs, hC, hLQ⟩, hTX, hF, hS, hM⟩ := id h
  have hm := m8_rng hP
  have htr := tot_rng hP.1
  have fz := fin_0 (v := 0) h
  rw [x305_1753]
  refine c153 ?_
  simp only [x305_1757, aft_l, aft_r, optL_s, optL_n, xgo_n, xgo_s, List.cons_append, List.nil_append, List.append_nil, true_and, and_true, Nat.sub_zero, Nat.zero_le, true_implies, false_implies, implies_true, not_true_eq_false, not_false_eq_true, true_or, or_true]
  refine c271 ?_
  simp only [x305_1761, hF.1, hM.2.1.1, hM.2.2.1, aft_l, aft_r, optL_s, optL_n, xgo_n, xgo_s, List.cons_append, List.nil_append, List.append_nil, true_and, and_true, Nat.sub_zero, Nat.zero_le, true_implies, false_implies, implies_true, not_true_eq_false, not_false_eq_true, true_or, or_true]
  exact ⟨⟨(by have := hM.2.2.2; exact ⟨by omega, by omega⟩), (by have := hM.2.2.2; exact ⟨by omega, by omega⟩)⟩, hq _ _ _ _ _ _ _ _ _ fz.1 fz.2 (by omega)⟩
end LO3
