/-! the law's loop: cases 4 -/
section LO5
variable {t : Nat} {σ : St} {Q : Res → St → Prop} {P PS : Pg} {lim lS : Int} {xs ys : List Int}
theorem bo_t : ∀ b : Bool, ¬ b2i b = 0 → b = true := by intro b h; cases b with
  | true => rfl
  | false => exact absurd rfl h
theorem WB_290 {b : Bool} {a0 a1 a2 a3 a4 : Option AV} : wp t 290 8 [a0, a1, a2, a3, a4] [vI (b2i b), vI 0, vR 77] σ Q ↔ Q (.inl (some (vI 0))) (sL σ 77 0 (if b = true then BitVec.ofNat 64 1 else BitVec.ofNat 64 0)) := by
  cases b
  · simp only [x290_8, b2i_f, x290_15, x290_16, x290_24, (show inR (0 : Int) = True from eq_true ⟨by decide, by decide⟩), Bool.false_eq_true, if_false, aft_l, aft_r, optL_s, optL_n, xgo_n, xgo_s, List.cons_append, List.nil_append, List.append_nil, true_and, and_true, Nat.sub_zero, Nat.zero_le, true_implies, false_implies, implies_true, not_true_eq_false, not_false_eq_true, true_or, or_true]
    exact ⟨fun k => k.2, fun k => ⟨by omega, k⟩⟩
  · simp only [x290_8, b2i_t, x290_11, x290_16, x290_24, (show inR (1 : Int) = True from eq_true ⟨by decide, by decide⟩), Int.reduceEq, if_true, aft_l, aft_r, optL_s, optL_n, xgo_n, xgo_s, List.cons_append, List.nil_append, List.append_nil, true_and, and_true, Nat.sub_zero, Nat.zero_le, true_implies, false_implies, implies_true, not_true_eq_false, not_false_eq_true, true_or, or_true]
    exact ⟨fun k => k.2, fun k => ⟨by omega, k⟩⟩
theorem WB_295 {b : Bool} {a0 a1 a2 a3 a4 : Option AV} : wp t 295 8 [a0, a1, a2, a3, a4] [vI (b2i b), vI 0, vR 77] σ Q ↔ Q (.inl (some (vI 0))) (sL σ 77 0 (if b = true then BitVec.ofNat 64 1 else BitVec.ofNat 64 0)) := by
  cases b
  · simp only [x295_8, b2i_f, x295_15, x295_16, x295_24, (show inR (0 : Int) = True from eq_true ⟨by decide, by decide⟩), Bool.false_eq_true, if_false, aft_l, aft_r, optL_s, optL_n, xgo_n, xgo_s, List.cons_append, List.nil_append, List.append_nil, true_and, and_true, Nat.sub_zero, Nat.zero_le, true_implies, false_implies, implies_true, not_true_eq_false, not_false_eq_true, true_or, or_true]
    exact ⟨fun k => k.2, fun k => ⟨by omega, k⟩⟩
  · simp only [x295_8, b2i_t, x295_11, x295_16, x295_24, (show inR (1 : Int) = True from eq_true ⟨by decide, by decide⟩), Int.reduceEq, if_true, aft_l, aft_r, optL_s, optL_n, xgo_n, xgo_s, List.cons_append, List.nil_append, List.append_nil, true_and, and_true, Nat.sub_zero, Nat.zero_le, true_implies, false_implies, implies_true, not_true_eq_false, not_false_eq_true, true_or, or_true]
    exact ⟨fun k => k.2, fun k => ⟨by omega, k⟩⟩
theorem WB_297 {b : Bool} {a0 a1 a2 a3 : Option AV} : wp t 297 7 [a0, a1, a2, a3] [vI (b2i b), vI 0, vR 77] σ Q ↔ Q (.inl (some (vI 0))) (sL σ 77 0 (if b = true then BitVec.ofNat 64 1 else BitVec.ofNat 64 0)) := by
  cases b
  · simp only [x297_7, b2i_f, x297_14, x297_15, x297_22, (show inR (0 : Int) = True from eq_true ⟨by decide, by decide⟩), Bool.false_eq_true, if_false, aft_l, aft_r, optL_s, optL_n, xgo_n, xgo_s, List.cons_append, List.nil_append, List.append_nil, true_and, and_true, Nat.sub_zero, Nat.zero_le, true_implies, false_implies, implies_true, not_true_eq_false, not_false_eq_true, true_or, or_true]
    exact ⟨fun k => k.2, fun k => ⟨by omega, k⟩⟩
  · simp only [x297_7, b2i_t, x297_10, x297_15, x297_22, (show inR (1 : Int) = True from eq_true ⟨by decide, by decide⟩), Int.reduceEq, if_true, aft_l, aft_r, optL_s, optL_n, xgo_n, xgo_s, List.cons_append, List.nil_append, List.append_nil, true_and, and_true, Nat.sub_zero, Nat.zero_le, true_implies, false_implies, implies_true, not_true_eq_false, not_false_eq_true, true_or, or_true]
    exact ⟨fun k => k.2, fun k => ⟨by omega, k⟩⟩
theorem WB_298 {b : Bool} {a0 a1 a2 a3 : Option AV} : wp t 298 7 [a0, a1, a2, a3] [vI (b2i b), vI 0, vR 77] σ Q ↔ Q (.inl (some (vI 0))) (sL σ 77 0 (if b = true then BitVec.ofNat 64 1 else BitVec.ofNat 64 0)) := by
  cases b
  · simp only [x298_7, b2i_f, x298_14, x298_15, x298_22, (show inR (0 : Int) = True from eq_true ⟨by decide, by decide⟩), Bool.false_eq_true, if_false, aft_l, aft_r, optL_s, optL_n, xgo_n, xgo_s, List.cons_append, List.nil_append, List.append_nil, true_and, and_true, Nat.sub_zero, Nat.zero_le, true_implies, false_implies, implies_true, not_true_eq_false, not_false_eq_true, true_or, or_true]
    exact ⟨fun k => k.2, fun k => ⟨by omega, k⟩⟩
  · simp only [x298_7, b2i_t, x298_10, x298_15, x298_22, (show inR (1 : Int) = True from eq_true ⟨by decide, by decide⟩), Int.reduceEq, if_true, aft_l, aft_r, optL_s, optL_n, xgo_n, xgo_s, List.cons_append, List.nil_append, List.append_nil, true_and, and_true, Nat.sub_zero, Nat.zero_le, true_implies, false_implies, implies_true, not_true_eq_false, not_false_eq_true, true_or, or_true]
    exact ⟨fun k => k.2, fun k => ⟨by omega, k⟩⟩
/-- mayAlias -/
theorem op_933 {i : Int} {a6 a7 a8 : Option AV} (h : JV P lim PS lS σ) (hi : 0 ≤ i) (hlen : i + 3 < gI σ 79 (-1)) (hn : ∀ j, 0 ≤ j → j < gI σ 79 (-1) → inR (gI σ 79 j)) (ht : 4 ≤ t) (hq : HQ t i σ Q) : wp t 305 933 [some (vR 79), some (vR 0), some (vR 53), some (vR 77), some (vR 78), some (vI i), a6, a7, a8] [] σ Q := by
  obtain ⟨⟨⟨hP, hl⟩, hPS, hlS⟩, hCI, ⟨xs, hC, hLQ⟩, hT⟩ := id h
  have n1 := hn (i + 1) (by omega) (by omega)
  have n2 := hn (i + 2) (by omega) (by omega)
  generalize hv : gI σ 79 (i + 1) = v at n1
  generalize hw : gI σ 79 (i + 2) = w at n2
  rw [x305_933, hv, hw]
  refine ⟨by omega, by omega, by omega, ?_⟩
  rw [x290_0]
  refine ⟨by omega, c136 (by omega) hP hl hC hCI n1 n2 (fun a b σ1 g1 g2 => ?_) (fun a => ?_)⟩
  · simp only [WB_290, x305_950, e79w (wM_w g2), hv, hw, aft_l, aft_r, optL_s, optL_n, xgo_n, xgo_s, List.cons_append, List.nil_append, List.append_nil, true_and, and_true, Nat.sub_zero, Nat.zero_le, true_implies, false_implies, implies_true, not_true_eq_false, not_false_eq_true, true_or, or_true]
    refine ⟨by omega, by omega, c233 hP hl hC (LQ_w hLQ (wM_w g2)) n1 n2 (fun c => absurd ⟨a, b⟩ c) (fun _ _ σ2 k1 k2 k3 => ?_)⟩
    simp only [aft_l, aft_r, optL_s, optL_n, xgo_n, xgo_s, List.cons_append, List.nil_append, List.append_nil, true_and, and_true, Nat.sub_zero, Nat.zero_le, true_implies, false_implies, implies_true, not_true_eq_false, not_false_eq_true, true_or, or_true]
    obtain ⟨r1, r2, r3, r4⟩ := fin_q h (CI_w g1) (wM_w g2) ⟨xs, hC, FQ_LQ k1⟩ k3
    exact KB_968 ⟨by decide, by decide⟩ k2 (fun _ => by rw [r3, gL_sL, if_pos ⟨rfl, rfl⟩]) (fun b6 b7 b8 => hq _ _ _ _ _ _ _ _ _ r1 r2 (by omega))
  · simp only [show hd 290 5 3 = some (22, 4) from rfl, xgo_s, lk5, x290_22, x305_950, hv, hw, aft_l, aft_r, optL_s, optL_n, xgo_n, xgo_s, List.cons_append, List.nil_append, List.append_nil, true_and, and_true, Nat.sub_zero, Nat.zero_le, true_implies, false_implies, implies_true, not_true_eq_false, not_false_eq_true, true_or, or_true]
    refine ⟨by omega, by omega, c233 hP hl hC hLQ n1 n2 (fun _ => ?_) (fun b c => absurd ⟨b, c⟩ a)⟩
    simp only [aft_l, aft_r, optL_s, optL_n, xgo_n, xgo_s, List.cons_append, List.nil_append, List.append_nil, true_and, and_true, Nat.sub_zero, Nat.zero_le, true_implies, false_implies, implies_true, not_true_eq_false, not_false_eq_true, true_or, or_true]
    obtain ⟨r1, r2, r3, r4⟩ := fin_q h hCI (wM_c fr_refl) ⟨xs, hC, LQ_fr hLQ (q0 (v := 1)) qK0⟩ (fr01 (σ1 := σ) (v := 1))
    exact KB_968 (b := false) (z := 1) ⟨by decide, by decide⟩ (by rw [gI_sI, if_pos ⟨rfl, rfl⟩]) (fun k => by cases k) (fun b6 b7 b8 => hq _ _ _ _ _ _ _ _ _ r1 r2 (by omega))
theorem op_1280 {i : Int} {a6 a7 a8 : Option AV} (h : JV P lim PS lS σ) (hi : 0 ≤ i) (hlen : i + 3 < gI σ 79 (-1)) (hn : ∀ j, 0 ≤ j → j < gI σ 79 (-1) → inR (gI σ 79 j)) (ht : 4 ≤ t) (hq : HQ t i σ Q) : wp t 305 1280 [some (vR 79), some (vR 0), some (vR 53), some (vR 77), some (vR 78), some (vI i), a6, a7, a8] [] σ Q := by
  obtain ⟨⟨⟨hP, hl⟩, hPS, hlS⟩, hCI, ⟨xs, hC, hLQ⟩, hT⟩ := id h
  have n1 := hn (i + 1) (by omega) (by omega)
  have n2 := hn (i + 2) (by omega) (by omega)
  generalize hv : gI σ 79 (i + 1) = v at n1
  generalize hw : gI σ 79 (i + 2) = w at n2
  rw [x305_1280, hv, hw]
  refine ⟨by omega, by omega, by omega, ?_⟩
  rw [x295_0]
  refine ⟨by omega, c143 (by omega) hP hCI n1 n2 (fun a b σ1 g1 g2 => ?_) (fun a => ?_)⟩
  · simp only [WB_295, x305_1297, e79w (wM_w g2), hv, hw, aft_l, aft_r, optL_s, optL_n, xgo_n, xgo_s, List.cons_append, List.nil_append, List.append_nil, true_and, and_true, Nat.sub_zero, Nat.zero_le, true_implies, false_implies, implies_true, not_true_eq_false, not_false_eq_true, true_or, or_true]
    refine ⟨by omega, by omega, c250 hP hl hC (LQ_w hLQ (wM_w g2)) n1 n2 (fun c => absurd ⟨a, b⟩ c) (fun _ _ σ2 k1 k2 k3 => ?_)⟩
    simp only [aft_l, aft_r, optL_s, optL_n, xgo_n, xgo_s, List.cons_append, List.nil_append, List.append_nil, true_and, and_true, Nat.sub_zero, Nat.zero_le, true_implies, false_implies, implies_true, not_true_eq_false, not_false_eq_true, true_or, or_true]
    obtain ⟨r1, r2, r3, r4⟩ := fin_q h (CI_w g1) (wM_w g2) ⟨xs, hC, FQ_LQ k1⟩ k3
    exact KB_1315 ⟨by decide, by decide⟩ k2 (fun _ => by rw [r3, gL_sL, if_pos ⟨rfl, rfl⟩]) (fun b6 b7 b8 => hq _ _ _ _ _ _ _ _ _ r1 r2 (by omega))
  · simp only [show hd 295 5 3 = some (22, 4) from rfl, xgo_s, lk5, x295_22, x305_1297, hv, hw, aft_l, aft_r, optL_s, optL_n, xgo_n, xgo_s, List.cons_append, List.nil_append, List.append_nil, true_and, and_true, Nat.sub_zero, Nat.zero_le, true_implies, false_implies, implies_true, not_true_eq_false, not_false_eq_true, true_or, or_true]
    refine ⟨by omega, by omega, c250 hP hl hC hLQ n1 n2 (fun _ => ?_) (fun b c => absurd ⟨b, c⟩ a)⟩
    simp only [aft_l, aft_r, optL_s, optL_n, xgo_n, xgo_s, List.cons_append, List.nil_append, List.append_nil, true_and, and_true, Nat.sub_zero, Nat.zero_le, true_implies, false_implies, implies_true, not_true_eq_false, not_false_eq_true, true_or, or_true]
    obtain ⟨r1, r2, r3, r4⟩ := fin_q h hCI (wM_c fr_refl) ⟨xs, hC, LQ_fr hLQ (q0 (v := 1)) qK0⟩ (fr01 (σ1 := σ) (v := 1))
    exact KB_1315 (b := false) (z := 1) ⟨by decide, by decide⟩ (by rw [gI_sI, if_pos ⟨rfl, rfl⟩]) (fun k => by cases k) (fun b6 b7 b8 => hq _ _ _ _ _ _ _ _ _ r1 r2 (by omega))
/-- isReachable -/
theorem op_1423 {i : Int} {a6 a7 a8 : Option AV} (h : JV P lim PS lS σ) (hi : 0 ≤ i) (hlen : i + 3 < gI σ 79 (-1)) (hn : ∀ j, 0 ≤ j → j < gI σ 79 (-1) → inR (gI σ 79 j)) (ht : 4 ≤ t) (hq : HQ t i σ Q) : wp t 305 1423 [some (vR 79), some (vR 0), some (vR 53), some (vR 77), some (vR 78), some (vI i), a6, a7, a8] [] σ Q := by
  obtain ⟨⟨⟨hP, hl⟩, hPS, hlS⟩, hCI, ⟨xs, hC, hLQ⟩, hT⟩ := id h
  have n1 := hn (i + 1) (by omega) (by omega)
  generalize hv : gI σ 79 (i + 1) = v at n1
  rw [x305_1423, hv]
  refine ⟨by omega, by omega, ?_⟩
  rw [x297_0]
  refine ⟨by omega, c146 (by omega) hP hl hC hCI n1 (fun a σ1 g1 g2 => ?_) (fun a => ?_)⟩
  · simp only [WB_297, x305_1434, e79w (wM_w g2), hv, aft_l, aft_r, optL_s, optL_n, xgo_n, xgo_s, List.cons_append, List.nil_append, List.append_nil, true_and, and_true, Nat.sub_zero, Nat.zero_le, true_implies, false_implies, implies_true, not_true_eq_false, not_false_eq_true, true_or, or_true]
    refine ⟨by omega, c254 hP hl hC (LQ_w hLQ (wM_w g2)) n1 (fun c => absurd a c) (fun _ σ2 k1 k2 k3 => ?_)⟩
    simp only [aft_l, aft_r, optL_s, optL_n, xgo_n, xgo_s, List.cons_append, List.nil_append, List.append_nil, true_and, and_true, Nat.sub_zero, Nat.zero_le, true_implies, false_implies, implies_true, not_true_eq_false, not_false_eq_true, true_or, or_true]
    obtain ⟨r1, r2, r3, r4⟩ := fin_q h (CI_w g1) (wM_w g2) ⟨xs, hC, FQ_LQ k1⟩ k3
    exact KB_1446 ⟨by decide, by decide⟩ k2 (fun _ => by rw [r3, gL_sL, if_pos ⟨rfl, rfl⟩]) (fun b6 b7 b8 => hq _ _ _ _ _ _ _ _ _ r1 r2 (by omega))
  · simp only [show hd 297 4 3 = some (20, 3) from rfl, xgo_s, lk4, x297_20, x305_1434, hv, aft_l, aft_r, optL_s, optL_n, xgo_n, xgo_s, List.cons_append, List.nil_append, List.append_nil, true_and, and_true, Nat.sub_zero, Nat.zero_le, true_implies, false_implies, implies_true, not_true_eq_false, not_false_eq_true, true_or, or_true]
    refine ⟨by omega, c254 hP hl hC hLQ n1 (fun _ => ?_) (fun b => absurd b a)⟩
    simp only [aft_l, aft_r, optL_s, optL_n, xgo_n, xgo_s, List.cons_append, List.nil_append, List.append_nil, true_and, and_true, Nat.sub_zero, Nat.zero_le, true_implies, false_implies, implies_true, not_true_eq_false, not_false_eq_true, true_or, or_true]
    obtain ⟨r1, r2, r3, r4⟩ := fin_q h hCI (wM_c fr_refl) ⟨xs, hC, LQ_fr hLQ (q0 (v := 1)) qK0⟩ (fr01 (σ1 := σ) (v := 1))
    exact KB_1446 (b := false) (z := 1) ⟨by decide, by decide⟩ (by rw [gI_sI, if_pos ⟨rfl, rfl⟩]) (fun k => by cases k) (fun b6 b7 b8 => hq _ _ _ _ _ _ _ _ _ r1 r2 (by omega))
/-- isRecursive -/
theorem op_1486 {i : Int} {a6 a7 a8 : Option AV} (h : JV P lim PS lS σ) (hi : 0 ≤ i) (hlen : i + 3 < gI σ 79 (-1)) (hn : ∀ j, 0 ≤ j → j < gI σ 79 (-1) → inR (gI σ 79 j)) (ht : 4 ≤ t) (hq : HQ t i σ Q) : wp t 305 1486 [some (vR 79), some (vR 0), some (vR 53), some (vR 77), some (vR 78), some (vI i), a6, a7, a8] [] σ Q := by
  obtain ⟨⟨⟨hP, hl⟩, hPS, hlS⟩, hCI, ⟨xs, hC, hLQ⟩, hT⟩ := id h
  have n1 := hn (i + 1) (by omega) (by omega)
  generalize hv : gI σ 79 (i + 1) = v at n1
  rw [x305_1486, hv]
  refine ⟨by omega, by omega, ?_⟩
  rw [x298_0]
  refine ⟨by omega, c147 (by omega) hP hCI n1 (fun a σ1 g1 g2 => ?_) (fun a => ?_)⟩
  · simp only [WB_298, x305_1497, e79w (wM_w g2), hv, aft_l, aft_r, optL_s, optL_n, xgo_n, xgo_s, List.cons_append, List.nil_append, List.append_nil, true_and, and_true, Nat.sub_zero, Nat.zero_le, true_implies, false_implies, implies_true, not_true_eq_false, not_false_eq_true, true_or, or_true]
    refine ⟨by omega, c255 hP (LQ_w hLQ (wM_w g2)).1 n1 (fun c => absurd a c) (fun _ => ?_)⟩
    simp only [aft_l, aft_r, optL_s, optL_n, xgo_n, xgo_s, List.cons_append, List.nil_append, List.append_nil, true_and, and_true, Nat.sub_zero, Nat.zero_le, true_implies, false_implies, implies_true, not_true_eq_false, not_false_eq_true, true_or, or_true]
    obtain ⟨r1, r2, r3, r4⟩ := fin_q h (CI_w g1) (wM_w g2) ⟨xs, hC, LQ_fr (LQ_w hLQ (wM_w g2)) (q0 (v := 0)) qK0⟩ (fr01 (v := 0))
    exact KB_1509 (z := 0) ⟨by decide, by decide⟩ (by rw [gI_sI, if_pos ⟨rfl, rfl⟩]) (fun _ => by rw [r3, gL_sL, if_pos ⟨rfl, rfl⟩]) (fun b6 b7 b8 => hq _ _ _ _ _ _ _ _ _ r1 r2 (by omega))
  · simp only [show hd 298 4 3 = some (20, 3) from rfl, xgo_s, lk4, x298_20, x305_1497, hv, aft_l, aft_r, optL_s, optL_n, xgo_n, xgo_s, List.cons_append, List.nil_append, List.append_nil, true_and, and_true, Nat.sub_zero, Nat.zero_le, true_implies, false_implies, implies_true, not_true_eq_false, not_false_eq_true, true_or, or_true]
    refine ⟨by omega, c255 hP hLQ.1 n1 (fun _ => ?_) (fun b => absurd b a)⟩
    simp only [aft_l, aft_r, optL_s, optL_n, xgo_n, xgo_s, List.cons_append, List.nil_append, List.append_nil, true_and, and_true, Nat.sub_zero, Nat.zero_le, true_implies, false_implies, implies_true, not_true_eq_false, not_false_eq_true, true_or, or_true]
    obtain ⟨r1, r2, r3, r4⟩ := fin_q h hCI (wM_c fr_refl) ⟨xs, hC, LQ_fr hLQ (q0 (v := 1)) qK0⟩ (fr01 (σ1 := σ) (v := 1))
    exact KB_1509 (b := false) (z := 1) ⟨by decide, by decide⟩ (by rw [gI_sI, if_pos ⟨rfl, rfl⟩]) (fun k => by cases k) (fun b6 b7 b8 => hq _ _ _ _ _ _ _ _ _ r1 r2 (by omega))
/-- cycleOf -/
theorem op_1549 {i : Int} {a6 a7 a8 : Option AV} (h : JV P lim PS lS σ) (hi : 0 ≤ i) (hlen : i + 3 < gI σ 79 (-1)) (hn : ∀ j, 0 ≤ j → j < gI σ 79 (-1) → inR (gI σ 79 j)) (ht : 4 ≤ t) (hq : HQ t i σ Q) : wp t 305 1549 [some (vR 79), some (vR 0), some (vR 53), some (vR 77), some (vR 78), some (vI i), a6, a7, a8] [] σ Q := by
  obtain ⟨⟨⟨hP, hl⟩, hPS, hlS⟩, hCI, ⟨xs, hC, hLQ⟩, hT⟩ := id h
  have n1 := hn (i + 1) (by omega) (by omega)
  generalize hv : gI σ 79 (i + 1) = v at n1
  rw [x305_1549, hv]
  refine ⟨by omega, by omega, ?_⟩
  rw [x299_0]
  refine ⟨by omega, c148 (by omega) hP hCI n1 (fun a σ1 g1 g2 => ?_) (fun a => ?_)⟩
  · have hir := IW_inR (IW_iW (cyS P v))
    simp only [x299_7, x299_15, x305_1560, e79w (wM_w g2), hv, aft_l, aft_r, optL_s, optL_n, xgo_n, xgo_s, List.cons_append, List.nil_append, List.append_nil, true_and, and_true, Nat.sub_zero, Nat.zero_le, true_implies, false_implies, implies_true, not_true_eq_false, not_false_eq_true, true_or, or_true]
    refine ⟨hir, by omega, by omega, c258 hP (LQ_w hLQ (wM_w g2)).1 n1 (fun c => absurd a c) (fun _ => ?_)⟩
    simp only [aft_l, aft_r, optL_s, optL_n, xgo_n, xgo_s, List.cons_append, List.nil_append, List.append_nil, true_and, and_true, Nat.sub_zero, Nat.zero_le, true_implies, false_implies, implies_true, not_true_eq_false, not_false_eq_true, true_or, or_true]
    obtain ⟨r1, r2, r3, r4⟩ := fin_q h (CI_w g1) (wM_w g2) ⟨xs, hC, LQ_fr (LQ_w hLQ (wM_w g2)) (q0 (v := 0)) qK0⟩ (fr01 (v := 0))
    exact KI_1572 (z := 0) ⟨by decide, by decide⟩ hir (by rw [gI_sI, if_pos ⟨rfl, rfl⟩]) (fun _ => by rw [r3, gL_sL, if_pos ⟨rfl, rfl⟩]) (fun b6 b7 b8 => hq _ _ _ _ _ _ _ _ _ r1 r2 (by omega))
  · simp only [show hd 299 4 3 = some (13, 3) from rfl, xgo_s, lk4, x299_13, x305_1560, hv, aft_l, aft_r, optL_s, optL_n, xgo_n, xgo_s, List.cons_append, List.nil_append, List.append_nil, true_and, and_true, Nat.sub_zero, Nat.zero_le, true_implies, false_implies, implies_true, not_true_eq_false, not_false_eq_true, true_or, or_true]
    refine ⟨by omega, c258 hP hLQ.1 n1 (fun _ => ?_) (fun b => absurd b a)⟩
    simp only [aft_l, aft_r, optL_s, optL_n, xgo_n, xgo_s, List.cons_append, List.nil_append, List.append_nil, true_and, and_true, Nat.sub_zero, Nat.zero_le, true_implies, false_implies, implies_true, not_true_eq_false, not_false_eq_true, true_or, or_true]
    obtain ⟨r1, r2, r3, r4⟩ := fin_q h hCI (wM_c fr_refl) ⟨xs, hC, LQ_fr hLQ (q0 (v := 1)) qK0⟩ (fr01 (σ1 := σ) (v := 1))
    exact KI_1572 (z := 1) ⟨by decide, by decide⟩ ⟨by decide, by decide⟩ (by rw [gI_sI, if_pos ⟨rfl, rfl⟩]) (fun k => by cases k) (fun b6 b7 b8 => hq _ _ _ _ _ _ _ _ _ r1 r2 (by omega))
end LO5
