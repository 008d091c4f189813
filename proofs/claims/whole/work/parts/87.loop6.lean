/-! the law's loop: cases 5 -/
noncomputable def FG (A : Fa) : Int → BitVec 64 := fun k => wS (fun t => A (k / 3) (64 * (k % 3) + t))
theorem FG_bt {A : Fa} {c u : Int} (_ : 0 ≤ c) (u0 : 0 ≤ u) (u1 : u < 192) : bt (FG A) c u = true ↔ A c u := by
  unfold bt FG
  rw [SW_wS _ (u % 64).toNat (by omega), show (3 * c + u / 64) / 3 = c by omega, show 64 * ((3 * c + u / 64) % 3) + (((u % 64).toNat : Nat) : Int) = u by omega]
theorem FG_lt {A B : Fa} (h : ∀ c u, A c u → B c u) {c u : Int} (hr : (0 ≤ c ∧ c < 152) ∧ (0 ≤ u ∧ u < 152)) (hb : B c u) (ha : ¬ A c u) : fpop (FG A) < fpop (FG B) := by
  have hle : ∀ c u, 0 ≤ c → c < 152 → 0 ≤ u → u < 192 → bt (FG A) c u = true → bt (FG B) c u = true := fun c u c0 c1 u0 u1 k => (FG_bt c0 u0 u1).mpr (h c u ((FG_bt c0 u0 u1).mp k))
  apply Classical.byContradiction
  intro hno
  have e := fpop_eq hle (by omega) (k := 3 * c + u / 64) (by omega) (by omega)
  have k1 := (FG_bt (A := B) hr.1.1 hr.2.1 (show u < 192 by omega)).mpr hb
  unfold bt at k1
  rw [← e] at k1
  exact ha ((FG_bt (A := A) hr.1.1 hr.2.1 (show u < 192 by omega)).mp k1)
theorem Gr_bd {P : Pg} (hP : okP P) {xs : List Int} {lim : Int} (hC : isC P lim xs) : ∀ j : Nat, (∀ i, i < j → ∃ c u, Gr P xs lim (i + 1) c u ∧ ¬ Gr P xs lim i c u) → (j : Int) ≤ fpop (FG (Gr P xs lim j))
  | 0, _ => fpop_nn _
  | j + 1, h => by
    have ih := Gr_bd hP hC j (fun i hi => h i (by omega))
    obtain ⟨c, u, k1, k2⟩ := h j (by omega)
    have hx := xok_of hP hC
    have hok := Gr_ok hP hC (j + 1) c u k1
    have := FG_lt (A := Gr P xs lim j) (B := Gr P xs lim (j + 1)) (fun c u k => Gr_le (by omega) k) ⟨vld_152 hx hok.1, vld_152 hx hok.2⟩ k1 k2
    omega
theorem Gr_tp {P : Pg} (hP : okP P) {xs : List Int} {lim : Int} (hC : isC P lim xs) (j : Nat) : fpop (FG (Gr P xs lim j)) ≤ 23104 := fpop_bound (fun c u c0 c1 u0 u1 k => (vld_152 (xok_of hP hC) (Gr_ok hP hC j c u ((FG_bt c0 u0 u1).mp k)).2).2)
theorem RDn_rng {P : Pg} (hP : okP P) {xs : List Int} {lim r : Int} (hC : isC P lim xs) (h : RDn P xs lim r) : 0 ≤ r ∧ r ≤ 23104 := by
  obtain ⟨j, e, _, h2⟩ := h
  have := Gr_bd hP hC j h2
  have := Gr_tp hP hC j
  omega
theorem Gr_fix {P : Pg} {xs : List Int} {lim : Int} {i : Nat} (h : ∀ c u, Gr P xs lim (i + 1) c u → Gr P xs lim i c u) : ∀ k, i ≤ k → ∀ c u, Gr P xs lim (k + 1) c u → Gr P xs lim k c u := by
  intro k hk
  induction hk with
  | refl => exact h
  | step _ ih =>
    intro c u g
    rename_i k' _
    have e : Gr P xs lim (k' + 1) = Gr P xs lim k' := funext fun c => funext fun u => propext ⟨ih c u, fun g => Gr_le (by omega) g⟩
    show Gr P xs lim (k' + 1) c u
    rcases g with g | ⟨i, n, g1, g2⟩
    · exact g
    · rw [e] at g2; exact Or.inr ⟨i, n, g1, g2⟩
theorem RKp_rng {P : Pg} (hP : okP P) {xs : List Int} {lim a b r s : Int} (hC : isC P lim xs) (h : RKp P xs lim a b r s) : (1 ≤ r ∧ r ≤ 23105) ∧ (0 ≤ s ∧ s < 48) := by
  obtain ⟨j, i, e, h1, h2, h3⟩ := h
  have ht := tot_rng hP.1
  have hnew : ∃ c u, Gr P xs lim (j + 1) c u ∧ ¬ Gr P xs lim j c u := by
    obtain ⟨c, u, k1, k2⟩ := h3
    refine ⟨c, u, GB_Gr k1, fun k => h2 ⟨c, u, Or.inl k, k2⟩⟩
  have hall : ∀ i, i < j → ∃ c u, Gr P xs lim (i + 1) c u ∧ ¬ Gr P xs lim i c u := fun i hi => by
    apply Classical.byContradiction
    intro hno
    obtain ⟨c, u, k1, k2⟩ := hnew
    exact k2 (Gr_fix (i := i) (fun c u k => Classical.byContradiction (fun k' => hno ⟨c, u, k, k'⟩)) j (by omega) c u k1)
  have k1 := Gr_bd hP hC j hall
  have k2 := Gr_tp hP hC j
  have hs := h1.2.1
  omega
section LO6
variable {t : Nat} {σ : St} {Q : Res → St → Prop} {P PS : Pg} {lim lS : Int} {xs ys : List Int}
/-- roundCount -/
theorem op_1212 {i : Int} {a6 a7 a8 : Option AV} (h : JV P lim PS lS σ) (ht : 4 ≤ t) (hq : HQ t i σ Q) : wp t 305 1212 [some (vR 79), some (vR 0), some (vR 53), some (vR 77), some (vR 78), some (vI i), a6, a7, a8] [] σ Q := by
  obtain ⟨⟨⟨hP, hl⟩, hPS, hlS⟩, hCI, ⟨xs, hC, hLQ⟩, hT⟩ := id h
  obtain ⟨ys, hY⟩ := isC_ex hP 0
  rw [x305_1212]
  refine c141 hP hY hCI (fun σ1 r g0 g1 g2 => ?_)
  simp only [x305_1216, aft_l, aft_r, optL_s, optL_n, xgo_n, xgo_s, List.cons_append, List.nil_append, List.append_nil, true_and, and_true, Nat.sub_zero, Nat.zero_le, true_implies, false_implies, implies_true, not_true_eq_false, not_false_eq_true, true_or, or_true]
  refine c241 hP hl hC hY (LQ_w hLQ (wM_c g2)) (fun σ2 r' k0 k1 k2 k3 => ?_)
  rw [RDn_uniq k0 g0]
  have hr := RDn_rng hP hY g0
  simp only [x305_1220, aft_l, aft_r, optL_s, optL_n, xgo_n, xgo_s, List.cons_append, List.nil_append, List.append_nil, true_and, and_true, Nat.sub_zero, Nat.zero_le, true_implies, false_implies, implies_true, not_true_eq_false, not_false_eq_true, true_or, or_true]
  obtain ⟨r1, r2, r3, r4⟩ := fin_q h g1 (wM_c g2) ⟨xs, hC, FQ_LQ k1⟩ k3
  exact ⟨⟨⟨by omega, by omega⟩, ⟨by omega, by omega⟩⟩, hq _ _ _ _ _ _ _ _ _ r1 r2 (by omega)⟩
theorem op_1076 {i : Int} {a6 a7 a8 : Option AV} (h : JV P lim PS lS σ) (hi : 0 ≤ i) (hlen : i + 3 < gI σ 79 (-1)) (hn : ∀ j, 0 ≤ j → j < gI σ 79 (-1) → inR (gI σ 79 j)) (ht : 4 ≤ t) (hq : HQ t i σ Q) : wp t 305 1076 [some (vR 79), some (vR 0), some (vR 53), some (vR 77), some (vR 78), some (vI i), a6, a7, a8] [] σ Q := by
  obtain ⟨⟨⟨hP, hl⟩, hPS, hlS⟩, hCI, ⟨xs, hC, hLQ⟩, hT⟩ := id h
  obtain ⟨ys, hY⟩ := isC_ex hP 0
  have n1 := hn (i + 1) (by omega) (by omega)
  have n2 := hn (i + 2) (by omega) (by omega)
  generalize hv : gI σ 79 (i + 1) = v at n1
  generalize hw : gI σ 79 (i + 2) = w at n2
  rw [x305_1076, hv, hw]
  refine ⟨by omega, by omega, by omega, ?_⟩
  rw [x292_0]
  refine ⟨by omega, c139 (by omega) hP hY hCI n1 n2 (fun a σ1 g1 g2 => ?_) (fun a b σ1 g1 g2 => ?_) (fun a b σ1 g1 g0 g2 => ?_)⟩
  · simp only [show hd 292 5 3 = some (15, 4) from rfl, xgo_s, lk5, x292_15, x305_1093, e79w (wM_c g2), hv, hw, aft_l, aft_r, optL_s, optL_n, xgo_n, xgo_s, List.cons_append, List.nil_append, List.append_nil, true_and, and_true, Nat.sub_zero, Nat.zero_le, true_implies, false_implies, implies_true, not_true_eq_false, not_false_eq_true, true_or, or_true]
    refine ⟨by omega, by omega, c239 hP hl hC hY (LQ_w hLQ (wM_c g2)) n1 n2 (fun _ => ?_) (fun b _ => absurd b a) (fun b _ => absurd b a)⟩
    simp only [aft_l, aft_r, optL_s, optL_n, xgo_n, xgo_s, List.cons_append, List.nil_append, List.append_nil, true_and, and_true, Nat.sub_zero, Nat.zero_le, true_implies, false_implies, implies_true, not_true_eq_false, not_false_eq_true, true_or, or_true]
    obtain ⟨r1, r2, r3, r4⟩ := fin_q h g1 (wM_c g2) ⟨xs, hC, LQ_fr (LQ_w hLQ (wM_c g2)) (q0 (v := 1)) qK0⟩ (fr01 (v := 1))
    exact KI_1111 (z := 1) ⟨by decide, by decide⟩ ⟨by decide, by decide⟩ (by rw [gI_sI, if_pos ⟨rfl, rfl⟩]) (fun k => by cases k) (fun b6 b7 b8 => hq _ _ _ _ _ _ _ _ _ r1 r2 (by omega))
  · simp only [show hd 292 5 4 = some (19, 4) from rfl, xgo_s, lk5, x292_19, x305_1093, e79w (wM_c g2), hv, hw, aft_l, aft_r, optL_s, optL_n, xgo_n, xgo_s, List.cons_append, List.nil_append, List.append_nil, true_and, and_true, Nat.sub_zero, Nat.zero_le, true_implies, false_implies, implies_true, not_true_eq_false, not_false_eq_true, true_or, or_true]
    refine ⟨by omega, by omega, c239 hP hl hC hY (LQ_w hLQ (wM_c g2)) n1 n2 (fun c => absurd a c) (fun _ _ σ2 k1 k2 k3 => ?_) (fun _ c => absurd c b)⟩
    simp only [aft_l, aft_r, optL_s, optL_n, xgo_n, xgo_s, List.cons_append, List.nil_append, List.append_nil, true_and, and_true, Nat.sub_zero, Nat.zero_le, true_implies, false_implies, implies_true, not_true_eq_false, not_false_eq_true, true_or, or_true]
    obtain ⟨r1, r2, r3, r4⟩ := fin_q h g1 (wM_c g2) ⟨xs, hC, FQ_LQ k1⟩ k3
    exact KI_1111 (z := 2) ⟨by decide, by decide⟩ ⟨by decide, by decide⟩ k2 (fun k => by cases k) (fun b6 b7 b8 => hq _ _ _ _ _ _ _ _ _ r1 r2 (by omega))
  · have hr := RKp_rng hP hY g0
    simp only [x292_8, x292_21, x305_1093, e79w (wM_w g2), hv, hw, aft_l, aft_r, optL_s, optL_n, xgo_n, xgo_s, List.cons_append, List.nil_append, List.append_nil, true_and, and_true, Nat.sub_zero, Nat.zero_le, true_implies, false_implies, implies_true, not_true_eq_false, not_false_eq_true, true_or, or_true]
    refine ⟨⟨by omega, by omega⟩, by omega, by omega, by omega, c239 hP hl hC hY (LQ_w hLQ (wM_w g2)) n1 n2 (fun c => absurd a c) (fun _ c => absurd b c) (fun _ _ σ2 k0 k1 k2 k3 => ?_)⟩
    have eu := RKp_uniq g0 k0
    simp only [aft_l, aft_r, optL_s, optL_n, xgo_n, xgo_s, List.cons_append, List.nil_append, List.append_nil, true_and, and_true, Nat.sub_zero, Nat.zero_le, true_implies, false_implies, implies_true, not_true_eq_false, not_false_eq_true, true_or, or_true]
    obtain ⟨r1, r2, r3, r4⟩ := fin_q h (CI_w g1) (wM_w g2) ⟨xs, hC, FQ_LQ k1⟩ k3
    rw [← eu.1]
    exact KI_1111 (z := 0) ⟨by decide, by decide⟩ ⟨by omega, by omega⟩ k2 (fun _ => by rw [r3, gL_sL, if_pos ⟨rfl, rfl⟩]) (fun b6 b7 b8 => hq _ _ _ _ _ _ _ _ _ r1 r2 (by omega))
theorem op_1144 {i : Int} {a6 a7 a8 : Option AV} (h : JV P lim PS lS σ) (hi : 0 ≤ i) (hlen : i + 3 < gI σ 79 (-1)) (hn : ∀ j, 0 ≤ j → j < gI σ 79 (-1) → inR (gI σ 79 j)) (ht : 4 ≤ t) (hq : HQ t i σ Q) : wp t 305 1144 [some (vR 79), some (vR 0), some (vR 53), some (vR 77), some (vR 78), some (vI i), a6, a7, a8] [] σ Q := by
  obtain ⟨⟨⟨hP, hl⟩, hPS, hlS⟩, hCI, ⟨xs, hC, hLQ⟩, hT⟩ := id h
  obtain ⟨ys, hY⟩ := isC_ex hP 0
  have n1 := hn (i + 1) (by omega) (by omega)
  have n2 := hn (i + 2) (by omega) (by omega)
  generalize hv : gI σ 79 (i + 1) = v at n1
  generalize hw : gI σ 79 (i + 2) = w at n2
  rw [x305_1144, hv, hw]
  refine ⟨by omega, by omega, by omega, ?_⟩
  rw [x293_0]
  refine ⟨by omega, c140 (by omega) hP hY hCI n1 n2 (fun a σ1 g1 g2 => ?_) (fun a b σ1 g1 g2 => ?_) (fun a b σ1 g1 g0 g2 => ?_)⟩
  · simp only [show hd 293 5 3 = some (15, 4) from rfl, xgo_s, lk5, x293_15, x305_1161, e79w (wM_c g2), hv, hw, aft_l, aft_r, optL_s, optL_n, xgo_n, xgo_s, List.cons_append, List.nil_append, List.append_nil, true_and, and_true, Nat.sub_zero, Nat.zero_le, true_implies, false_implies, implies_true, not_true_eq_false, not_false_eq_true, true_or, or_true]
    refine ⟨by omega, by omega, c240 hP hl hC hY (LQ_w hLQ (wM_c g2)) n1 n2 (fun _ => ?_) (fun b _ => absurd b a) (fun b _ => absurd b a)⟩
    simp only [aft_l, aft_r, optL_s, optL_n, xgo_n, xgo_s, List.cons_append, List.nil_append, List.append_nil, true_and, and_true, Nat.sub_zero, Nat.zero_le, true_implies, false_implies, implies_true, not_true_eq_false, not_false_eq_true, true_or, or_true]
    obtain ⟨r1, r2, r3, r4⟩ := fin_q h g1 (wM_c g2) ⟨xs, hC, LQ_fr (LQ_w hLQ (wM_c g2)) (q0 (v := 1)) qK0⟩ (fr01 (v := 1))
    exact KI_1179 (z := 1) ⟨by decide, by decide⟩ ⟨by decide, by decide⟩ (by rw [gI_sI, if_pos ⟨rfl, rfl⟩]) (fun k => by cases k) (fun b6 b7 b8 => hq _ _ _ _ _ _ _ _ _ r1 r2 (by omega))
  · simp only [show hd 293 5 4 = some (19, 4) from rfl, xgo_s, lk5, x293_19, x305_1161, e79w (wM_c g2), hv, hw, aft_l, aft_r, optL_s, optL_n, xgo_n, xgo_s, List.cons_append, List.nil_append, List.append_nil, true_and, and_true, Nat.sub_zero, Nat.zero_le, true_implies, false_implies, implies_true, not_true_eq_false, not_false_eq_true, true_or, or_true]
    refine ⟨by omega, by omega, c240 hP hl hC hY (LQ_w hLQ (wM_c g2)) n1 n2 (fun c => absurd a c) (fun _ _ σ2 k1 k2 k3 => ?_) (fun _ c => absurd c b)⟩
    simp only [aft_l, aft_r, optL_s, optL_n, xgo_n, xgo_s, List.cons_append, List.nil_append, List.append_nil, true_and, and_true, Nat.sub_zero, Nat.zero_le, true_implies, false_implies, implies_true, not_true_eq_false, not_false_eq_true, true_or, or_true]
    obtain ⟨r1, r2, r3, r4⟩ := fin_q h g1 (wM_c g2) ⟨xs, hC, FQ_LQ k1⟩ k3
    exact KI_1179 (z := 2) ⟨by decide, by decide⟩ ⟨by decide, by decide⟩ k2 (fun k => by cases k) (fun b6 b7 b8 => hq _ _ _ _ _ _ _ _ _ r1 r2 (by omega))
  · have hr := RKp_rng hP hY g0
    simp only [x293_8, x293_21, x305_1161, e79w (wM_w g2), hv, hw, aft_l, aft_r, optL_s, optL_n, xgo_n, xgo_s, List.cons_append, List.nil_append, List.append_nil, true_and, and_true, Nat.sub_zero, Nat.zero_le, true_implies, false_implies, implies_true, not_true_eq_false, not_false_eq_true, true_or, or_true]
    refine ⟨⟨by omega, by omega⟩, by omega, by omega, by omega, c240 hP hl hC hY (LQ_w hLQ (wM_w g2)) n1 n2 (fun c => absurd a c) (fun _ c => absurd b c) (fun _ _ σ2 k0 k1 k2 k3 => ?_)⟩
    have eu := RKp_uniq g0 k0
    simp only [aft_l, aft_r, optL_s, optL_n, xgo_n, xgo_s, List.cons_append, List.nil_append, List.append_nil, true_and, and_true, Nat.sub_zero, Nat.zero_le, true_implies, false_implies, implies_true, not_true_eq_false, not_false_eq_true, true_or, or_true]
    obtain ⟨r1, r2, r3, r4⟩ := fin_q h (CI_w g1) (wM_w g2) ⟨xs, hC, FQ_LQ k1⟩ k3
    rw [← eu.2]
    exact KI_1179 (z := 0) ⟨by decide, by decide⟩ ⟨by omega, by omega⟩ k2 (fun _ => by rw [r3, gL_sL, if_pos ⟨rfl, rfl⟩]) (fun b6 b7 b8 => hq _ _ _ _ _ _ _ _ _ r1 r2 (by omega))
end LO6
