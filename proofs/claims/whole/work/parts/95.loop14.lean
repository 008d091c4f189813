/-! the law's loop: cases 13 -/
section LO14
variable {t : Nat} {σ : St} {Q : Res → St → Prop} {P PS : Pg} {lim lS : Int} {xs ys : List Int}
theorem lT_fr {M : Nat → Int → Prop} {σ' : St} (g : fr M σ σ') (h8 : ¬ M 53 8) (h59 : ∀ j, ¬ M 59 j) (f : Int) : lT σ' f = lT σ f := by
  have e : LH σ' = LH σ := funext fun p => by
    unfold LH
    rw [fr_I g 53 8 h8, fr_I g 59 p (h59 p)]
  unfold lT
  rw [e, fr_I g 53 8 h8]
theorem c197n {f : Int} (hfr : inR f) (q : ¬ (0 ≤ f ∧ f < 4)) (h1 : Q (.inl (some (vI 0))) (sI σ 53 0 1)) : Call t 197 [vR 53, vI f] σ Q := by
  simp only [x197_0, e179 hfr, x197_4, eq_true (b2i_in _), b2i_0, aft_l, aft_r, optL_s, optL_n, xgo_n, xgo_s, List.cons_append, List.nil_append, List.append_nil, true_and, and_true, Nat.sub_zero, Nat.zero_le, true_implies, false_implies, implies_true, not_true_eq_false, not_false_eq_true, true_or, or_true]
  rw [dcl_f q]
  refine ⟨fun _ => ?_, fun a => absurd rfl a⟩
  simp only [x197_7, e175, x197_12, aft_l, aft_r, optL_s, optL_n, xgo_n, xgo_s, List.cons_append, List.nil_append, List.append_nil, true_and, and_true, Nat.sub_zero, Nat.zero_le, true_implies, false_implies, implies_true, not_true_eq_false, not_false_eq_true, true_or, or_true]
  exact h1
/-- a body that was refused -/
def sfM : Nat → Int → Prop := fun c j => c = 0 ∨ c = 1 ∨ c = 3 ∨ c = 4 ∨ (54 ≤ c ∧ c ≤ 57 ∧ 48 ≤ j) ∨ (c = 58 ∧ j = 4) ∨ (c = 53 ∧ (j = 0 ∨ j = 8 ∨ j = 9 ∨ j = 10 ∨ j = 12 ∨ j = 13))
theorem JV_sf {σ1 σ2 : St} {r : Int} (h : JV P lim PS lS σ) (hr : -1 ≤ r ∧ r ≤ 80) (f1 : fr sbM σ σ1) (f2 : fr eM σ1 σ2) (a1 : gI σ1 1 1 = 0) (a2 : gI σ1 0 9 = r) (b1 : gI σ2 53 8 = 0) (b2 : gI σ2 53 10 = r) : JV P lim PS lS σ2 ∧ gI σ2 79 = gI σ 79 := by
  obtain ⟨h00, hCI, ⟨xs, hC, hLQ⟩, hTX, hF, hS, hM⟩ := id h
  have f : fr sfM σ σ2 := fr_trans (fr_mono f1 (fun c j k => by unfold sbM rM at k; unfold sfM; omega)) (fr_mono f2 (fun c j k => by unfold eM rL at k; unfold sfM; omega))
  have e11 : gI σ2 1 1 = 0 := (fr_I f2 1 1 (by unfold eM rL; omega)).trans a1
  have e09 : gI σ2 0 9 = r := (fr_I f2 0 9 (by unfold eM rL; omega)).trans a2
  have e010 : gI σ2 0 10 = gI σ 0 10 := (fr_I f2 0 10 (by unfold eM rL; omega)).trans (fr_I f1 0 10 (by unfold sbM rM; omega))
  have c1 : CI P lim σ2 := CI_fr (CI_fr hCI f1 (fun c j k => by unfold sbM rM at k; omega)) f2 (fun c j k => by unfold eM rL at k; omega)
  have l1 : LPr σ2 P := LP_fr hLQ.1 f (fun c j k => by unfold sfM at k; omega)
  have l3 : gI σ2 53 6 = lim := (fr_I f 53 6 (by unfold sfM; omega)).trans hLQ.2.1
  have l4 : gI σ2 53 19 = gI σ 53 19 := fr_I f 53 19 (by unfold sfM; omega)
  refine ⟨⟨h00, c1, ⟨xs, hC, l1, l3, ?_⟩, ?_, ?_, ?_, ?_⟩, funext fun j => fr_I f 79 j (by unfold sfM; omega)⟩
  · rcases hLQ.2.2 with k | ⟨k1, k2⟩
    · exact Or.inl (l4.trans k)
    · exact Or.inr ⟨l4.trans k1, FRr_fr2 k2 f (fun c j k => by unfold sfM at k; omega)⟩
  · unfold TX
    rw [b1, e11]
    exact ⟨⟨by decide, by decide⟩, rfl, fun p hp => by rw [fr_I f 2 p (by unfold sfM; omega), fr_I f 59 p (by unfold sfM; omega)]; exact hTX.2.2.1 p (by have := hTX.1; omega), fun j j0 j1 => by omega⟩
  · unfold FJ
    rw [b2, e09]; exact ⟨rfl, hr⟩
  · unfold SJ
    rw [fr_I f 53 42 (by unfold sfM; omega), e010, fr_I f 12 2 (by unfold sfM; omega)]
    exact ⟨hS.1, fun e => ⟨RB_fr (hS.2 e).1 f (fun j => by unfold sfM; omega) (fun j => by unfold sfM; omega), (hS.2 e).2.1, SV_fr (hS.2 e).2.2 f (fun j => by unfold sfM; omega)⟩⟩
  · unfold MJ
    rw [fr_I f 53 38 (by unfold sfM; omega), fr_I f 53 39 (by unfold sfM; omega), fr_I f 46 9 (by unfold sfM; omega), fr_I f 46 10 (by unfold sfM; omega)]
    exact ⟨fun a a0 a1 => by rw [fr_L f 49 a (by unfold sfM; omega), fr_L f 75 a (by unfold sfM; omega)]; exact hM.1 a a0 a1, hM.2⟩
/-- a body that was taken -/
theorem JV_st {σ1 σ2 σ3 : St} {P' : Pg} {l : BitVec 64} (h : JV P lim PS lS σ) (hP' : okP P') (f1 : fr sbM2 σ σ1) (e2 : σ2 = sL σ1 77 0 l) (f2 : fr eM2 σ2 σ3) (hCI : CI P' lim σ1) (hL : LPr σ3 P')
    (a1 : gI σ1 1 1 = 0) (a2 : gI σ1 0 9 = -1) (a3 : ∀ a, 0 ≤ a → a < 44 → gL σ1 49 a = BitVec.ofNat 64 0) (a4 : gI σ1 46 9 = 0) (a5 : gI σ1 46 10 = 0)
    (b1 : gI σ3 53 8 = 0) (b2 : gI σ3 53 10 = -1) (b3 : gI σ3 53 19 = 0) (b4 : ∀ a, 0 ≤ a → a < 44 → gL σ3 75 a = BitVec.ofNat 64 0) (b5 : gI σ3 53 39 = 0) (b6 : gI σ3 53 38 = 0) : JV P' lim PS lS σ3 ∧ gI σ3 79 = gI σ 79 := by
  obtain ⟨h00, _, ⟨xs, hC, hLQ⟩, hTX, hF, hS, hM⟩ := id h
  obtain ⟨zs, hZ⟩ := isC_ex hP' lim
  have g2 : fr (fun c _ => 53 ≤ c ∧ c ≤ 77 ∧ c ≠ 59 ∧ c ≠ 76) σ1 σ3 := by
    rw [e2] at f2
    exact fr_trans (fr_sL fr_refl ⟨by decide, by decide, by decide, by decide⟩) (fr_mono f2 (fun c j k => by unfold eM2 eM rL at k; omega))
  have g3 : ∀ j, j = 6 ∨ j = 42 → gI σ3 53 j = gI σ1 53 j := fun j hj => by
    rw [e2] at f2
    rw [fr_I f2 53 j (by unfold eM2 eM rL; omega)]; rfl
  have g1 : fr (fun c j => 1 ≤ c ∧ c ≤ 11 ∧ ¬ (c = 5 ∧ j = 2) ∧ c ≠ 2 ∨ c = 0 ∧ j = 9 ∨ 19 ≤ c ∧ c ≤ 49) σ σ1 := fr_mono f1 (fun c j k => by unfold sbM2 sbM rM fgM at k; omega)
  have lo : ∀ c j, c < 53 → gI σ3 c j = gI σ1 c j := fun c j hc => fr_I g2 c j (by omega)
  have hi : ∀ c j, 50 ≤ c → gI σ1 c j = gI σ c j := fun c j hc => fr_I g1 c j (by omega)
  refine ⟨⟨⟨⟨hP', h00.1.2⟩, h00.2⟩, CI_fr hCI g2 (fun c j k => by omega), ⟨zs, hZ, hL, ?_, Or.inl b3⟩, ?_, ?_, ?_, ?_⟩, ?_⟩
  · rw [g3 6 (by omega), hi 53 6 (by decide)]; exact hLQ.2.1
  · unfold TX
    rw [b1, lo 1 1 (by decide), a1]
    exact ⟨⟨by decide, by decide⟩, rfl, fun p hp => by rw [lo 2 p (by decide), fr_I g1 2 p (by omega), fr_I g2 59 p (by omega), hi 59 p (by decide)]; exact hTX.2.2.1 p (by have := hTX.1; omega), fun j j0 j1 => by omega⟩
  · unfold FJ
    rw [b2, lo 0 9 (by decide), a2]; exact ⟨rfl, by decide, by decide⟩
  · unfold SJ
    rw [g3 42 (by omega), hi 53 42 (by decide), lo 0 10 (by decide), fr_I g1 0 10 (by omega), lo 12 2 (by decide), fr_I g1 12 2 (by omega)]
    exact ⟨hS.1, fun e => ⟨RB_fr (RB_fr (hS.2 e).1 g1 (fun j => by omega) (fun j => by omega)) g2 (fun j => by omega) (fun j => by omega), (hS.2 e).2.1, SV_fr (SV_fr (hS.2 e).2.2 g1 (fun j => by omega)) g2 (fun j => by omega)⟩⟩
  · unfold MJ
    rw [b5, b6, lo 46 9 (by decide), lo 46 10 (by decide), a4, a5]
    exact ⟨fun a a0 a1 => by rw [fr_L g2 49 a (by omega), a3 a a0 a1, b4 a a0 a1], ⟨rfl, by decide, by decide⟩, rfl, by decide, by decide⟩
  · exact funext fun j => (fr_I g2 79 j (by omega)).trans (hi 79 j (by decide))
/-- setBody -/
theorem op_264 {i : Int} {a6 a7 a8 : Option AV} (h : JV P lim PS lS σ) (hi : 0 ≤ i) (hlen : i + 3 < gI σ 79 (-1)) (hn : ∀ j, 0 ≤ j → j < gI σ 79 (-1) → inR (gI σ 79 j)) (ht : 4 ≤ t) (hq : HQ t i σ Q) : wp t 305 264 [some (vR 79), some (vR 0), some (vR 53), some (vR 77), some (vR 78), some (vI i), a6, a7, a8] [] σ Q := by
  obtain ⟨h00, hCI, ⟨xs, hC, hLQ⟩, hTX, hF, hS, hM⟩ := id h
  have hP := h00.1.1
  have n1 := hn (i + 1) (by omega) (by omega)
  generalize hv : gI σ 79 (i + 1) = f at n1
  rcases hrL : lT σ f with ⟨r, L⟩
  have hok : (0 ≤ f ∧ f ≤ 3) → ((-1 ≤ r ∧ r ≤ 80) ∧ (L.length ≤ 80 ∧ ∀ s ∈ L, ok4 s)) := fun a => by
    have := lT_ok hTX a
    rw [hrL] at this; exact this
  rw [x305_264, hv]
  refine ⟨by omega, by omega, ?_⟩
  rw [x280_0]
  refine ⟨by omega, c122 (r := r) (L := L) (by omega) hP hCI (TX_1 hTX) n1 (fun a => ⟨by rw [TX_T hTX, hrL], hok a⟩) (fun a => ?_) (fun a b σ1 g1 g2 g3 => ?_) (fun a b d σ1 g1 g2 g3 => ?_) (fun a b d1 d2 d3 σ1 g1 g2 g3 g4 g5 g6 g7 => ?_)⟩
  · simp only [show hd 280 4 3 = some (13, 3) from rfl, xgo_s, lk4, x280_13, x305_275, hv, aft_l, aft_r, optL_s, optL_n, xgo_n, xgo_s, List.cons_append, List.nil_append, List.append_nil, true_and, and_true, Nat.sub_zero, Nat.zero_le, true_implies, false_implies, implies_true, not_true_eq_false, not_false_eq_true, true_or, or_true]
    refine ⟨by omega, c197n n1 a ?_⟩
    simp only [aft_l, aft_r, optL_s, optL_n, xgo_n, xgo_s, List.cons_append, List.nil_append, List.append_nil, true_and, and_true, Nat.sub_zero, Nat.zero_le, true_implies, false_implies, implies_true, not_true_eq_false, not_false_eq_true, true_or, or_true]
    obtain ⟨r1, r2⟩ := fin_0 (v := 1) h
    exact KI_287 (z := 1) ⟨by decide, by decide⟩ ⟨by decide, by decide⟩ (by rw [gI_sI, if_pos ⟨rfl, rfl⟩]) (fun k => by cases k) (fun b6 b7 b8 => hq _ _ _ _ _ _ _ _ _ r1 r2 (by omega))
  · obtain ⟨k1, k2, k3⟩ := hok (by omega)
    have e79 : gI σ1 79 = gI σ 79 := funext fun j => fr_I g3 79 j (by unfold sbM rM; omega)
    simp only [show hd 280 4 1 = some (16, 3) from rfl, xgo_s, lk4, x280_16, x305_275, e79, hv, aft_l, aft_r, optL_s, optL_n, xgo_n, xgo_s, List.cons_append, List.nil_append, List.append_nil, true_and, and_true, Nat.sub_zero, Nat.zero_le, true_implies, false_implies, implies_true, not_true_eq_false, not_false_eq_true, true_or, or_true]
    refine ⟨by omega, c197 (P := P) (r := r) (L := L) hP (LP_fr hLQ.1 g3 (fun c j k => by unfold sbM rM at k; omega)) (tx2_fr (TX_2 hTX) g3 (by unfold sbM rM; omega) (fun j => by unfold sbM rM; omega)) n1 (by rw [lT_fr g3 (by unfold sbM rM; omega) (fun j => by unfold sbM rM; omega), hrL]) k1 (by omega) k3 (fun q => absurd a q) (fun _ _ σ2 m1 m2 m3 m4 => ?_) (fun _ q => absurd q b) (fun _ q => absurd q b)⟩
    simp only [aft_l, aft_r, optL_s, optL_n, xgo_n, xgo_s, List.cons_append, List.nil_append, List.append_nil, true_and, and_true, Nat.sub_zero, Nat.zero_le, true_implies, false_implies, implies_true, not_true_eq_false, not_false_eq_true, true_or, or_true]
    obtain ⟨r1, r2⟩ := JV_sf h k1 g3 m4 g1 g2 m1 m2
    exact KI_287 (z := 2) ⟨by decide, by decide⟩ ⟨by decide, by decide⟩ m3 (fun k => by cases k) (fun b6 b7 b8 => hq _ _ _ _ _ _ _ _ _ r1 r2 (by omega))
  · obtain ⟨k1, k2, k3⟩ := hok (by omega)
    have e79 : gI σ1 79 = gI σ 79 := funext fun j => fr_I g3 79 j (by unfold sbM rM; omega)
    simp only [show hd 280 4 2 = some (19, 3) from rfl, xgo_s, lk4, x280_19, x305_275, e79, hv, aft_l, aft_r, optL_s, optL_n, xgo_n, xgo_s, List.cons_append, List.nil_append, List.append_nil, true_and, and_true, Nat.sub_zero, Nat.zero_le, true_implies, false_implies, implies_true, not_true_eq_false, not_false_eq_true, true_or, or_true]
    refine ⟨by omega, c197 (P := P) (r := r) (L := L) hP (LP_fr hLQ.1 g3 (fun c j k => by unfold sbM rM at k; omega)) (tx2_fr (TX_2 hTX) g3 (by unfold sbM rM; omega) (fun j => by unfold sbM rM; omega)) n1 (by rw [lT_fr g3 (by unfold sbM rM; omega) (fun j => by unfold sbM rM; omega), hrL]) k1 (by omega) k3 (fun q => absurd a q) (fun _ q => absurd b q) (fun _ _ _ σ2 m1 m2 m3 m4 => ?_) (fun _ _ q1 q2 q3 => absurd ⟨q1, q2, q3⟩ d)⟩
    simp only [aft_l, aft_r, optL_s, optL_n, xgo_n, xgo_s, List.cons_append, List.nil_append, List.append_nil, true_and, and_true, Nat.sub_zero, Nat.zero_le, true_implies, false_implies, implies_true, not_true_eq_false, not_false_eq_true, true_or, or_true]
    obtain ⟨r1, r2⟩ := JV_sf h k1 g3 m4 g1 (g2.trans b.symm) m1 (m2.trans b.symm)
    exact KI_287 (z := 3) ⟨by decide, by decide⟩ ⟨by decide, by decide⟩ m3 (fun k => by cases k) (fun b6 b7 b8 => hq _ _ _ _ _ _ _ _ _ r1 r2 (by omega))
  · obtain ⟨k1, k2, k3⟩ := hok (by omega)
    have e79 : gI (sL σ1 77 0 (BitVec.ofInt 64 L.length)) 79 = gI σ 79 := funext fun j => by
      show gI σ1 79 j = _
      exact fr_I g7 79 j (by unfold sbM2 sbM fgM rM; omega)
    have f4 : fr (fun c j => c = 77 ∨ c < 50) σ (sL σ1 77 0 (BitVec.ofInt 64 L.length)) := fr_sL (fr_mono g7 (fun c j k => by unfold sbM2 sbM fgM rM at k; omega)) (Or.inl rfl)
    simp only [x280_7, x280_21, x305_275, e79, hv, aft_l, aft_r, optL_s, optL_n, xgo_n, xgo_s, List.cons_append, List.nil_append, List.append_nil, true_and, and_true, Nat.sub_zero, Nat.zero_le, true_implies, false_implies, implies_true, not_true_eq_false, not_false_eq_true, true_or, or_true]
    refine ⟨⟨by omega, by omega⟩, by omega, by omega, c197 (P := P) (r := r) (L := L) hP (LP_fr hLQ.1 f4 (fun c j k => by omega)) (tx2_fr (TX_2 hTX) f4 (by omega) (fun j => by omega)) n1 (by rw [lT_fr f4 (by omega) (fun j => by omega), hrL]) k1 (by omega) k3 (fun q => absurd a q) (fun _ q => absurd b q) (fun _ _ q => by omega) (fun _ _ _ _ _ σ2 P' m1 m2 m3 m4 m5 m6 m7 m8 m9 m10 m11 => ?_)⟩
    simp only [aft_l, aft_r, optL_s, optL_n, xgo_n, xgo_s, List.cons_append, List.nil_append, List.append_nil, true_and, and_true, Nat.sub_zero, Nat.zero_le, true_implies, false_implies, implies_true, not_true_eq_false, not_false_eq_true, true_or, or_true]
    obtain ⟨r1, r2⟩ := JV_st h m2 g7 rfl m11 (g1 P' m1 m2) m3 g2 g3 g4 g5 g6 m4 m5 m7 m8 m9 m10
    refine KI_287 (z := 0) ⟨by decide, by decide⟩ ⟨by omega, by omega⟩ m6 (fun _ => ?_) (fun b6 b7 b8 => hq _ _ _ _ _ _ _ _ _ r1 r2 (by omega))
    rw [fr_L m11 77 0 (by unfold eM2 eM rL; omega), gL_sL, if_pos ⟨rfl, rfl⟩]
end LO14
