/-! the class: its program -/
/-- programs that agree where they say something -/
def AG (P P' : Pg) : Prop := (∀ g, 0 ≤ g → g ≤ 3 → P' 58 g = P 58 g) ∧ ∀ c g k, 54 ≤ c → c ≤ 57 → 0 ≤ g → g ≤ 3 → 0 ≤ k → k < P 58 g → P' c (12 * g + k) = P c (12 * g + k)
theorem AG_tot {P P' : Pg} (h : AG P P') : tot P' = tot P := by
  unfold tot
  rw [h.1 0 (by omega) (by omega), h.1 1 (by omega) (by omega), h.1 2 (by omega) (by omega), h.1 3 (by omega) (by omega)]
theorem AG_own {P P' : Pg} (h : AG P P') (n : Int) : own P' n = own P n := by
  unfold own
  rw [h.1 0 (by omega) (by omega), h.1 1 (by omega) (by omega), h.1 2 (by omega) (by omega)]
theorem AG_stt {P P' : Pg} (h : AG P P') (f : Int) : stt P' f = stt P f := by
  unfold stt
  rw [h.1 0 (by omega) (by omega), h.1 1 (by omega) (by omega), h.1 2 (by omega) (by omega), AG_tot h]
theorem AG_plc {P P' : Pg} (h : AG P P') (n : Int) : plc P' n = plc P n := by
  unfold plc
  rw [AG_own h, AG_stt h]
theorem AG_at {P P' : Pg} (hz : okZ P) (h : AG P P') {c : Nat} (c0 : 54 ≤ c) (c1 : c ≤ 57) {n : Int} (n0 : 0 ≤ n) (n1 : n < tot P) : P' c (plc P n) = P c (plc P n) := by
  have hs := own_spec hz n0 n1
  exact h.2 c (own P n) (n - stt P (own P n)) c0 c1 hs.1.1 hs.1.2 (by omega) (by omega)
theorem AG_kd {P P' : Pg} (hz : okZ P) (h : AG P P') {n : Int} (n0 : 0 ≤ n) (n1 : n < tot P) : kd P' n = kd P n := by
  unfold kd
  rw [AG_plc h]; exact AG_at hz h (by decide) (by decide) n0 n1
theorem AG_sn {P P' : Pg} (hz : okZ P) (h : AG P P') {n : Int} (n0 : 0 ≤ n) (n1 : n ≤ tot P) : sn P' n = sn P n := cn_congr (fun m m0 m1 => by rw [AG_kd hz h m0 (by omega)])
theorem AG_bpk {P P' : Pg} (hz : okZ P) (h : AG P P') {n : Int} (n0 : 0 ≤ n) (n1 : n < tot P) : bpk P' (plc P n) = bpk P (plc P n) := by
  unfold bpk
  rw [AG_at hz h (by decide) (by decide) n0 n1, AG_at hz h (by decide) (by decide) n0 n1, AG_at hz h (by decide) (by decide) n0 n1, AG_at hz h (by decide) (by decide) n0 n1]
theorem AG_RB {P P' : Pg} (hz : okZ P) (h : AG P P') {b : Nat} {σ : St} (g : RB b σ P) : RB b σ P' := by
  refine ⟨fun f f0 f1 => by rw [h.1 f f0 f1]; exact g.1 f f0 f1, fun n n0 n1 => ?_⟩
  rw [AG_tot h] at n1
  rw [AG_plc h, AG_bpk hz h n0 n1]; exact g.2 n n0 n1
theorem AG_RN {P P' : Pg} (hz : okZ P) (h : AG P P') {b : Nat} {σ : St} (g : RN b σ P) : RN b σ P' := by
  have ht := tot_rng hz
  refine ⟨⟨fun m m0 m1 => ?_, ?_⟩, fun f f0 f1 => by rw [AG_stt h]; exact g.2 f f0 f1⟩
  · rw [AG_tot h] at m1
    rw [AG_plc h, AG_bpk hz h m0 m1, AG_own h, AG_sn hz h m0 (by omega)]; exact g.1.1 m m0 m1
  · rw [AG_tot h, AG_sn hz h (by omega) (Int.le_refl _)]; exact g.1.2
theorem SPr_AG {P P1 P2 : Pg} {f : Int} {L : List St4} (hz : okZ P) (hf : 0 ≤ f ∧ f ≤ 3) (h1 : SPr P f L P1) (h2 : SPr P f L P2) : AG P1 P2 := by
  refine ⟨fun g g0 g1 => ?_, fun c g k c0 c1 g0 g1 k0 k1 => ?_⟩
  · by_cases e : g = f
    · rw [e, h1.1.1, h2.1.1]
    · rw [h1.1.2 g g0 g1 e, h2.1.2 g g0 g1 e]
  · by_cases e : g = f
    · rw [e, h1.1.1] at k1
      have d1 := h1.2.2 k.toNat (by omega)
      have d2 := h2.2.2 k.toNat (by omega)
      rw [show ((k.toNat : Nat) : Int) = k by omega] at d1 d2
      rw [e]
      have hc : c = 54 ∨ c = 55 ∨ c = 56 ∨ c = 57 := by omega
      rcases hc with z | z | z | z <;> subst z
      · rw [d1.1, d2.1]
      · rw [d1.2.1, d2.2.1]
      · rw [d1.2.2.1, d2.2.2.1]
      · rw [d1.2.2.2, d2.2.2.2]
    · have hzg := okZ_at hz g0 g1
      rw [h1.1.2 g g0 g1 e] at k1
      rw [h1.2.1 c _ c0 c1 (by omega) (by omega) (by omega), h2.2.1 c _ c0 c1 (by omega) (by omega) (by omega)]
/-- one program with the body replaced -/
def spP (P : Pg) (f : Int) (L : List St4) : Pg := fun c j => if c = 58 then (if j = f then (L.length : Int) else P 58 j) else if 12 * f ≤ j ∧ j < 12 * f + 12 then (if c = 54 then (L.getD (j - 12 * f).toNat s0).1 else if c = 55 then (L.getD (j - 12 * f).toNat s0).2.1 else if c = 56 then (L.getD (j - 12 * f).toNat s0).2.2.1 else (L.getD (j - 12 * f).toNat s0).2.2.2) else P c j
theorem spP_ok (P : Pg) (f : Int) (L : List St4) (hL : L.length ≤ 12) : SPr P f L (spP P f L) := by
  refine ⟨⟨by unfold spP; rw [if_pos rfl, if_pos rfl], fun g _ _ ge => by unfold spP; rw [if_pos rfl, if_neg ge]⟩, fun c j c0 c1 j0 j1 hj => by unfold spP; rw [if_neg (by omega), if_neg hj], fun i hi => ?_⟩
  have e : (12 * f + (i : Int) - 12 * f).toNat = i := by omega
  have b : 12 * f ≤ 12 * f + (i : Int) ∧ 12 * f + (i : Int) < 12 * f + 12 := by omega
  unfold spP
  refine ⟨?_, ?_, ?_, ?_⟩
  · rw [if_neg (by decide), if_pos b, if_pos rfl, e]
  · rw [if_neg (by decide), if_pos b, if_neg (by decide), if_pos rfl, e]
  · rw [if_neg (by decide), if_pos b, if_neg (by decide), if_neg (by decide), if_pos rfl, e]
  · rw [if_neg (by decide), if_pos b, if_neg (by decide), if_neg (by decide), if_neg (by decide), e]
section CP6
variable {t : Nat} {σ : St} {Q : Res → St → Prop} {P : Pg} {lim : Int} {xs ys : List Int}
def sbM : Nat → Int → Prop := fun c j => rM c j ∨ (c = 0 ∧ j = 9) ∨ (c = 1 ∧ j = 1)
def sbM2 : Nat → Int → Prop := fun c j => sbM c j ∨ fgM c j ∨ (6 ≤ c ∧ c ≤ 11) ∨ (c = 5 ∧ j = 7)
/-- setBody -/
theorem c122 (ht : 3 ≤ t) (hP : okP P) (h : CI P lim σ) (hx : tx1 σ) {f : Int} (hf : inR f) {r : Int} {L : List St4} (hr : (0 ≤ f ∧ f ≤ 3) → rT σ f = (r, L) ∧ ((-1 ≤ r ∧ r ≤ 80) ∧ (L.length ≤ 80 ∧ ∀ s ∈ L, ok4 s)))
    (h1 : ¬ (0 ≤ f ∧ f < 4) → Q (.inr 3) σ)
    (h2 : (0 ≤ f ∧ f < 4) → r ≠ -1 → ∀ σ', gI σ' 1 1 = 0 → gI σ' 0 9 = r → fr sbM σ σ' → Q (.inr 1) σ')
    (h3 : (0 ≤ f ∧ f < 4) → r = -1 → ¬ (L.length ≤ 12 ∧ cq 4 L + mny P 4 f ≤ 8 ∧ cq 6 L + mny P 6 f ≤ 5) → ∀ σ', gI σ' 1 1 = 0 → gI σ' 0 9 = -1 → fr sbM σ σ' → Q (.inr 2) σ')
    (h5 : (0 ≤ f ∧ f < 4) → r = -1 → L.length ≤ 12 → cq 4 L + mny P 4 f ≤ 8 → cq 6 L + mny P 6 f ≤ 5 → ∀ σ', (∀ P', SPr P f L P' → okP P' → CI P' lim σ') → gI σ' 1 1 = 0 → gI σ' 0 9 = -1 → (∀ a, 0 ≤ a → a < 44 → gL σ' 49 a = BitVec.ofNat 64 0) → gI σ' 46 9 = 0 → gI σ' 46 10 = 0 → fr sbM2 σ σ' → Q (.inl (some (vI L.length))) σ') : Call t 122 [vR 0, vI f] σ Q := by
  rw [x122_0]
  refine ⟨by omega, c162 (by omega) hf (fun a => ?_) (fun a => ?_)⟩
  · have hf3 : 0 ≤ f ∧ f ≤ 3 := by omega
    obtain ⟨hr, hrr, hLl, h4⟩ := hr hf3
    simp only [x122_5, aft_l, aft_r, optL_s, optL_n, xgo_n, xgo_s, List.cons_append, List.nil_append, List.append_nil, true_and, and_true, Nat.sub_zero, Nat.zero_le, true_implies, false_implies, implies_true, not_true_eq_false, not_false_eq_true, true_or, or_true]
    refine c3 hx hf3.1 hf3.2 (fun σ1 g1 g2 => ?_)
    rw [hr] at g1
    have g1 : DR σ1 L := g1
    simp only [hr, x122_18, x2_0, aft_l, aft_r, optL_s, optL_n, xgo_n, xgo_s, List.cons_append, List.nil_append, List.append_nil, true_and, and_true, Nat.sub_zero, Nat.zero_le, true_implies, false_implies, implies_true, not_true_eq_false, not_false_eq_true, true_or, or_true]
    have fb : fr sbM σ (sI (sI σ1 0 9 r) 1 1 0) := fr_sI (fr_sI (fr_mono g2 (fun c j k => Or.inl k)) (by unfold sbM; omega)) (by unfold sbM; omega)
    have hR := DR_fr (σ' := sI (sI σ1 0 9 r) 1 1 0) (M := fun c j => c = 0 ∨ c = 1) g1 (fr_sI (fr_sI fr_refl (by omega)) (by omega)) (fun c j k => by omega)
    have hCI : CI P lim (sI (sI σ1 0 9 r) 1 1 0) := CI_fr h fb (fun c j k => by unfold sbM rM at k; omega)
    have e09 : gI (sI (sI σ1 0 9 r) 1 1 0) 0 9 = r := by simp only [gI_sI, gI_sI, gL_sI, gD_sI, gI_sL, gL_sL, gD_sL, gI_sD, gL_sD, gD_sD, Nat.reduceEqDiff, Int.reduceEq, reduceCtorEq, false_and, and_false, and_self, if_true, if_false, not_false_eq_true, not_true_eq_false]
    have e11 : gI (sI (sI σ1 0 9 r) 1 1 0) 1 1 = 0 := by rw [gI_sI, if_pos ⟨rfl, rfl⟩]
    rw [x122_28, e09]
    refine ⟨⟨by omega, by omega⟩, fun b => ?_, fun b => ?_⟩
    · have er : r = -1 := by omega
      have c4 := cq_rng 4 L
      have c6 := cq_rng 6 L
      rw [x122_45]
      refine c81 hP hCI.1.2.1 hf (by rw [hR.1]; omega) (by rw [hR.2.1]; omega) (by rw [hR.2.2.1]; omega) (fun d1 d2 d3 => ?_) (fun d => ?_)
      · rw [hR.1] at d1
        rw [hR.2.1] at d2
        rw [hR.2.2.1] at d3
        have hL12 : L.length ≤ 12 := by omega
        have hS := spP_ok P f L hL12
        have hP' := SPr_ok hP hS hf3 hL12 h4 d2 d3
        have hB := hCI.1.1
        rw [RB_iff hP.1] at hB
        simp only [x122_57, (show inR (1 : Int) = True from eq_true ⟨by decide, by decide⟩), Int.reduceEq, x122_70, aft_l, aft_r, optL_s, optL_n, xgo_n, xgo_s, List.cons_append, List.nil_append, List.append_nil, true_and, and_true, Nat.sub_zero, Nat.zero_le, true_implies, false_implies, implies_true, not_true_eq_false, not_false_eq_true, true_or, or_true]
        refine c83 hP' hf3.1 hf3.2 (fun σ2 k1 k2 k3 => ?_) (fun g g0 g1' ge => ⟨?_, fun k k0 k1' => ?_⟩) (by rw [hR.1, hS.1.1]) (fun k k0 k1' => ?_)
        · simp only [x122_82, aft_l, aft_r, optL_s, optL_n, xgo_n, xgo_s, List.cons_append, List.nil_append, List.append_nil, true_and, and_true, Nat.sub_zero, Nat.zero_le, true_implies, false_implies, implies_true, not_true_eq_false, not_false_eq_true, true_or, or_true]
          have z := hCI.2
          refine c158 k1 k2 (lim := lim) ((fr_I k3 _ _ (by omega)).trans hCI.1.2.2) (GE_fr z.1.1 k3 (fun j => by omega)) (GE_fr z.2.1.1 k3 (fun j => by omega)) (fun σ3 m1 mf m2 m3 m4 m5 => ?_)
          have fe : fr sbM2 σ σ3 := fr_trans (fr_mono fb (fun c j k => Or.inl k)) (fr_trans (fr_mono k3 (fun c j k => by unfold sbM2; omega)) (fr_mono m5 (fun c j k => Or.inr (Or.inl k))))
          have e31 : gI σ3 3 1 = L.length := by rw [fr_I m5 _ _ (by unfold fgM; omega), fr_I k3 _ _ (by omega), hR.1]
          simp only [x122_86, k32, e31, x122_93, aft_l, aft_r, optL_s, optL_n, xgo_n, xgo_s, List.cons_append, List.nil_append, List.append_nil, true_and, and_true, Nat.sub_zero, Nat.zero_le, true_implies, false_implies, implies_true, not_true_eq_false, not_false_eq_true, true_or, or_true]
          refine h5 a er hL12 d2 d3 σ3 (fun P' q1 q2 => ?_) ?_ ?_ m2 m3 m4 fe
          · have hag := SPr_AG hP.1 hf3 hS q1
            obtain ⟨⟨n1, n2, n3⟩, n4, n5, n6⟩ := m1
            exact ⟨⟨AG_RB hP'.1 hag n1, AG_RN hP'.1 hag n2, n3⟩, ⟨n4.1, Or.inl mf.1⟩, ⟨n5.1, Or.inl mf.2.1⟩, Or.inl mf.2.2⟩
          · rw [fr_I m5 _ _ (by unfold fgM; omega), fr_I k3 _ _ (by omega)]; exact e11
          · rw [fr_I m5 _ _ (by unfold fgM; omega), fr_I k3 _ _ (by omega), e09, er]
        · rw [hS.1.2 g g0 g1' ge]; exact hB.1 g g0 g1'
        · rw [hS.1.2 g g0 g1' ge] at k1'
          have hzg := okZ_at hP.1 g0 g1'
          rw [hB.2 g k g0 g1' k0 k1']
          unfold bpk
          rw [hS.2.1 54 _ (by decide) (by decide) (by omega) (by omega) (by omega), hS.2.1 55 _ (by decide) (by decide) (by omega) (by omega) (by omega), hS.2.1 56 _ (by decide) (by decide) (by omega) (by omega) (by omega), hS.2.1 57 _ (by decide) (by decide) (by omega) (by omega) (by omega)]
        · rw [hS.1.1] at k1'
          have d := hS.2.2 k.toNat (by omega)
          have dr := hR.2.2.2 k.toNat (by omega) (by omega)
          rw [show ((k.toNat : Nat) : Int) = k by omega] at d dr
          rw [dr]
          unfold bpk pk4
          rw [d.1, d.2.1, d.2.2.1, d.2.2.2]
      · rw [hR.1, hR.2.1, hR.2.2.1] at d
        simp only [x122_57, (show inR (0 : Int) = True from eq_true ⟨by decide, by decide⟩), Int.reduceEq, x122_60, aft_l, aft_r, optL_s, optL_n, xgo_n, xgo_s, List.cons_append, List.nil_append, List.append_nil, true_and, and_true, Nat.sub_zero, Nat.zero_le, true_implies, false_implies, implies_true, not_true_eq_false, not_false_eq_true, true_or, or_true]
        exact ⟨by omega, h3 a er (fun z => d ⟨by omega, z.2⟩) _ e11 (by rw [e09, er]) fb⟩
    · rw [x122_35]
      exact ⟨by omega, h2 a (by omega) _ e11 e09 fb⟩
  · simp only [xgo_n, aft_l, aft_r, optL_s, optL_n, xgo_n, xgo_s, List.cons_append, List.nil_append, List.append_nil, true_and, and_true, Nat.sub_zero, Nat.zero_le, true_implies, false_implies, implies_true, not_true_eq_false, not_false_eq_true, true_or, or_true]; exact h1 a
/-- setLimit -/
theorem c128 (ht : 1 ≤ t) (h : CI P lim σ) {l : Int} (hl : inR l) (h0 : ¬ (0 ≤ l ∧ l ≤ 2) → Q (.inr 1) σ) (h1 : (0 ≤ l ∧ l ≤ 2) → CI P l (sI (sI σ 5 2 l) 19 8 1) → Q (.inl (some (vI lim))) (sI (sI σ 5 2 l) 19 8 1)) : Call t 128 [vR 0, vI l] σ Q := by
  have bad : ∀ a0 a1 a2, ¬ (0 ≤ l ∧ l ≤ 2) → wp t 128 9 [a0, a1, a2] [] σ Q := fun a0 a1 a2 hn => by rw [x128_9]; exact ⟨ht, h0 hn⟩
  rw [x128_0]
  refine ⟨hl, fun a => bad _ _ _ (by omega), fun a => ?_⟩
  rw [x128_4]
  refine ⟨hl, fun b => bad _ _ _ (by omega), fun b => ?_⟩
  simp only [x128_19, e79 h, x128_26, x80_0, x128_35, x41_0_19, x128_42, aft_l, aft_r, optL_s, optL_n, xgo_n, xgo_s, List.cons_append, List.nil_append, List.append_nil, true_and, and_true, Nat.sub_zero, Nat.zero_le, true_implies, false_implies, implies_true, not_true_eq_false, not_false_eq_true, true_or, or_true]
  refine h1 (by omega) ?_
  obtain ⟨⟨h1, h2, h3⟩, ⟨h4, h5⟩, ⟨h6, h7⟩, h8⟩ := h
  have g : fr (fun c j => (c = 5 ∧ j = 2) ∨ (c = 19 ∧ j = 8)) σ (sI (sI σ 5 2 l) 19 8 1) := fr_sI (fr_sI fr_refl (Or.inl ⟨rfl, rfl⟩)) (Or.inr ⟨rfl, rfl⟩)
  refine ⟨⟨RB_fr h1 g (fun j => by omega) (fun j => by omega), RN_fr h2 g (fun j => by omega) (fun j => by omega) (fun j => by omega) (fun j => by omega) (by omega), by simp only [gI_sI, gI_sI, gL_sI, gD_sI, gI_sL, gL_sL, gD_sL, gI_sD, gL_sD, gD_sD, Nat.reduceEqDiff, Int.reduceEq, reduceCtorEq, false_and, and_false, and_self, if_true, if_false, not_false_eq_true, not_true_eq_false]⟩, ⟨GE_fr h4 g (fun j => by omega), Or.inl (by simp only [gI_sI, gI_sI, gL_sI, gD_sI, gI_sL, gL_sL, gD_sL, gI_sD, gL_sD, gD_sD, Nat.reduceEqDiff, Int.reduceEq, reduceCtorEq, false_and, and_false, and_self, if_true, if_false, not_false_eq_true, not_true_eq_false])⟩, ⟨GE_fr h6 g (fun j => by omega), ?_⟩, ?_⟩
  · rcases h7 with k | ⟨zs, k⟩
    · exact Or.inl ((fr_I g _ _ (by omega)).trans k)
    · exact Or.inr ⟨zs, INr_fr_30 k g (fun c j z => by omega)⟩
  · rcases h8 with k | k
    · exact Or.inl ((fr_I g _ _ (by omega)).trans k)
    · exact Or.inr (UNr_fr' k g (fun c j z => by omega))
/-- run -/
theorem c149 (hP : okP P) (h : CI P lim σ) (hq : ∀ k, ¬ mgo (mit P k (ms0 P σ)) → (∀ i, i < k → mgo (mit P i (ms0 P σ))) → WFM P (mit P k (ms0 P σ)) → Q (.inl (some (vI (gI (mit P k (ms0 P σ)) 46 8)))) (mit P k (ms0 P σ))) : Call t 149 [vR 0] σ Q := by
  rw [x149_0]
  refine c63 hP h.1.2.1 (fun k h1 h2 h3 => ?_)
  simp only [x149_11, x75_0, x149_18, aft_l, aft_r, optL_s, optL_n, xgo_n, xgo_s, List.cons_append, List.nil_append, List.append_nil, true_and, and_true, Nat.sub_zero, Nat.zero_le, true_implies, false_implies, implies_true, not_true_eq_false, not_false_eq_true, true_or, or_true]
  exact hq k h1 h2 h3
theorem k78 {a : Int} (a0 : 0 ≤ a) (a1 : a < 44) : Call t 78 [vR 46, vI a] σ Q ↔ Q (.inl (some (vL (gL σ 49 a)))) σ := by
  simp only [x78_0, k97 (show lc 49 = 102 from rfl), rdL_in (σ := σ) (r := 49) (n := 44) rfl a0 a1, x78_8, aft_l, aft_r, optL_s, optL_n, xgo_n, xgo_s, List.cons_append, List.nil_append, List.append_nil, true_and, and_true, Nat.sub_zero, Nat.zero_le, true_implies, false_implies, implies_true, not_true_eq_false, not_false_eq_true, true_or, or_true]
  exact w_true ⟨by omega, by omega⟩
theorem c150 (ht : 1 ≤ t) {v : Int} (hv : inR v) (h1 : (0 ≤ v ∧ v < 20) → Q (.inl (some (vL (gL σ 49 v)))) σ) (h0 : ¬ (0 ≤ v ∧ v < 20) → Q (.inr 3) σ) : Call t 150 [vR 0, vI v] σ Q := by
  rw [x150_0]
  refine ⟨ht, c165 (by omega) hv (fun a => ?_) (fun a => ?_)⟩
  · simp only [x150_5, k78 a.1 (show v < 44 by omega), x150_13, aft_l, aft_r, optL_s, optL_n, xgo_n, xgo_s, List.cons_append, List.nil_append, List.append_nil, true_and, and_true, Nat.sub_zero, Nat.zero_le, true_implies, false_implies, implies_true, not_true_eq_false, not_false_eq_true, true_or, or_true]; exact h1 a
  · simp only [xgo_n, aft_l, aft_r, optL_s, optL_n, xgo_n, xgo_s, List.cons_append, List.nil_append, List.append_nil, true_and, and_true, Nat.sub_zero, Nat.zero_le, true_implies, false_implies, implies_true, not_true_eq_false, not_false_eq_true, true_or, or_true]; exact h0 a
theorem c151 (ht : 1 ≤ t) (hP : okP P) (h : CI P lim σ) {s f : Int} (hs : inR s) (hf : inR f) (h1 : ((0 ≤ s ∧ s < mny P 4 (-1)) ∧ (0 ≤ f ∧ f < 3)) → Q (.inl (some (vL (gL σ 49 (20 + 3 * s + f))))) σ) (h0 : ¬ ((0 ≤ s ∧ s < mny P 4 (-1)) ∧ (0 ≤ f ∧ f < 3)) → Q (.inr 3) σ) : Call t 151 [vR 0, vI s, vI f] σ Q := by
  have hm := m8_rng hP
  rw [x151_0]
  refine ⟨ht, c166 (by omega) hP h hs hf (fun a => ?_) (fun a => ?_)⟩
  · simp only [x151_6, k171, x151_15, k78 (show 0 ≤ 20 + 3 * s + f by omega) (show 20 + 3 * s + f < 44 by omega), x151_18, aft_l, aft_r, optL_s, optL_n, xgo_n, xgo_s, List.cons_append, List.nil_append, List.append_nil, true_and, and_true, Nat.sub_zero, Nat.zero_le, true_implies, false_implies, implies_true, not_true_eq_false, not_false_eq_true, true_or, or_true]; exact h1 a
  · simp only [xgo_n, aft_l, aft_r, optL_s, optL_n, xgo_n, xgo_s, List.cons_append, List.nil_append, List.append_nil, true_and, and_true, Nat.sub_zero, Nat.zero_le, true_implies, false_implies, implies_true, not_true_eq_false, not_false_eq_true, true_or, or_true]; exact h0 a
theorem c152 (hq : Q (.inl (some (vI (gI σ 46 9)))) σ) : Call t 152 [vR 0] σ Q := by
  simp only [x152_0, x76_0, x152_7, aft_l, aft_r, optL_s, optL_n, xgo_n, xgo_s, List.cons_append, List.nil_append, List.append_nil, true_and, and_true, Nat.sub_zero, Nat.zero_le, true_implies, false_implies, implies_true, not_true_eq_false, not_false_eq_true, true_or, or_true]; exact hq
theorem c153 (hq : Q (.inl (some (vI (gI σ 46 10)))) σ) : Call t 153 [vR 0] σ Q := by
  simp only [x153_0, x77_0, x153_7, aft_l, aft_r, optL_s, optL_n, xgo_n, xgo_s, List.cons_append, List.nil_append, List.append_nil, true_and, and_true, Nat.sub_zero, Nat.zero_le, true_implies, false_implies, implies_true, not_true_eq_false, not_false_eq_true, true_or, or_true]; exact hq
/-- save -/
theorem c156 (hP : okP P) (h : CI P lim σ) (hq : ∀ σ', RB 12 σ' P → gI σ' 12 2 = lim → gI σ' 0 10 = 1 → CI P lim σ' → fr (fun c j => (12 ≤ c ∧ c ≤ 18) ∨ (c = 0 ∧ j = 10)) σ σ' → Q (.inl none) σ') : Call t 156 [vR 0] σ Q := by
  rw [x156_0]
  refine c84_12 hP h.1.1 (fun σ1 g1 g2 g3 g4 => ?_)
  have f1 : fr (fun c j => (12 ≤ c ∧ c ≤ 18) ∨ (c = 0 ∧ j = 10)) σ σ1 := fr_mono g4 (fun c j k => by omega)
  have f2 : fr (fun c j => (12 ≤ c ∧ c ≤ 18) ∨ (c = 0 ∧ j = 10)) σ (sI σ1 0 10 1) := fr_sI f1 (Or.inr ⟨rfl, rfl⟩)
  simp only [x156_11, aft_l, aft_r, optL_s, optL_n, xgo_n, xgo_s, List.cons_append, List.nil_append, List.append_nil, true_and, and_true, Nat.sub_zero, Nat.zero_le, true_implies, false_implies, implies_true, not_true_eq_false, not_false_eq_true, true_or, or_true]
  refine hq _ (RB_fr g1 (fr_sI (M := fun c _ => c = 0) fr_refl rfl) (fun j => by omega) (fun j => by omega)) (by rw [gI_rne (by decide), g3]; exact h.1.2.2) (by rw [gI_sI, if_pos ⟨rfl, rfl⟩]) (CI_fr h f2 (fun c j k => by omega)) f2
/-- restore -/
theorem c157 {PS : Pg} {lS : Int} (ht : 1 ≤ t) (hPS : okP PS) (h : CI P lim σ) (h10 : gI σ 0 10 = 0 ∨ gI σ 0 10 = 1) (hS : gI σ 0 10 = 1 → RB 12 σ PS ∧ gI σ 12 2 = lS) (h0 : gI σ 0 10 = 0 → Q (.inr 2) σ)
    (h1 : gI σ 0 10 = 1 → ∀ σ', CI PS lS σ' → (∀ a, 0 ≤ a → a < 44 → gL σ' 49 a = BitVec.ofNat 64 0) → gI σ' 46 9 = 0 → gI σ' 46 10 = 0 → fr (fun c j => fgM c j ∨ (5 ≤ c ∧ c ≤ 11)) σ σ' → Q (.inl none) σ') : Call t 157 [vR 0] σ Q := by
  rw [x157_0]
  refine ⟨by rcases h10 with e | e <;> rw [e] <;> decide, fun e => ?_, fun e => ?_⟩
  · rw [x157_7]; exact ⟨ht, h0 e⟩
  · obtain ⟨k1, k2⟩ := hS (by omega)
    rw [x157_18]
    refine c84_5 hPS k1 (fun σ1 g1 g2 g3 g4 => ?_)
    simp only [x157_29, aft_l, aft_r, optL_s, optL_n, xgo_n, xgo_s, List.cons_append, List.nil_append, List.append_nil, true_and, and_true, Nat.sub_zero, Nat.zero_le, true_implies, false_implies, implies_true, not_true_eq_false, not_false_eq_true, true_or, or_true]
    have z := h.2
    refine c158 g1 g2 (g3.trans k2) (GE_fr z.1.1 g4 (fun j => by omega)) (GE_fr z.2.1.1 g4 (fun j => by omega)) (fun σ2 m1 mf m2 m3 m4 m5 => ?_)
    simp only [x157_33, aft_l, aft_r, optL_s, optL_n, xgo_n, xgo_s, List.cons_append, List.nil_append, List.append_nil, true_and, and_true, Nat.sub_zero, Nat.zero_le, true_implies, false_implies, implies_true, not_true_eq_false, not_false_eq_true, true_or, or_true]
    exact h1 (by omega) σ2 m1 m2 m3 m4 (fr_trans (fr_mono g4 (fun c j k => by omega)) (fr_mono m5 (fun c j k => Or.inl k)))
end CP6

