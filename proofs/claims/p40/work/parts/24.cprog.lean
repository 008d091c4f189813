/-! the class's program -/
def bpk (P : Pg) (p : Int) : Int := spk (P 54 p) (P 55 p) (P 56 p) (P 57 p)
def RB (b : Nat) (σ : St) (P : Pg) : Prop := (∀ f, 0 ≤ f → f ≤ 3 → gI σ (b + 2) f = P 58 f) ∧ (∀ n, 0 ≤ n → n < tot P → gI σ (b + 1) (plc P n) = bpk P (plc P n))
def NI (b : Nat) (σ : St) (P : Pg) (n : Int) : Prop := (∀ m, 0 ≤ m → m < n → gI σ (b + 3) m = bpk P (plc P m) ∧ (gI σ (b + 4) m = own P m ∧ gI σ (b + 5) m = sn P m)) ∧ gI σ b 7 = sn P n
def RN (b : Nat) (σ : St) (P : Pg) : Prop := NI b σ P (tot P) ∧ (∀ f, 0 ≤ f → f ≤ 4 → gI σ (b + 6) f = stt P f)
theorem okP_st {P : Pg} (h : okP P) {n : Int} (h0 : 0 ≤ n) (h1 : n < tot P) : (0 ≤ P 54 (plc P n) ∧ P 54 (plc P n) < 8) ∧ ((0 ≤ P 55 (plc P n) ∧ P 55 (plc P n) < 32) ∧ ((0 ≤ P 56 (plc P n) ∧ P 56 (plc P n) < 32) ∧ (0 ≤ P 57 (plc P n) ∧ P 57 (plc P n) < 4))) := by
  obtain ⟨h2, ⟨h3, h4, h5⟩, -⟩ := h.2.1 n h0 h1
  unfold kd at h2; unfold vv at h3; unfold ww at h4; unfold nn at h5
  omega
theorem bpk_in {P : Pg} (h : okP P) {n : Int} (h0 : 0 ≤ n) (h1 : n < tot P) : 0 ≤ bpk P (plc P n) ∧ bpk P (plc P n) < 32768 := by
  obtain ⟨a, b, c, d⟩ := okP_st h h0 h1
  exact sp_in a b c d
theorem bpk_K {P : Pg} (h : okP P) {n : Int} (h0 : 0 ≤ n) (h1 : n < tot P) : iAnd (bpk P (plc P n)) 7 = kd P n := by
  obtain ⟨a, b, c, d⟩ := okP_st h h0 h1
  exact sp_K a b c d
theorem bpk_V {P : Pg} (h : okP P) {n : Int} (h0 : 0 ≤ n) (h1 : n < tot P) : iAnd (bpk P (plc P n) / 8) 31 = vv P n := by
  obtain ⟨a, b, c, d⟩ := okP_st h h0 h1
  exact sp_V a b c d
theorem bpk_W {P : Pg} (h : okP P) {n : Int} (h0 : 0 ≤ n) (h1 : n < tot P) : iAnd (bpk P (plc P n) / 256) 31 = ww P n := by
  obtain ⟨a, b, c, d⟩ := okP_st h h0 h1
  exact sp_W a b c d
theorem bpk_N {P : Pg} (h : okP P) {n : Int} (h0 : 0 ≤ n) (h1 : n < tot P) : iAnd (bpk P (plc P n) / 8192) 3 = nn P n := by
  obtain ⟨a, b, c, d⟩ := okP_st h h0 h1
  exact sp_N a b c d
theorem rdI_at {σ : St} {r n : Nat} {i : Int} (hn : ln r = n) (h0 : 0 ≤ i) (h1 : i < n) : rdI σ r i = gI σ r i := rdI_in hn h0 h1
section CP
variable {t : Nat} {σ : St} {Q : Res → St → Prop} {P : Pg}
theorem RB_fr {M : Nat → Int → Prop} {b : Nat} {σ σ' : St} (h : RB b σ P) (g : fr M σ σ') (h1 : ∀ j, ¬ M (b + 1) j) (h2 : ∀ j, ¬ M (b + 2) j) : RB b σ' P :=
  ⟨fun f f0 f1 => (fr_I g _ _ (h2 f)).trans (h.1 f f0 f1), fun n n0 n1 => (fr_I g _ _ (h1 _)).trans (h.2 n n0 n1)⟩
theorem RN_fr {M : Nat → Int → Prop} {b : Nat} {σ σ' : St} (h : RN b σ P) (g : fr M σ σ') (h1 : ∀ j, ¬ M (b + 3) j) (h2 : ∀ j, ¬ M (b + 4) j) (h3 : ∀ j, ¬ M (b + 5) j) (h4 : ∀ j, ¬ M (b + 6) j) (h5 : ¬ M b 7) : RN b σ' P :=
  ⟨⟨fun m m0 m1 => ⟨(fr_I g _ _ (h1 m)).trans (h.1.1 m m0 m1).1, (fr_I g _ _ (h2 m)).trans (h.1.1 m m0 m1).2.1, (fr_I g _ _ (h3 m)).trans (h.1.1 m m0 m1).2.2⟩, (fr_I g _ _ h5).trans h.1.2⟩, fun f f0 f1 => (fr_I g _ _ (h4 f)).trans (h.2 f f0 f1)⟩
theorem NI_step {b : Nat} {σ : St} {n : Int} (h : NI b σ P n) : NI b (sI (sI (sI (sI σ (b + 3) n (bpk P (plc P n))) (b + 4) n (own P n)) (b + 5) n (sn P n)) b 7 (sn P (n + 1))) P (n + 1) := by
  refine ⟨fun m m0 m1 => ?_, ?_⟩
  · by_cases e : m = n
    · subst e; simp [gI_sI]
    · have := h.1 m m0 (by omega)
      simp [gI_sI, e, this]
  · simp [gI_sI]
theorem NI_fr {M : Nat → Int → Prop} {b : Nat} {σ σ' : St} {n : Int} (h : NI b σ P n) (g : fr M σ σ') (h1 : ∀ j, ¬ M (b + 3) j) (h2 : ∀ j, ¬ M (b + 4) j) (h3 : ∀ j, ¬ M (b + 5) j) (h5 : ¬ M b 7) : NI b σ' P n :=
  ⟨fun m m0 m1 => ⟨(fr_I g _ _ (h1 m)).trans (h.1 m m0 m1).1, (fr_I g _ _ (h2 m)).trans (h.1 m m0 m1).2.1, (fr_I g _ _ (h3 m)).trans (h.1 m m0 m1).2.2⟩, (fr_I g _ _ h5).trans h.2⟩
theorem nmi_5 (hP : okP P) {f : Int} (f0 : 0 ≤ f) (f1 : f ≤ 3) : ∀ (d : Nat) (k : Int) (σ : St) (a5 : Option AV), 0 ≤ k → k + d = P 58 f → RB 5 σ P → NI 5 σ P (stt P f + k) →
    (∀ σ' a5, NI 5 σ' P (stt P (f + 1)) → fr (fun c j => c = 8 ∨ c = 9 ∨ c = 10 ∨ (c = 5 ∧ j = 7)) σ σ' → wp t 85 120 [some (vR 5), some (vI (stt P (f + 1))), some (vI f), some (vI (P 58 f)), some (vI (P 58 f)), a5] [] σ' Q) →
    wp t 85 35 [some (vR 5), some (vI (stt P f + k)), some (vI f), some (vI (P 58 f)), some (vI k), a5] [] σ Q
  | 0, k, σ, a5, k0, hd, hB, hN, hq => by
    have hz := okZ_at hP.1 f0 f1
    rw [x85_35_5]
    refine ⟨⟨⟨by omega, by omega⟩, ⟨by omega, by omega⟩⟩, fun h => by omega, fun _ => ?_⟩
    have e : k = P 58 f := by omega
    have e2 := stt_succ P f0 f1
    subst e
    rw [← e2] at hN ⊢
    exact hq σ a5 hN fr_refl
  | d + 1, k, σ, a5, k0, hd, hB, hN, hq => by
    have hz := okZ_at hP.1 f0 f1
    have hst := stt_rng hP.1 f0 f1
    have htot := tot_rng hP.1
    have hpl := plc_of hP.1 f0 f1 k0 (show k < P 58 f by omega)
    have how := own_of hP.1 f0 f1 k0 (show k < P 58 f by omega)
    have hr : rdI σ 6 (12 * f + k) = bpk P (plc P (stt P f + k)) := by
      rw [rdI_in (n := 48) rfl (by omega) (by omega), ← hpl]
      exact hB.2 (stt P f + k) (by omega) (by omega)
    have hk := bpk_K hP (n := stt P f + k) (by omega) (by omega)
    have hs := sn_succ (P := P) (n := stt P f + k) (by omega)
    have hkr := (hP.2.1 (stt P f + k) (by omega) (by omega)).1
    have g7 : gI σ 5 7 = sn P (stt P f + k) := hN.2
    rw [x85_35_5]
    refine ⟨⟨⟨by omega, by omega⟩, ⟨by omega, by omega⟩⟩, fun h => ?_, fun _ => by omega⟩
    have w8 : ∀ σ v, wrI σ 8 (stt P f + k) v = sI σ 8 (stt P f + k) v := fun _ _ => wrI_in (n := 48) rfl (by omega) (by omega)
    have w9 : ∀ σ v, wrI σ 9 (stt P f + k) v = sI σ 9 (stt P f + k) v := fun _ _ => wrI_in (n := 48) rfl (by omega) (by omega)
    have w10 : ∀ σ v, wrI σ 10 (stt P f + k) v = sI σ 10 (stt P f + k) v := fun _ _ => wrI_in (n := 48) rfl (by omega) (by omega)
    simp only [x85_0_5, x85_14_5, x85_23_5, x85_31_5, x85_41_5, x85_55_5, x85_67_5, x85_76_5, x85_88_5, x85_98_5, x85_102_5, x85_106_5, x85_107_5, x85_120_5, x85_126_5, x85_135_5, k96 (show lc 6 = 101 from rfl), k98 (show lc 8 = 101 from rfl), k98 (show lc 9 = 101 from rfl), k98 (show lc 10 = 101 from rfl), k104, hr, hk, w8, w9, w10, gI_sI, gL_sI, gD_sI, gI_sL, gL_sL, gD_sL, gI_sD, gL_sD, gD_sD, Nat.reduceEqDiff, Int.reduceEq, reduceCtorEq, false_and, and_false, and_self, if_true, if_false, not_false_eq_true, not_true_eq_false, g7, aft_l, aft_r, optL_s, optL_n, xgo_n, xgo_s, List.cons_append, List.nil_append, List.append_nil, true_and, and_true, Nat.sub_zero, Nat.zero_le, true_implies, false_implies, implies_true, not_true_eq_false, not_false_eq_true, true_or, or_true]
    have go : wp t 85 35 [some (vR 5), some (vI (stt P f + k + 1)), some (vI f), some (vI (P 58 f)), some (vI (k + 1)), some (vI (bpk P (plc P (stt P f + k))))] [] (sI (sI (sI (sI σ 8 (stt P f + k) (bpk P (plc P (stt P f + k)))) 9 (stt P f + k) f) 10 (stt P f + k) (sn P (stt P f + k))) 5 7 (sn P (stt P f + k + 1))) Q := by
      have hN2 := NI_step hN
      rw [how] at hN2
      rw [show stt P f + k + 1 = stt P f + (k + 1) by omega] at hN2 ⊢
      have hf : fr (fun c j => c = 8 ∨ c = 9 ∨ c = 10 ∨ (c = 5 ∧ j = 7)) σ (sI (sI (sI (sI σ 8 (stt P f + k) (bpk P (plc P (stt P f + k)))) 9 (stt P f + k) f) 10 (stt P f + k) (sn P (stt P f + k))) 5 7 (sn P (stt P f + (k + 1)))) :=
        fr_sI (fr_sI (fr_sI (fr_sI fr_refl (by omega)) (by omega)) (by omega)) (by omega)
      exact nmi_5 hP f0 f1 d (k + 1) _ _ (by omega) (by omega) (RB_fr hB hf (fun j => by omega) (fun j => by omega)) hN2 (fun σ' a5 g1 g2 => hq σ' a5 g1 (fr_trans hf g2))
    refine ⟨⟨by omega, by omega⟩, ⟨by omega, by omega⟩, ⟨by omega, by omega⟩, ⟨by omega, by omega⟩, ⟨by omega, by omega⟩, fun e => ?_, fun e => ?_⟩
    · rw [if_pos e] at hs; rw [← hs]; exact go
    · rw [if_neg e] at hs; rw [← hs]; exact go
theorem nmi_12 (hP : okP P) {f : Int} (f0 : 0 ≤ f) (f1 : f ≤ 3) : ∀ (d : Nat) (k : Int) (σ : St) (a5 : Option AV), 0 ≤ k → k + d = P 58 f → RB 12 σ P → NI 12 σ P (stt P f + k) →
    (∀ σ' a5, NI 12 σ' P (stt P (f + 1)) → fr (fun c j => c = 15 ∨ c = 16 ∨ c = 17 ∨ (c = 12 ∧ j = 7)) σ σ' → wp t 85 120 [some (vR 12), some (vI (stt P (f + 1))), some (vI f), some (vI (P 58 f)), some (vI (P 58 f)), a5] [] σ' Q) →
    wp t 85 35 [some (vR 12), some (vI (stt P f + k)), some (vI f), some (vI (P 58 f)), some (vI k), a5] [] σ Q
  | 0, k, σ, a5, k0, hd, hB, hN, hq => by
    have hz := okZ_at hP.1 f0 f1
    rw [x85_35_12]
    refine ⟨⟨⟨by omega, by omega⟩, ⟨by omega, by omega⟩⟩, fun h => by omega, fun _ => ?_⟩
    have e : k = P 58 f := by omega
    have e2 := stt_succ P f0 f1
    subst e
    rw [← e2] at hN ⊢
    exact hq σ a5 hN fr_refl
  | d + 1, k, σ, a5, k0, hd, hB, hN, hq => by
    have hz := okZ_at hP.1 f0 f1
    have hst := stt_rng hP.1 f0 f1
    have htot := tot_rng hP.1
    have hpl := plc_of hP.1 f0 f1 k0 (show k < P 58 f by omega)
    have how := own_of hP.1 f0 f1 k0 (show k < P 58 f by omega)
    have hr : rdI σ 13 (12 * f + k) = bpk P (plc P (stt P f + k)) := by
      rw [rdI_in (n := 48) rfl (by omega) (by omega), ← hpl]
      exact hB.2 (stt P f + k) (by omega) (by omega)
    have hk := bpk_K hP (n := stt P f + k) (by omega) (by omega)
    have hs := sn_succ (P := P) (n := stt P f + k) (by omega)
    have hkr := (hP.2.1 (stt P f + k) (by omega) (by omega)).1
    have g7 : gI σ 12 7 = sn P (stt P f + k) := hN.2
    rw [x85_35_12]
    refine ⟨⟨⟨by omega, by omega⟩, ⟨by omega, by omega⟩⟩, fun h => ?_, fun _ => by omega⟩
    have w8 : ∀ σ v, wrI σ 15 (stt P f + k) v = sI σ 15 (stt P f + k) v := fun _ _ => wrI_in (n := 48) rfl (by omega) (by omega)
    have w9 : ∀ σ v, wrI σ 16 (stt P f + k) v = sI σ 16 (stt P f + k) v := fun _ _ => wrI_in (n := 48) rfl (by omega) (by omega)
    have w10 : ∀ σ v, wrI σ 17 (stt P f + k) v = sI σ 17 (stt P f + k) v := fun _ _ => wrI_in (n := 48) rfl (by omega) (by omega)
    simp only [x85_0_12, x85_14_12, x85_23_12, x85_31_12, x85_41_12, x85_55_12, x85_67_12, x85_76_12, x85_88_12, x85_98_12, x85_102_12, x85_106_12, x85_107_12, x85_120_12, x85_126_12, x85_135_12, k96 (show lc 13 = 101 from rfl), k98 (show lc 15 = 101 from rfl), k98 (show lc 16 = 101 from rfl), k98 (show lc 17 = 101 from rfl), k104, hr, hk, w8, w9, w10, gI_sI, gL_sI, gD_sI, gI_sL, gL_sL, gD_sL, gI_sD, gL_sD, gD_sD, Nat.reduceEqDiff, Int.reduceEq, reduceCtorEq, false_and, and_false, and_self, if_true, if_false, not_false_eq_true, not_true_eq_false, g7, aft_l, aft_r, optL_s, optL_n, xgo_n, xgo_s, List.cons_append, List.nil_append, List.append_nil, true_and, and_true, Nat.sub_zero, Nat.zero_le, true_implies, false_implies, implies_true, not_true_eq_false, not_false_eq_true, true_or, or_true]
    have go : wp t 85 35 [some (vR 12), some (vI (stt P f + k + 1)), some (vI f), some (vI (P 58 f)), some (vI (k + 1)), some (vI (bpk P (plc P (stt P f + k))))] [] (sI (sI (sI (sI σ 15 (stt P f + k) (bpk P (plc P (stt P f + k)))) 16 (stt P f + k) f) 17 (stt P f + k) (sn P (stt P f + k))) 12 7 (sn P (stt P f + k + 1))) Q := by
      have hN2 := NI_step hN
      rw [how] at hN2
      rw [show stt P f + k + 1 = stt P f + (k + 1) by omega] at hN2 ⊢
      have hf : fr (fun c j => c = 15 ∨ c = 16 ∨ c = 17 ∨ (c = 12 ∧ j = 7)) σ (sI (sI (sI (sI σ 15 (stt P f + k) (bpk P (plc P (stt P f + k)))) 16 (stt P f + k) f) 17 (stt P f + k) (sn P (stt P f + k))) 12 7 (sn P (stt P f + (k + 1)))) :=
        fr_sI (fr_sI (fr_sI (fr_sI fr_refl (by omega)) (by omega)) (by omega)) (by omega)
      exact nmi_12 hP f0 f1 d (k + 1) _ _ (by omega) (by omega) (RB_fr hB hf (fun j => by omega) (fun j => by omega)) hN2 (fun σ' a5 g1 g2 => hq σ' a5 g1 (fr_trans hf g2))
    refine ⟨⟨by omega, by omega⟩, ⟨by omega, by omega⟩, ⟨by omega, by omega⟩, ⟨by omega, by omega⟩, ⟨by omega, by omega⟩, fun e => ?_, fun e => ?_⟩
    · rw [if_pos e] at hs; rw [← hs]; exact go
    · rw [if_neg e] at hs; rw [← hs]; exact go
theorem nmo_5 (hP : okP P) : ∀ (d : Nat) (f : Int) (σ : St) (a3 a4 a5 : Option AV), 0 ≤ f → f + d = 4 → RB 5 σ P → NI 5 σ P (stt P f) → (∀ g, 0 ≤ g → g < f → gI σ 11 g = stt P g) →
    (∀ σ', RN 5 σ' P → fr (fun c j => c = 8 ∨ c = 9 ∨ c = 10 ∨ c = 11 ∨ (c = 5 ∧ j = 7)) σ σ' → Q (.inl none) σ') →
    wp t 85 9 [some (vR 5), some (vI (stt P f)), some (vI f), a3, a4, a5] [] σ Q
  | 0, f, σ, a3, a4, a5, f0, hd, hB, hN, hs, hq => by
    have hz := tot_rng hP.1
    have e : f = 4 := by omega
    subst e
    have w : ∀ σ v, wrI σ 11 4 v = sI σ 11 4 v := fun _ _ => wrI_in (n := 5) rfl (by omega) (by omega)
    rw [x85_9_5]
    refine ⟨⟨by omega, by omega⟩, fun h => by omega, fun _ => ?_⟩
    simp only [x85_0_5, x85_14_5, x85_23_5, x85_31_5, x85_41_5, x85_55_5, x85_67_5, x85_76_5, x85_88_5, x85_98_5, x85_102_5, x85_106_5, x85_107_5, x85_120_5, x85_126_5, x85_135_5, k98 (show lc 11 = 101 from rfl), w, aft_l, aft_r, optL_s, optL_n, xgo_n, xgo_s, List.cons_append, List.nil_append, List.append_nil, true_and, and_true, Nat.sub_zero, Nat.zero_le, true_implies, false_implies, implies_true, not_true_eq_false, not_false_eq_true, true_or, or_true]
    refine ⟨⟨by omega, by omega⟩, hq _ ⟨?_, ?_⟩ (fr_sI fr_refl (by omega))⟩
    · exact NI_fr (M := fun c j => c = 11) hN (fr_sI fr_refl rfl) (fun j => by omega) (fun j => by omega) (fun j => by omega) (by omega)
    · intro g g0 g1
      show gI (sI σ 11 4 (stt P 4)) 11 g = stt P g
      rw [gI_sI]
      by_cases c : g = 4
      · rw [if_pos ⟨rfl, c⟩, c]
      · rw [if_neg (fun h => c h.2)]; exact hs g g0 (by omega)
  | d + 1, f, σ, a3, a4, a5, f0, hd, hB, hN, hs, hq => by
    have hz := okZ_at hP.1 f0 (by omega)
    have hst := stt_rng hP.1 f0 (by omega)
    have htot := tot_rng hP.1
    have w : ∀ σ v, wrI σ 11 f v = sI σ 11 f v := fun _ _ => wrI_in (n := 5) rfl (by omega) (by omega)
    have hr : ∀ v, rdI (sI σ 11 f v) 7 f = P 58 f := fun v => by
      rw [rdI_in (n := 4) rfl (by omega) (by omega), gI_sI, if_neg (by omega)]
      exact hB.1 f f0 (by omega)
    rw [x85_9_5]
    refine ⟨⟨by omega, by omega⟩, fun h => ?_, fun _ => by omega⟩
    simp only [x85_0_5, x85_14_5, x85_23_5, x85_31_5, x85_41_5, x85_55_5, x85_67_5, x85_76_5, x85_88_5, x85_98_5, x85_102_5, x85_106_5, x85_107_5, x85_120_5, x85_126_5, x85_135_5, k98 (show lc 11 = 101 from rfl), k96 (show lc 7 = 101 from rfl), w, hr, aft_l, aft_r, optL_s, optL_n, xgo_n, xgo_s, List.cons_append, List.nil_append, List.append_nil, true_and, and_true, Nat.sub_zero, Nat.zero_le, true_implies, false_implies, implies_true, not_true_eq_false, not_false_eq_true, true_or, or_true]
    refine ⟨⟨by omega, by omega⟩, ⟨by omega, by omega⟩, ?_⟩
    have hf : fr (fun c j => c = 11) σ (sI σ 11 f (stt P f)) := fr_sI fr_refl rfl
    have hN2 := NI_fr hN hf (fun j => by omega) (fun j => by omega) (fun j => by omega) (by omega)
    have hB2 := RB_fr hB hf (fun j => by omega) (fun j => by omega)
    rw [show stt P f = stt P f + 0 by omega] at hN2
    have key := nmi_5 (t := t) (Q := Q) hP f0 (show f ≤ 3 by omega) (P 58 f).toNat 0 (sI σ 11 f (stt P f)) a5 (by omega) (by omega) hB2 hN2 (fun σ' a5 g1 g2 => by
      rw [x85_120_5]
      have hf2 : fr (fun c j => c = 8 ∨ c = 9 ∨ c = 10 ∨ c = 11 ∨ (c = 5 ∧ j = 7)) σ σ' := fr_trans (fr_mono hf (fun c j h => by omega)) (fr_mono g2 (fun c j h => by omega))
      refine nmo_5 hP d (f + 1) σ' _ _ _ (by omega) (by omega) (RB_fr hB hf2 (fun j => by omega) (fun j => by omega)) g1 (fun g g0 g3 => ?_) (fun σ'' h1 h2 => hq σ'' h1 (fr_trans hf2 h2))
      have e1 : gI σ' 11 g = gI (sI σ 11 f (stt P f)) 11 g := fr_I g2 _ _ (by omega)
      rw [e1, gI_sI]
      by_cases c : g = f
      · rw [if_pos ⟨rfl, c⟩, c]
      · rw [if_neg (fun h => c h.2)]; exact hs g g0 (by omega))
    rw [show stt P f + 0 = stt P f by omega] at key
    exact key
/-- Program.number -/
theorem c85_5 (hP : okP P) (hB : RB 5 σ P) (hq : ∀ σ', RN 5 σ' P → fr (fun c j => c = 8 ∨ c = 9 ∨ c = 10 ∨ c = 11 ∨ (c = 5 ∧ j = 7)) σ σ' → Q (.inl none) σ') : Call t 85 [vR 5] σ Q := by
  rw [x85_0_5]
  have hf : fr (fun c j => c = 5 ∧ j = 7) σ (sI σ 5 7 0) := fr_sI fr_refl ⟨rfl, rfl⟩
  refine nmo_5 hP 4 0 _ _ _ _ (by omega) (by omega) (RB_fr hB hf (fun j => by omega) (fun j => by omega)) ⟨fun m m0 m1 => ?_, ?_⟩ (fun g g0 g1 => by omega) (fun σ' h1 h2 => hq σ' h1 (fr_trans (fr_mono hf (fun c j h => by omega)) h2))
  · rw [stt0] at m1; omega
  · rw [stt0, gI_sI, if_pos ⟨rfl, rfl⟩]; rfl
theorem nmo_12 (hP : okP P) : ∀ (d : Nat) (f : Int) (σ : St) (a3 a4 a5 : Option AV), 0 ≤ f → f + d = 4 → RB 12 σ P → NI 12 σ P (stt P f) → (∀ g, 0 ≤ g → g < f → gI σ 18 g = stt P g) →
    (∀ σ', RN 12 σ' P → fr (fun c j => c = 15 ∨ c = 16 ∨ c = 17 ∨ c = 18 ∨ (c = 12 ∧ j = 7)) σ σ' → Q (.inl none) σ') →
    wp t 85 9 [some (vR 12), some (vI (stt P f)), some (vI f), a3, a4, a5] [] σ Q
  | 0, f, σ, a3, a4, a5, f0, hd, hB, hN, hs, hq => by
    have hz := tot_rng hP.1
    have e : f = 4 := by omega
    subst e
    have w : ∀ σ v, wrI σ 18 4 v = sI σ 18 4 v := fun _ _ => wrI_in (n := 5) rfl (by omega) (by omega)
    rw [x85_9_12]
    refine ⟨⟨by omega, by omega⟩, fun h => by omega, fun _ => ?_⟩
    simp only [x85_0_12, x85_14_12, x85_23_12, x85_31_12, x85_41_12, x85_55_12, x85_67_12, x85_76_12, x85_88_12, x85_98_12, x85_102_12, x85_106_12, x85_107_12, x85_120_12, x85_126_12, x85_135_12, k98 (show lc 18 = 101 from rfl), w, aft_l, aft_r, optL_s, optL_n, xgo_n, xgo_s, List.cons_append, List.nil_append, List.append_nil, true_and, and_true, Nat.sub_zero, Nat.zero_le, true_implies, false_implies, implies_true, not_true_eq_false, not_false_eq_true, true_or, or_true]
    refine ⟨⟨by omega, by omega⟩, hq _ ⟨?_, ?_⟩ (fr_sI fr_refl (by omega))⟩
    · exact NI_fr (M := fun c j => c = 18) hN (fr_sI fr_refl rfl) (fun j => by omega) (fun j => by omega) (fun j => by omega) (by omega)
    · intro g g0 g1
      show gI (sI σ 18 4 (stt P 4)) 18 g = stt P g
      rw [gI_sI]
      by_cases c : g = 4
      · rw [if_pos ⟨rfl, c⟩, c]
      · rw [if_neg (fun h => c h.2)]; exact hs g g0 (by omega)
  | d + 1, f, σ, a3, a4, a5, f0, hd, hB, hN, hs, hq => by
    have hz := okZ_at hP.1 f0 (by omega)
    have hst := stt_rng hP.1 f0 (by omega)
    have htot := tot_rng hP.1
    have w : ∀ σ v, wrI σ 18 f v = sI σ 18 f v := fun _ _ => wrI_in (n := 5) rfl (by omega) (by omega)
    have hr : ∀ v, rdI (sI σ 18 f v) 14 f = P 58 f := fun v => by
      rw [rdI_in (n := 4) rfl (by omega) (by omega), gI_sI, if_neg (by omega)]
      exact hB.1 f f0 (by omega)
    rw [x85_9_12]
    refine ⟨⟨by omega, by omega⟩, fun h => ?_, fun _ => by omega⟩
    simp only [x85_0_12, x85_14_12, x85_23_12, x85_31_12, x85_41_12, x85_55_12, x85_67_12, x85_76_12, x85_88_12, x85_98_12, x85_102_12, x85_106_12, x85_107_12, x85_120_12, x85_126_12, x85_135_12, k98 (show lc 18 = 101 from rfl), k96 (show lc 14 = 101 from rfl), w, hr, aft_l, aft_r, optL_s, optL_n, xgo_n, xgo_s, List.cons_append, List.nil_append, List.append_nil, true_and, and_true, Nat.sub_zero, Nat.zero_le, true_implies, false_implies, implies_true, not_true_eq_false, not_false_eq_true, true_or, or_true]
    refine ⟨⟨by omega, by omega⟩, ⟨by omega, by omega⟩, ?_⟩
    have hf : fr (fun c j => c = 18) σ (sI σ 18 f (stt P f)) := fr_sI fr_refl rfl
    have hN2 := NI_fr hN hf (fun j => by omega) (fun j => by omega) (fun j => by omega) (by omega)
    have hB2 := RB_fr hB hf (fun j => by omega) (fun j => by omega)
    rw [show stt P f = stt P f + 0 by omega] at hN2
    have key := nmi_12 (t := t) (Q := Q) hP f0 (show f ≤ 3 by omega) (P 58 f).toNat 0 (sI σ 18 f (stt P f)) a5 (by omega) (by omega) hB2 hN2 (fun σ' a5 g1 g2 => by
      rw [x85_120_12]
      have hf2 : fr (fun c j => c = 15 ∨ c = 16 ∨ c = 17 ∨ c = 18 ∨ (c = 12 ∧ j = 7)) σ σ' := fr_trans (fr_mono hf (fun c j h => by omega)) (fr_mono g2 (fun c j h => by omega))
      refine nmo_12 hP d (f + 1) σ' _ _ _ (by omega) (by omega) (RB_fr hB hf2 (fun j => by omega) (fun j => by omega)) g1 (fun g g0 g3 => ?_) (fun σ'' h1 h2 => hq σ'' h1 (fr_trans hf2 h2))
      have e1 : gI σ' 18 g = gI (sI σ 18 f (stt P f)) 18 g := fr_I g2 _ _ (by omega)
      rw [e1, gI_sI]
      by_cases c : g = f
      · rw [if_pos ⟨rfl, c⟩, c]
      · rw [if_neg (fun h => c h.2)]; exact hs g g0 (by omega))
    rw [show stt P f + 0 = stt P f by omega] at key
    exact key
/-- Program.number -/
theorem c85_12 (hP : okP P) (hB : RB 12 σ P) (hq : ∀ σ', RN 12 σ' P → fr (fun c j => c = 15 ∨ c = 16 ∨ c = 17 ∨ c = 18 ∨ (c = 12 ∧ j = 7)) σ σ' → Q (.inl none) σ') : Call t 85 [vR 12] σ Q := by
  rw [x85_0_12]
  have hf : fr (fun c j => c = 12 ∧ j = 7) σ (sI σ 12 7 0) := fr_sI fr_refl ⟨rfl, rfl⟩
  refine nmo_12 hP 4 0 _ _ _ _ (by omega) (by omega) (RB_fr hB hf (fun j => by omega) (fun j => by omega)) ⟨fun m m0 m1 => ?_, ?_⟩ (fun g g0 g1 => by omega) (fun σ' h1 h2 => hq σ' h1 (fr_trans (fr_mono hf (fun c j h => by omega)) h2))
  · rw [stt0] at m1; omega
  · rw [stt0, gI_sI, if_pos ⟨rfl, rfl⟩]; rfl
end CP

