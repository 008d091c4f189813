/-! the class's contexts -/
def GE (b : Nat) (σ : St) : Prop := ∀ i : Int, 0 ≤ i → i < 31 → 0 ≤ gI σ (b + 1) i ∧ gI σ (b + 1) i < 9412
def CA (b : Nat) (σ : St) (xs : List Int) : Prop := (asA σ (b + 1) xs ∧ GE b σ) ∧ (gI σ b 2 = xs.length ∧ xs.length ≤ 31)
def WL (P : Pg) (lim : Int) (xs : List Int) : Prop := xs.Nodup ∧ ∀ x ∈ xs, RS P lim x
theorem WL_len {P : Pg} (hP : okP P) {lim : Int} {xs : List Int} (h : WL P lim xs) : xs.length ≤ 31 := cx_len hP h.1 h.2
theorem WL_app {P : Pg} {lim : Int} {xs : List Int} {w : Int} (h : WL P lim xs) (hw : RS P lim w) (hn : w ∉ xs) : WL P lim (xs ++ [w]) :=
  ⟨nd_app h.1 hn, fun x hx => by
    rcases List.mem_append.mp hx with g | g
    · exact h.2 x g
    · rw [List.mem_singleton.mp g]; exact hw⟩
theorem RS_key {P : Pg} (hP : okP P) {lim e : Int} (h : RS P lim e) : (0 ≤ e ∧ e < 9412) ∧ (0 ≤ e / 2353 ∧ e / 2353 ≤ 3) ∧ (0 ≤ e % 2353 ∧ e % 2353 < 2353) := by
  have := RS_rng hP h
  omega
theorem isCall_of {P : Pg} (hz : okZ P) {f n : Int} (f0 : 0 ≤ f) (f1 : f ≤ 3) (n0 : stt P f ≤ n) (n1 : n < stt P (f + 1)) (hk : kd P n = 6) : isCall P n ∧ own P n = f := by
  have h1 := stt_rng hz f0 f1
  have h2 := stt_succ P f0 f1
  have h3 := own_of hz f0 f1 (k := n - stt P f) (by omega) (by omega)
  rw [show stt P f + (n - stt P f) = n by omega] at h3
  exact ⟨⟨by omega, by omega, hk⟩, h3⟩
theorem call_of {P : Pg} (hz : okZ P) {c : Int} (h : isCall P c) : stt P (own P c) ≤ c ∧ c < stt P (own P c + 1) := by
  obtain ⟨h1, h2, h3⟩ := own_spec hz h.1 h.2.1
  rw [stt_succ P h1.1 h1.2]; exact ⟨h2, h3⟩
section CC
variable {t : Nat} {σ : St} {Q : Res → St → Prop} {P : Pg}
theorem k17 {k : Int} (h0 : 0 ≤ k) (h1 : k < 2353) : Call t 17 [vI k] σ Q ↔ Q (.inl (some (vI (lst k)))) σ := by
  simp only [x17_0, x17_6, x17_16, x17_19, aft_l, aft_r, optL_s, optL_n, xgo_n, xgo_s, List.cons_append, List.nil_append, List.append_nil, true_and, and_true, Nat.sub_zero, Nat.zero_le, true_implies, false_implies, implies_true, not_true_eq_false, not_false_eq_true, true_or, or_true]
  unfold lst
  by_cases c : k < 49
  · rw [if_neg (by omega)]; exact ⟨fun h => h.2.1 c, fun h => ⟨⟨by omega, by omega⟩, fun _ => h, fun g => absurd c g⟩⟩
  · rw [if_pos (by omega)]; exact ⟨fun h => (h.2.2 c).2, fun h => ⟨⟨by omega, by omega⟩, fun g => absurd g c, fun _ => ⟨⟨by omega, by omega⟩, h⟩⟩⟩
theorem lst_rng {k : Int} (h0 : k ≠ 0) (h1 : 0 ≤ k) (h2 : k < 2353) : 0 ≤ lst k ∧ lst k < 48 := by unfold lst; split <;> omega
theorem ext_rng {lim k c : Int} (h1 : 0 ≤ k) (h2 : k < 2353) (c0 : 0 ≤ c) (c1 : c < 48) : 0 ≤ ext lim k c ∧ ext lim k c < 2353 := by
  unfold ext
  by_cases a : lim = 0
  · rw [if_pos a]; omega
  · rw [if_neg a]
    by_cases b : lim = 1 ∨ k = 0
    · rw [if_pos b]; omega
    · rw [if_neg b]; have := lst_rng (k := k) (by omega) h1 h2; omega
theorem k16_20 {lim k c : Int} (hl : gI σ 20 3 = lim) (l0 : 0 ≤ lim) (l1 : lim ≤ 2) (h0 : 0 ≤ k) (h1 : k < 2353) : Call t 16 [vR 20, vI k, vI c] σ Q ↔ Q (.inl (some (vI (ext lim k c)))) σ := by
  simp only [x16_0_20, x16_7_20, x16_9_20, x16_17_20, x16_21_20, x16_25_20, x16_31_20, k17 h0 h1, hl, aft_l, aft_r, optL_s, optL_n, xgo_n, xgo_s, List.cons_append, List.nil_append, List.append_nil, true_and, and_true, Nat.sub_zero, Nat.zero_le, true_implies, false_implies, implies_true, not_true_eq_false, not_false_eq_true, true_or, or_true]
  unfold ext
  by_cases a : lim = 0
  · rw [if_pos a]; exact ⟨fun h => h.2.1 a, fun h => ⟨⟨by omega, by omega⟩, fun _ => h, fun g => absurd a g⟩⟩
  · rw [if_neg a]
    by_cases b : lim = 1
    · rw [if_pos (Or.inl b)]
      exact ⟨fun h => (h.2.2 a).2.1 b, fun h => ⟨⟨by omega, by omega⟩, fun g => absurd g a, fun _ => ⟨⟨by omega, by omega⟩, fun _ => h, fun g => absurd b g⟩⟩⟩
    · by_cases d : k = 0
      · rw [if_pos (Or.inr d)]
        exact ⟨fun h => ((h.2.2 a).2.2 b).2.1 d, fun h => ⟨⟨by omega, by omega⟩, fun g => absurd g a, fun _ => ⟨⟨by omega, by omega⟩, fun g => absurd g b, fun _ => ⟨⟨by omega, by omega⟩, fun _ => h, fun g => absurd d g⟩⟩⟩⟩
      · rw [if_neg (by omega)]
        exact ⟨fun h => ((h.2.2 a).2.2 b).2.2 d, fun h => ⟨⟨by omega, by omega⟩, fun g => absurd g a, fun _ => ⟨⟨by omega, by omega⟩, fun g => absurd g b, fun _ => ⟨⟨by omega, by omega⟩, fun g => absurd g d, fun _ => h⟩⟩⟩⟩
theorem fnd_20 {xs : List Int} {w : Int} (hC : CA 20 σ xs) (hx : ∀ x ∈ xs, inR x) (hw : inR w) (h1 : ∀ i : Int, 0 ≤ i → i < xs.length → la xs i = w → Q (.inl (some (vI i))) σ) (h2 : w ∉ xs → Q (.inl (some (vI (-1)))) σ) :
    ∀ (d : Nat) (i : Int), 0 ≤ i → i + d = xs.length → (∀ j, 0 ≤ j → j < i → la xs j ≠ w) → wp t 19 2 [some (vR 20), some (vI w), some (vI i)] [] σ Q
  | 0, i, i0, hd, hn => by
    have hl := hC.2.2
    rw [x19_2_20, hC.2.1]
    refine ⟨⟨⟨by omega, by omega⟩, ⟨by omega, by omega⟩⟩, fun h => by omega, fun _ => ?_⟩
    rw [x19_30_20]
    exact h2 (fun hm => by
      obtain ⟨j, j0, j1, e⟩ := mem_la hm
      exact hn j j0 (by omega) e)
  | d + 1, i, i0, hd, hn => by
    have hl := hC.2.2
    have hr : rdI σ 21 i = la xs i := by rw [rdI_in (n := 31) rfl i0 (by omega)]; exact hC.1.1 i i0 (by omega)
    have hi := hx _ (la_mem i0 (show i < xs.length by omega))
    rw [x19_2_20, hC.2.1]
    refine ⟨⟨⟨by omega, by omega⟩, ⟨by omega, by omega⟩⟩, fun h => ?_, fun _ => by omega⟩
    simp only [x19_0_20, x19_10_20, x19_18_20, x19_22_20, x19_24_20, x19_30_20, k96 (show lc 21 = 101 from rfl), hr, aft_l, aft_r, optL_s, optL_n, xgo_n, xgo_s, List.cons_append, List.nil_append, List.append_nil, true_and, and_true, Nat.sub_zero, Nat.zero_le, true_implies, false_implies, implies_true, not_true_eq_false, not_false_eq_true, true_or, or_true]
    refine ⟨⟨by omega, by omega⟩, ⟨hi, hw⟩, fun e => h1 i i0 (by omega) e, fun e => ?_⟩
    exact fnd_20 hC hx hw h1 h2 d (i + 1) (by omega) (by omega) (fun j j0 j1 => by
      by_cases c : j = i
      · rw [c]; exact e
      · exact hn j j0 (by omega))
/-- Contexts.find -/
theorem c19_20 {xs : List Int} {w : Int} (hC : CA 20 σ xs) (hx : ∀ x ∈ xs, inR x) (hw : inR w) (h1 : ∀ i : Int, 0 ≤ i → i < xs.length → la xs i = w → Q (.inl (some (vI i))) σ) (h2 : w ∉ xs → Q (.inl (some (vI (-1)))) σ) : Call t 19 [vR 20, vI w] σ Q := by
  rw [x19_0_20]
  exact fnd_20 hC hx hw h1 h2 xs.length 0 (by omega) (by omega) (fun j j0 j1 => by omega)
/-- Contexts.enter -/
theorem c18_20 {xs : List Int} {w : Int} (hC : CA 20 σ xs) (hx : ∀ x ∈ xs, inR x) (hwr : 0 ≤ w ∧ w < 9412) (hn : w ∉ xs → xs.length < 31) (h1 : w ∈ xs → Q (.inl none) σ)
    (h2 : w ∉ xs → ∀ σ', CA 20 σ' (xs ++ [w]) → fr (fun c j => c = 21 ∨ (c = 20 ∧ j = 2)) σ σ' → Q (.inl none) σ') : Call t 18 [vR 20, vI w] σ Q := by
  have hl := hC.2.2
  have hw : inR w := ⟨by omega, by omega⟩
  rw [x18_0_20]
  refine c19_20 hC hx hw (fun i i0 i1 e => ?_) (fun hm => ?_)
  · simp only [x18_0_20, x18_5_20, x18_8_20, x18_17_20, x18_29_20, x18_39_20, aft_l, aft_r, optL_s, optL_n, xgo_n, xgo_s, List.cons_append, List.nil_append, List.append_nil, true_and, and_true, Nat.sub_zero, Nat.zero_le, true_implies, false_implies, implies_true, not_true_eq_false, not_false_eq_true, true_or, or_true]
    exact ⟨⟨by omega, by omega⟩, fun g => by omega, fun _ => h1 (e ▸ la_mem i0 i1)⟩
  · have hlt := hn hm
    have w1 : wrI σ 21 (xs.length : Int) w = sI σ 21 (xs.length : Int) w := wrI_in (n := 31) rfl (by omega) (by omega)
    simp only [x18_0_20, x18_5_20, x18_8_20, x18_17_20, x18_29_20, x18_39_20, k98 (show lc 21 = 101 from rfl), hC.2.1, w1, gI_sI, gL_sI, gD_sI, gI_sL, gL_sL, gD_sL, gI_sD, gL_sD, gD_sD, Nat.reduceEqDiff, Int.reduceEq, reduceCtorEq, false_and, and_false, and_self, if_true, if_false, not_false_eq_true, not_true_eq_false, aft_l, aft_r, optL_s, optL_n, xgo_n, xgo_s, List.cons_append, List.nil_append, List.append_nil, true_and, and_true, Nat.sub_zero, Nat.zero_le, true_implies, false_implies, implies_true, not_true_eq_false, not_false_eq_true, true_or, or_true]
    refine ⟨⟨by omega, by omega⟩, fun _ => ⟨⟨by omega, by omega⟩, fun _ => ⟨⟨by omega, by omega⟩, ?_⟩, fun g => by omega⟩, fun g => by omega⟩
    have hf : fr (fun c j => c = 21 ∨ (c = 20 ∧ j = 2)) σ (sI (sI σ 21 (xs.length : Int) w) 20 2 ((xs.length : Int) + 1)) := fr_sI (fr_sI fr_refl (by omega)) (by omega)
    have e : gI (sI σ 21 (xs.length : Int) w) 20 2 = xs.length := by rw [gI_sI, if_neg (by omega)]; exact hC.2.1
    first
      | refine h2 hm _ ⟨⟨?_, ?_⟩, ?_, ?_⟩ hf
      | (rw [e]; refine h2 hm _ ⟨⟨?_, ?_⟩, ?_, ?_⟩ hf)
    · exact asA_fr (M := fun c _ => c = 20) (asA_app hC.1.1) (fr_sI fr_refl rfl) (fun j => by omega)
    · intro i i0 i1
      show 0 ≤ gI (sI (sI σ 21 (xs.length : Int) w) 20 2 ((xs.length : Int) + 1)) 21 i ∧ gI (sI (sI σ 21 (xs.length : Int) w) 20 2 ((xs.length : Int) + 1)) 21 i < 9412
      rw [gI_sI, if_neg (by omega), gI_sI]
      by_cases c : i = (xs.length : Int)
      · rw [if_pos ⟨rfl, c⟩]; exact hwr
      · rw [if_neg (fun g => c g.2)]; exact hC.1.2 i i0 i1
    · rw [gI_sI, if_pos ⟨rfl, rfl⟩, List.length_append, List.length_singleton]; omega
    · rw [List.length_append, List.length_singleton]; omega
theorem CA_fr_20 {M : Nat → Int → Prop} {σ σ' : St} {xs : List Int} (h : CA 20 σ xs) (g : fr M σ σ') (h1 : ∀ j, ¬ M 21 j) (h2 : ¬ M 20 2) : CA 20 σ' xs := ⟨⟨asA_fr h.1.1 g h1, fun i i0 i1 => by
    have e := fr_I g 21 i (h1 i)
    show 0 ≤ gI σ' 21 i ∧ gI σ' 21 i < 9412
    rw [e]; exact h.1.2 i i0 i1⟩, (fr_I g _ _ h2).trans h.2.1, h.2.2⟩
theorem fcl_20 (hP : okP P) {lim e : Int} (hl0 : 0 ≤ lim ∧ lim ≤ 2) {xs : List Int} (he : e ∈ xs) (hq : ∀ σ' ys, WL P lim (xs ++ ys) → CA 20 σ' (xs ++ ys) → (∀ e', stepC P lim e e' → e' ∈ xs ++ ys) → fr (fun c j => c = 21 ∨ (c = 20 ∧ j = 2)) σ σ' → Q (.inl none) σ') :
    ∀ (d : Nat) (n : Int) (σ1 : St) (ys : List Int), stt P (e / 2353) ≤ n → n + d = stt P (e / 2353 + 1) → RN 5 σ1 P → gI σ1 20 3 = lim → fr (fun c j => c = 21 ∨ (c = 20 ∧ j = 2)) σ σ1 → WL P lim (xs ++ ys) → CA 20 σ1 (xs ++ ys) →
    (∀ c, isCall P c → own P c = e / 2353 → c < n → nn P c * 2353 + ext lim (e % 2353) c ∈ xs ++ ys) → wp t 15 13 [some (vR 20), some (vR 5), some (vI e), some (vI (e / 2353)), some (vI n)] [] σ1 Q
  | 0, n, σ1, ys, n0, hd, hN, hl, hf, hW, hC, hi => by
    have hk := RS_key hP (hW.2 e (List.mem_append_left _ he))
    have ht := tot_rng hP.1
    have hs := stt_rng hP.1 hk.2.1.1 hk.2.1.2
    have hs1 := stt_succ P hk.2.1.1 hk.2.1.2
    rw [x15_13_20, e89 hN hk.2.1.1 hk.2.1.2]
    simp only [x15_0_20, x15_11_20, x15_20_20, x15_23_20, x15_29_20, x15_34_20, x15_41_20, x15_56_20, x15_60_20, x15_66_20, aft_l, aft_r, optL_s, optL_n, xgo_n, xgo_s, List.cons_append, List.nil_append, List.append_nil, true_and, and_true, Nat.sub_zero, Nat.zero_le, true_implies, false_implies, implies_true, not_true_eq_false, not_false_eq_true, true_or, or_true]
    refine ⟨⟨⟨by omega, by omega⟩, ⟨by omega, by omega⟩⟩, fun h => by omega, fun _ => hq σ1 ys hW hC (fun e' h => ?_) hf⟩
    obtain ⟨c, h1, h2, rfl⟩ := h
    have h3 := call_of hP.1 h1
    rw [h2] at h3
    exact hi c h1 h2 (by omega)
  | d + 1, n, σ1, ys, n0, hd, hN, hl, hf, hW, hC, hi => by
    have hk := RS_key hP (hW.2 e (List.mem_append_left _ he))
    have ht := tot_rng hP.1
    have hs := stt_rng hP.1 hk.2.1.1 hk.2.1.2
    have hs1 := stt_succ P hk.2.1.1 hk.2.1.2
    have n1 : 0 ≤ n := by omega
    have n2 : n < tot P := by omega
    have hk2 := (hP.2.1 n n1 n2).1
    rw [x15_13_20, e89 hN hk.2.1.1 hk.2.1.2]
    simp only [x15_0_20, x15_11_20, x15_20_20, x15_23_20, x15_29_20, x15_34_20, x15_41_20, x15_56_20, x15_60_20, x15_66_20, e90 hP hN n1 n2, e93 hP hN n1 n2, k16_20 hl hl0.1 hl0.2 hk.2.2.1 hk.2.2.2, aft_l, aft_r, optL_s, optL_n, xgo_n, xgo_s, List.cons_append, List.nil_append, List.append_nil, true_and, and_true, Nat.sub_zero, Nat.zero_le, true_implies, false_implies, implies_true, not_true_eq_false, not_false_eq_true, true_or, or_true]
    refine ⟨⟨⟨by omega, by omega⟩, ⟨by omega, by omega⟩⟩, fun h => ⟨⟨by omega, by omega⟩, fun h6 => ⟨⟨by omega, by omega⟩, ?_⟩, fun h6 => ?_⟩, fun _ => by omega⟩
    · obtain ⟨hc, ho⟩ := isCall_of hP.1 hk.2.1.1 hk.2.1.2 n0 (by omega) h6
      have hst : stepC P lim e (nn P n * 2353 + ext lim (e % 2353) n) := ⟨n, hc, ho, rfl⟩
      have hR := RS_step (hW.2 e (List.mem_append_left _ he)) hst
      have hRk := RS_key hP hR
      have hin : ∀ x ∈ xs ++ ys, inR x := fun x hx => by
        have := RS_rng hP (hW.2 x hx); exact ⟨by omega, by omega⟩
      refine c18_20 hC hin hRk.1 (fun hm => ?_) (fun hm => ?_) (fun hm σ' hC' hf' => ?_)
      · have := WL_len hP (WL_app hW hR hm)
        rw [List.length_append, List.length_singleton] at this; omega
      · simp only [x15_0_20, x15_11_20, x15_20_20, x15_23_20, x15_29_20, x15_34_20, x15_41_20, x15_56_20, x15_60_20, x15_66_20, aft_l, aft_r, optL_s, optL_n, xgo_n, xgo_s, List.cons_append, List.nil_append, List.append_nil, true_and, and_true, Nat.sub_zero, Nat.zero_le, true_implies, false_implies, implies_true, not_true_eq_false, not_false_eq_true, true_or, or_true]
        refine fcl_20 hP hl0 he hq d (n + 1) σ1 ys (by omega) (by omega) hN hl hf hW hC (fun c h1 h2 h3 => ?_)
        by_cases q : c = n
        · rw [q]; exact hm
        · exact hi c h1 h2 (by omega)
      · simp only [x15_0_20, x15_11_20, x15_20_20, x15_23_20, x15_29_20, x15_34_20, x15_41_20, x15_56_20, x15_60_20, x15_66_20, aft_l, aft_r, optL_s, optL_n, xgo_n, xgo_s, List.cons_append, List.nil_append, List.append_nil, true_and, and_true, Nat.sub_zero, Nat.zero_le, true_implies, false_implies, implies_true, not_true_eq_false, not_false_eq_true, true_or, or_true]
        have hW' := WL_app hW hR hm
        rw [List.append_assoc] at hC' hW'
        refine fcl_20 hP hl0 he hq d (n + 1) σ' _ (by omega) (by omega) (RN_fr hN hf' (fun j => by omega) (fun j => by omega) (fun j => by omega) (fun j => by omega) (by omega)) ((fr_I hf' _ _ (by omega)).trans hl) (fr_trans hf hf') hW' hC' (fun c h1 h2 h3 => ?_)
        rw [← List.append_assoc]
        by_cases q : c = n
        · rw [q]; exact List.mem_append_right _ (List.mem_singleton.mpr rfl)
        · exact List.mem_append_left _ (hi c h1 h2 (by omega))
    · refine fcl_20 hP hl0 he hq d (n + 1) σ1 ys (by omega) (by omega) hN hl hf hW hC (fun c h1 h2 h3 => ?_)
      by_cases q : c = n
      · rw [q] at h1; exact absurd h1.2.2 h6
      · exact hi c h1 h2 (by omega)
/-- Contexts.followCalls -/
theorem c15_20 (hP : okP P) {lim e : Int} (hl0 : 0 ≤ lim ∧ lim ≤ 2) {xs : List Int} (he : e ∈ xs) (hN : RN 5 σ P) (hl : gI σ 20 3 = lim) (hW : WL P lim xs) (hC : CA 20 σ xs)
    (hq : ∀ σ' ys, WL P lim (xs ++ ys) → CA 20 σ' (xs ++ ys) → (∀ e', stepC P lim e e' → e' ∈ xs ++ ys) → fr (fun c j => c = 21 ∨ (c = 20 ∧ j = 2)) σ σ' → Q (.inl none) σ') : Call t 15 [vR 20, vR 5, vI e] σ Q := by
  have hk := RS_key hP (hW.2 e he)
  have hs := stt_rng hP.1 hk.2.1.1 hk.2.1.2
  have hs1 := stt_succ P hk.2.1.1 hk.2.1.2
  have hz := okZ_at hP.1 hk.2.1.1 hk.2.1.2
  rw [x15_0_20, e88 hN hk.2.1.1 (by omega)]
  simp only [x15_11_20, aft_l, aft_r, optL_s, optL_n, xgo_n, xgo_s, List.cons_append, List.nil_append, List.append_nil, true_and, and_true, Nat.sub_zero, Nat.zero_le, true_implies, false_implies, implies_true, not_true_eq_false, not_false_eq_true, true_or, or_true]
  refine ⟨⟨by omega, by omega⟩, ?_⟩
  refine fcl_20 hP hl0 he hq (P 58 (e / 2353)).toNat _ σ [] (by omega) (by omega) hN hl fr_refl (by rw [List.append_nil]; exact hW) (by rw [List.append_nil]; exact hC) (fun c h1 h2 h3 => ?_)
  have h4 := call_of hP.1 h1
  rw [h2] at h4; omega
theorem k16_31 {lim k c : Int} (hl : gI σ 31 3 = lim) (l0 : 0 ≤ lim) (l1 : lim ≤ 2) (h0 : 0 ≤ k) (h1 : k < 2353) : Call t 16 [vR 31, vI k, vI c] σ Q ↔ Q (.inl (some (vI (ext lim k c)))) σ := by
  simp only [x16_0_31, x16_7_31, x16_9_31, x16_17_31, x16_21_31, x16_25_31, x16_31_31, k17 h0 h1, hl, aft_l, aft_r, optL_s, optL_n, xgo_n, xgo_s, List.cons_append, List.nil_append, List.append_nil, true_and, and_true, Nat.sub_zero, Nat.zero_le, true_implies, false_implies, implies_true, not_true_eq_false, not_false_eq_true, true_or, or_true]
  unfold ext
  by_cases a : lim = 0
  · rw [if_pos a]; exact ⟨fun h => h.2.1 a, fun h => ⟨⟨by omega, by omega⟩, fun _ => h, fun g => absurd a g⟩⟩
  · rw [if_neg a]
    by_cases b : lim = 1
    · rw [if_pos (Or.inl b)]
      exact ⟨fun h => (h.2.2 a).2.1 b, fun h => ⟨⟨by omega, by omega⟩, fun g => absurd g a, fun _ => ⟨⟨by omega, by omega⟩, fun _ => h, fun g => absurd b g⟩⟩⟩
    · by_cases d : k = 0
      · rw [if_pos (Or.inr d)]
        exact ⟨fun h => ((h.2.2 a).2.2 b).2.1 d, fun h => ⟨⟨by omega, by omega⟩, fun g => absurd g a, fun _ => ⟨⟨by omega, by omega⟩, fun g => absurd g b, fun _ => ⟨⟨by omega, by omega⟩, fun _ => h, fun g => absurd d g⟩⟩⟩⟩
      · rw [if_neg (by omega)]
        exact ⟨fun h => ((h.2.2 a).2.2 b).2.2 d, fun h => ⟨⟨by omega, by omega⟩, fun g => absurd g a, fun _ => ⟨⟨by omega, by omega⟩, fun g => absurd g b, fun _ => ⟨⟨by omega, by omega⟩, fun g => absurd g d, fun _ => h⟩⟩⟩⟩
theorem fnd_31 {xs : List Int} {w : Int} (hC : CA 31 σ xs) (hx : ∀ x ∈ xs, inR x) (hw : inR w) (h1 : ∀ i : Int, 0 ≤ i → i < xs.length → la xs i = w → Q (.inl (some (vI i))) σ) (h2 : w ∉ xs → Q (.inl (some (vI (-1)))) σ) :
    ∀ (d : Nat) (i : Int), 0 ≤ i → i + d = xs.length → (∀ j, 0 ≤ j → j < i → la xs j ≠ w) → wp t 19 2 [some (vR 31), some (vI w), some (vI i)] [] σ Q
  | 0, i, i0, hd, hn => by
    have hl := hC.2.2
    rw [x19_2_31, hC.2.1]
    refine ⟨⟨⟨by omega, by omega⟩, ⟨by omega, by omega⟩⟩, fun h => by omega, fun _ => ?_⟩
    rw [x19_30_31]
    exact h2 (fun hm => by
      obtain ⟨j, j0, j1, e⟩ := mem_la hm
      exact hn j j0 (by omega) e)
  | d + 1, i, i0, hd, hn => by
    have hl := hC.2.2
    have hr : rdI σ 32 i = la xs i := by rw [rdI_in (n := 31) rfl i0 (by omega)]; exact hC.1.1 i i0 (by omega)
    have hi := hx _ (la_mem i0 (show i < xs.length by omega))
    rw [x19_2_31, hC.2.1]
    refine ⟨⟨⟨by omega, by omega⟩, ⟨by omega, by omega⟩⟩, fun h => ?_, fun _ => by omega⟩
    simp only [x19_0_31, x19_10_31, x19_18_31, x19_22_31, x19_24_31, x19_30_31, k96 (show lc 32 = 101 from rfl), hr, aft_l, aft_r, optL_s, optL_n, xgo_n, xgo_s, List.cons_append, List.nil_append, List.append_nil, true_and, and_true, Nat.sub_zero, Nat.zero_le, true_implies, false_implies, implies_true, not_true_eq_false, not_false_eq_true, true_or, or_true]
    refine ⟨⟨by omega, by omega⟩, ⟨hi, hw⟩, fun e => h1 i i0 (by omega) e, fun e => ?_⟩
    exact fnd_31 hC hx hw h1 h2 d (i + 1) (by omega) (by omega) (fun j j0 j1 => by
      by_cases c : j = i
      · rw [c]; exact e
      · exact hn j j0 (by omega))
/-- Contexts.find -/
theorem c19_31 {xs : List Int} {w : Int} (hC : CA 31 σ xs) (hx : ∀ x ∈ xs, inR x) (hw : inR w) (h1 : ∀ i : Int, 0 ≤ i → i < xs.length → la xs i = w → Q (.inl (some (vI i))) σ) (h2 : w ∉ xs → Q (.inl (some (vI (-1)))) σ) : Call t 19 [vR 31, vI w] σ Q := by
  rw [x19_0_31]
  exact fnd_31 hC hx hw h1 h2 xs.length 0 (by omega) (by omega) (fun j j0 j1 => by omega)
/-- Contexts.enter -/
theorem c18_31 {xs : List Int} {w : Int} (hC : CA 31 σ xs) (hx : ∀ x ∈ xs, inR x) (hwr : 0 ≤ w ∧ w < 9412) (hn : w ∉ xs → xs.length < 31) (h1 : w ∈ xs → Q (.inl none) σ)
    (h2 : w ∉ xs → ∀ σ', CA 31 σ' (xs ++ [w]) → fr (fun c j => c = 32 ∨ (c = 31 ∧ j = 2)) σ σ' → Q (.inl none) σ') : Call t 18 [vR 31, vI w] σ Q := by
  have hl := hC.2.2
  have hw : inR w := ⟨by omega, by omega⟩
  rw [x18_0_31]
  refine c19_31 hC hx hw (fun i i0 i1 e => ?_) (fun hm => ?_)
  · simp only [x18_0_31, x18_5_31, x18_8_31, x18_17_31, x18_29_31, x18_39_31, aft_l, aft_r, optL_s, optL_n, xgo_n, xgo_s, List.cons_append, List.nil_append, List.append_nil, true_and, and_true, Nat.sub_zero, Nat.zero_le, true_implies, false_implies, implies_true, not_true_eq_false, not_false_eq_true, true_or, or_true]
    exact ⟨⟨by omega, by omega⟩, fun g => by omega, fun _ => h1 (e ▸ la_mem i0 i1)⟩
  · have hlt := hn hm
    have w1 : wrI σ 32 (xs.length : Int) w = sI σ 32 (xs.length : Int) w := wrI_in (n := 31) rfl (by omega) (by omega)
    simp only [x18_0_31, x18_5_31, x18_8_31, x18_17_31, x18_29_31, x18_39_31, k98 (show lc 32 = 101 from rfl), hC.2.1, w1, gI_sI, gL_sI, gD_sI, gI_sL, gL_sL, gD_sL, gI_sD, gL_sD, gD_sD, Nat.reduceEqDiff, Int.reduceEq, reduceCtorEq, false_and, and_false, and_self, if_true, if_false, not_false_eq_true, not_true_eq_false, aft_l, aft_r, optL_s, optL_n, xgo_n, xgo_s, List.cons_append, List.nil_append, List.append_nil, true_and, and_true, Nat.sub_zero, Nat.zero_le, true_implies, false_implies, implies_true, not_true_eq_false, not_false_eq_true, true_or, or_true]
    refine ⟨⟨by omega, by omega⟩, fun _ => ⟨⟨by omega, by omega⟩, fun _ => ⟨⟨by omega, by omega⟩, ?_⟩, fun g => by omega⟩, fun g => by omega⟩
    have hf : fr (fun c j => c = 32 ∨ (c = 31 ∧ j = 2)) σ (sI (sI σ 32 (xs.length : Int) w) 31 2 ((xs.length : Int) + 1)) := fr_sI (fr_sI fr_refl (by omega)) (by omega)
    have e : gI (sI σ 32 (xs.length : Int) w) 31 2 = xs.length := by rw [gI_sI, if_neg (by omega)]; exact hC.2.1
    first
      | refine h2 hm _ ⟨⟨?_, ?_⟩, ?_, ?_⟩ hf
      | (rw [e]; refine h2 hm _ ⟨⟨?_, ?_⟩, ?_, ?_⟩ hf)
    · exact asA_fr (M := fun c _ => c = 31) (asA_app hC.1.1) (fr_sI fr_refl rfl) (fun j => by omega)
    · intro i i0 i1
      show 0 ≤ gI (sI (sI σ 32 (xs.length : Int) w) 31 2 ((xs.length : Int) + 1)) 32 i ∧ gI (sI (sI σ 32 (xs.length : Int) w) 31 2 ((xs.length : Int) + 1)) 32 i < 9412
      rw [gI_sI, if_neg (by omega), gI_sI]
      by_cases c : i = (xs.length : Int)
      · rw [if_pos ⟨rfl, c⟩]; exact hwr
      · rw [if_neg (fun g => c g.2)]; exact hC.1.2 i i0 i1
    · rw [gI_sI, if_pos ⟨rfl, rfl⟩, List.length_append, List.length_singleton]; omega
    · rw [List.length_append, List.length_singleton]; omega
theorem CA_fr_31 {M : Nat → Int → Prop} {σ σ' : St} {xs : List Int} (h : CA 31 σ xs) (g : fr M σ σ') (h1 : ∀ j, ¬ M 32 j) (h2 : ¬ M 31 2) : CA 31 σ' xs := ⟨⟨asA_fr h.1.1 g h1, fun i i0 i1 => by
    have e := fr_I g 32 i (h1 i)
    show 0 ≤ gI σ' 32 i ∧ gI σ' 32 i < 9412
    rw [e]; exact h.1.2 i i0 i1⟩, (fr_I g _ _ h2).trans h.2.1, h.2.2⟩
theorem fcl_31 (hP : okP P) {lim e : Int} (hl0 : 0 ≤ lim ∧ lim ≤ 2) {xs : List Int} (he : e ∈ xs) (hq : ∀ σ' ys, WL P lim (xs ++ ys) → CA 31 σ' (xs ++ ys) → (∀ e', stepC P lim e e' → e' ∈ xs ++ ys) → fr (fun c j => c = 32 ∨ (c = 31 ∧ j = 2)) σ σ' → Q (.inl none) σ') :
    ∀ (d : Nat) (n : Int) (σ1 : St) (ys : List Int), stt P (e / 2353) ≤ n → n + d = stt P (e / 2353 + 1) → RN 5 σ1 P → gI σ1 31 3 = lim → fr (fun c j => c = 32 ∨ (c = 31 ∧ j = 2)) σ σ1 → WL P lim (xs ++ ys) → CA 31 σ1 (xs ++ ys) →
    (∀ c, isCall P c → own P c = e / 2353 → c < n → nn P c * 2353 + ext lim (e % 2353) c ∈ xs ++ ys) → wp t 15 13 [some (vR 31), some (vR 5), some (vI e), some (vI (e / 2353)), some (vI n)] [] σ1 Q
  | 0, n, σ1, ys, n0, hd, hN, hl, hf, hW, hC, hi => by
    have hk := RS_key hP (hW.2 e (List.mem_append_left _ he))
    have ht := tot_rng hP.1
    have hs := stt_rng hP.1 hk.2.1.1 hk.2.1.2
    have hs1 := stt_succ P hk.2.1.1 hk.2.1.2
    rw [x15_13_31, e89 hN hk.2.1.1 hk.2.1.2]
    simp only [x15_0_31, x15_11_31, x15_20_31, x15_23_31, x15_29_31, x15_34_31, x15_41_31, x15_56_31, x15_60_31, x15_66_31, aft_l, aft_r, optL_s, optL_n, xgo_n, xgo_s, List.cons_append, List.nil_append, List.append_nil, true_and, and_true, Nat.sub_zero, Nat.zero_le, true_implies, false_implies, implies_true, not_true_eq_false, not_false_eq_true, true_or, or_true]
    refine ⟨⟨⟨by omega, by omega⟩, ⟨by omega, by omega⟩⟩, fun h => by omega, fun _ => hq σ1 ys hW hC (fun e' h => ?_) hf⟩
    obtain ⟨c, h1, h2, rfl⟩ := h
    have h3 := call_of hP.1 h1
    rw [h2] at h3
    exact hi c h1 h2 (by omega)
  | d + 1, n, σ1, ys, n0, hd, hN, hl, hf, hW, hC, hi => by
    have hk := RS_key hP (hW.2 e (List.mem_append_left _ he))
    have ht := tot_rng hP.1
    have hs := stt_rng hP.1 hk.2.1.1 hk.2.1.2
    have hs1 := stt_succ P hk.2.1.1 hk.2.1.2
    have n1 : 0 ≤ n := by omega
    have n2 : n < tot P := by omega
    have hk2 := (hP.2.1 n n1 n2).1
    rw [x15_13_31, e89 hN hk.2.1.1 hk.2.1.2]
    simp only [x15_0_31, x15_11_31, x15_20_31, x15_23_31, x15_29_31, x15_34_31, x15_41_31, x15_56_31, x15_60_31, x15_66_31, e90 hP hN n1 n2, e93 hP hN n1 n2, k16_31 hl hl0.1 hl0.2 hk.2.2.1 hk.2.2.2, aft_l, aft_r, optL_s, optL_n, xgo_n, xgo_s, List.cons_append, List.nil_append, List.append_nil, true_and, and_true, Nat.sub_zero, Nat.zero_le, true_implies, false_implies, implies_true, not_true_eq_false, not_false_eq_true, true_or, or_true]
    refine ⟨⟨⟨by omega, by omega⟩, ⟨by omega, by omega⟩⟩, fun h => ⟨⟨by omega, by omega⟩, fun h6 => ⟨⟨by omega, by omega⟩, ?_⟩, fun h6 => ?_⟩, fun _ => by omega⟩
    · obtain ⟨hc, ho⟩ := isCall_of hP.1 hk.2.1.1 hk.2.1.2 n0 (by omega) h6
      have hst : stepC P lim e (nn P n * 2353 + ext lim (e % 2353) n) := ⟨n, hc, ho, rfl⟩
      have hR := RS_step (hW.2 e (List.mem_append_left _ he)) hst
      have hRk := RS_key hP hR
      have hin : ∀ x ∈ xs ++ ys, inR x := fun x hx => by
        have := RS_rng hP (hW.2 x hx); exact ⟨by omega, by omega⟩
      refine c18_31 hC hin hRk.1 (fun hm => ?_) (fun hm => ?_) (fun hm σ' hC' hf' => ?_)
      · have := WL_len hP (WL_app hW hR hm)
        rw [List.length_append, List.length_singleton] at this; omega
      · simp only [x15_0_31, x15_11_31, x15_20_31, x15_23_31, x15_29_31, x15_34_31, x15_41_31, x15_56_31, x15_60_31, x15_66_31, aft_l, aft_r, optL_s, optL_n, xgo_n, xgo_s, List.cons_append, List.nil_append, List.append_nil, true_and, and_true, Nat.sub_zero, Nat.zero_le, true_implies, false_implies, implies_true, not_true_eq_false, not_false_eq_true, true_or, or_true]
        refine fcl_31 hP hl0 he hq d (n + 1) σ1 ys (by omega) (by omega) hN hl hf hW hC (fun c h1 h2 h3 => ?_)
        by_cases q : c = n
        · rw [q]; exact hm
        · exact hi c h1 h2 (by omega)
      · simp only [x15_0_31, x15_11_31, x15_20_31, x15_23_31, x15_29_31, x15_34_31, x15_41_31, x15_56_31, x15_60_31, x15_66_31, aft_l, aft_r, optL_s, optL_n, xgo_n, xgo_s, List.cons_append, List.nil_append, List.append_nil, true_and, and_true, Nat.sub_zero, Nat.zero_le, true_implies, false_implies, implies_true, not_true_eq_false, not_false_eq_true, true_or, or_true]
        have hW' := WL_app hW hR hm
        rw [List.append_assoc] at hC' hW'
        refine fcl_31 hP hl0 he hq d (n + 1) σ' _ (by omega) (by omega) (RN_fr hN hf' (fun j => by omega) (fun j => by omega) (fun j => by omega) (fun j => by omega) (by omega)) ((fr_I hf' _ _ (by omega)).trans hl) (fr_trans hf hf') hW' hC' (fun c h1 h2 h3 => ?_)
        rw [← List.append_assoc]
        by_cases q : c = n
        · rw [q]; exact List.mem_append_right _ (List.mem_singleton.mpr rfl)
        · exact List.mem_append_left _ (hi c h1 h2 (by omega))
    · refine fcl_31 hP hl0 he hq d (n + 1) σ1 ys (by omega) (by omega) hN hl hf hW hC (fun c h1 h2 h3 => ?_)
      by_cases q : c = n
      · rw [q] at h1; exact absurd h1.2.2 h6
      · exact hi c h1 h2 (by omega)
/-- Contexts.followCalls -/
theorem c15_31 (hP : okP P) {lim e : Int} (hl0 : 0 ≤ lim ∧ lim ≤ 2) {xs : List Int} (he : e ∈ xs) (hN : RN 5 σ P) (hl : gI σ 31 3 = lim) (hW : WL P lim xs) (hC : CA 31 σ xs)
    (hq : ∀ σ' ys, WL P lim (xs ++ ys) → CA 31 σ' (xs ++ ys) → (∀ e', stepC P lim e e' → e' ∈ xs ++ ys) → fr (fun c j => c = 32 ∨ (c = 31 ∧ j = 2)) σ σ' → Q (.inl none) σ') : Call t 15 [vR 31, vR 5, vI e] σ Q := by
  have hk := RS_key hP (hW.2 e he)
  have hs := stt_rng hP.1 hk.2.1.1 hk.2.1.2
  have hs1 := stt_succ P hk.2.1.1 hk.2.1.2
  have hz := okZ_at hP.1 hk.2.1.1 hk.2.1.2
  rw [x15_0_31, e88 hN hk.2.1.1 (by omega)]
  simp only [x15_11_31, aft_l, aft_r, optL_s, optL_n, xgo_n, xgo_s, List.cons_append, List.nil_append, List.append_nil, true_and, and_true, Nat.sub_zero, Nat.zero_le, true_implies, false_implies, implies_true, not_true_eq_false, not_false_eq_true, true_or, or_true]
  refine ⟨⟨by omega, by omega⟩, ?_⟩
  refine fcl_31 hP hl0 he hq (P 58 (e / 2353)).toNat _ σ [] (by omega) (by omega) hN hl fr_refl (by rw [List.append_nil]; exact hW) (by rw [List.append_nil]; exact hC) (fun c h1 h2 h3 => ?_)
  have h4 := call_of hP.1 h1
  rw [h2] at h4; omega
end CC

