/-! the class's program: its members over a represented program -/
section CP2
variable {t : Nat} {σ : St} {Q : Res → St → Prop} {P : Pg}
theorem rd8 (h : RN 5 σ P) (hz : okZ P) {n : Int} (n0 : 0 ≤ n) (n1 : n < tot P) : rdI σ 8 n = bpk P (plc P n) := by
  have := tot_rng hz
  rw [rdI_in (n := 48) rfl n0 (by omega)]; exact (h.1.1 n n0 n1).1
theorem rd9 (h : RN 5 σ P) (hz : okZ P) {n : Int} (n0 : 0 ≤ n) (n1 : n < tot P) : rdI σ 9 n = own P n := by
  have := tot_rng hz
  rw [rdI_in (n := 48) rfl n0 (by omega)]; exact (h.1.1 n n0 n1).2.1
theorem rd10 (h : RN 5 σ P) (hz : okZ P) {n : Int} (n0 : 0 ≤ n) (n1 : n < tot P) : rdI σ 10 n = sn P n := by
  have := tot_rng hz
  rw [rdI_in (n := 48) rfl n0 (by omega)]; exact (h.1.1 n n0 n1).2.2
theorem rd11 (h : RN 5 σ P) {f : Int} (f0 : 0 ≤ f) (f1 : f ≤ 4) : rdI σ 11 f = stt P f := by
  rw [rdI_in (n := 5) rfl f0 (by omega)]; exact h.2 f f0 f1
theorem e86 (h : RN 5 σ P) : Call t 86 [vR 5] σ Q ↔ Q (.inl (some (vI (tot P)))) σ := by
  rw [k86, rd11 h (by omega) (by omega), stt4]
theorem e87 (h : RN 5 σ P) : Call t 87 [vR 5] σ Q ↔ Q (.inl (some (vI (sn P (tot P))))) σ := by
  rw [k87, h.1.2]
theorem e88 (h : RN 5 σ P) {f : Int} (f0 : 0 ≤ f) (f1 : f ≤ 4) : Call t 88 [vR 5, vI f] σ Q ↔ Q (.inl (some (vI (stt P f)))) σ := by
  rw [k88, rd11 h f0 f1]; exact w_true ⟨by omega, by omega⟩
theorem e89 (h : RN 5 σ P) {f : Int} (f0 : 0 ≤ f) (f1 : f ≤ 3) : Call t 89 [vR 5, vI f] σ Q ↔ Q (.inl (some (vI (stt P (f + 1))))) σ := by
  rw [k89, rd11 h (by omega) (by omega)]; exact w_true ⟨by omega, by omega⟩
theorem e90 (hP : okP P) (h : RN 5 σ P) {n : Int} (n0 : 0 ≤ n) (n1 : n < tot P) : Call t 90 [vR 5, vI n] σ Q ↔ Q (.inl (some (vI (kd P n)))) σ := by
  have := tot_rng hP.1
  rw [k90, rd8 h hP.1 n0 n1, bpk_K hP n0 n1]; exact w_true ⟨by omega, by omega⟩
theorem e91 (hP : okP P) (h : RN 5 σ P) {n : Int} (n0 : 0 ≤ n) (n1 : n < tot P) : Call t 91 [vR 5, vI n] σ Q ↔ Q (.inl (some (vI (vv P n)))) σ := by
  have := tot_rng hP.1
  have := bpk_in hP n0 n1
  rw [k91, rd8 h hP.1 n0 n1, bpk_V hP n0 n1]; exact (w_true ⟨by omega, by omega⟩).trans (w_true ⟨by omega, by omega⟩)
theorem e92 (hP : okP P) (h : RN 5 σ P) {n : Int} (n0 : 0 ≤ n) (n1 : n < tot P) : Call t 92 [vR 5, vI n] σ Q ↔ Q (.inl (some (vI (ww P n)))) σ := by
  have := tot_rng hP.1
  have := bpk_in hP n0 n1
  rw [k92, rd8 h hP.1 n0 n1, bpk_W hP n0 n1]; exact (w_true ⟨by omega, by omega⟩).trans (w_true ⟨by omega, by omega⟩)
theorem e93 (hP : okP P) (h : RN 5 σ P) {n : Int} (n0 : 0 ≤ n) (n1 : n < tot P) : Call t 93 [vR 5, vI n] σ Q ↔ Q (.inl (some (vI (nn P n)))) σ := by
  have := tot_rng hP.1
  have := bpk_in hP n0 n1
  rw [k93, rd8 h hP.1 n0 n1, bpk_N hP n0 n1]; exact (w_true ⟨by omega, by omega⟩).trans (w_true ⟨by omega, by omega⟩)
theorem e94 (hz : okZ P) (h : RN 5 σ P) {n : Int} (n0 : 0 ≤ n) (n1 : n < tot P) : Call t 94 [vR 5, vI n] σ Q ↔ Q (.inl (some (vI (own P n)))) σ := by
  have := tot_rng hz
  rw [k94, rd9 h hz n0 n1]; exact w_true ⟨by omega, by omega⟩
theorem e95 (hz : okZ P) (h : RN 5 σ P) {n : Int} (n0 : 0 ≤ n) (n1 : n < tot P) : Call t 95 [vR 5, vI n] σ Q ↔ Q (.inl (some (vI (sn P n)))) σ := by
  have := tot_rng hz
  rw [k95, rd10 h hz n0 n1]; exact w_true ⟨by omega, by omega⟩
def mg (P : Pg) (q wo : Int) : Int → Bool := fun m => (own P m != wo) && (kd P m == q)
theorem mg_t {P : Pg} {q wo m : Int} : mg P q wo m = true ↔ (own P m ≠ wo ∧ kd P m = q) := by
  unfold mg; simp
theorem cel (hP : okP P) (h : RN 5 σ P) {f q : Int} (hf : inR f) (hqr : inR q) : ∀ (d n : Nat), n + d = (tot P).toNat → Q (.inl (some (vI (mny P q f)))) σ → wp t 82 5 [some (vR 5), some (vI f), some (vI q), some (vI (cn (mg P q f) n)), some (vI n)] [] σ Q
  | 0, n, hd, hq => by
    have hz := tot_rng hP.1
    rw [x82_5, e86 h]
    simp only [x82_0, x82_11, x82_14, x82_20, x82_24, x82_30, x82_34, x82_37, x82_43, aft_l, aft_r, optL_s, optL_n, xgo_n, xgo_s, List.cons_append, List.nil_append, List.append_nil, true_and, and_true, Nat.sub_zero, Nat.zero_le, true_implies, false_implies, implies_true, not_true_eq_false, not_false_eq_true, true_or, or_true]
    refine ⟨⟨⟨by omega, by omega⟩, ⟨by omega, by omega⟩⟩, fun h => by omega, fun _ => ?_⟩
    have e : n = (tot P).toNat := by omega
    subst e; exact hq
  | d + 1, n, hd, hq => by
    have hz := tot_rng hP.1
    have n1 : (n : Int) < tot P := by omega
    have hk := (hP.2.1 n (by omega) n1).1
    have ho := (own_spec hP.1 (n := n) (by omega) n1).1
    have ih := cel hP h hf hqr d (n + 1) (by omega) hq
    have e1 := cn_succ (mg P q f) n
    rw [x82_5, e86 h]
    simp only [x82_0, x82_11, x82_14, x82_20, x82_24, x82_30, x82_34, x82_37, x82_43, e90 hP h (n := n) (by omega) n1, e94 hP.1 h (n := n) (by omega) n1, aft_l, aft_r, optL_s, optL_n, xgo_n, xgo_s, List.cons_append, List.nil_append, List.append_nil, true_and, and_true, Nat.sub_zero, Nat.zero_le, true_implies, false_implies, implies_true, not_true_eq_false, not_false_eq_true, true_or, or_true]
    refine ⟨⟨⟨by omega, by omega⟩, ⟨by omega, by omega⟩⟩, fun h => ⟨⟨⟨by omega, by omega⟩, hqr⟩, fun a => ⟨⟨⟨by omega, by omega⟩, hf⟩, fun b => ?_, fun b => ?_⟩, fun a => ?_⟩, fun _ => by omega⟩
    · rw [if_neg (fun g => (mg_t.mp g).1 b)] at e1
      rw [e1, Int.add_zero] at ih; exact ih
    · rw [if_pos (mg_t.mpr ⟨b, a⟩)] at e1
      rw [e1] at ih; exact ih
    · rw [if_neg (fun g => a (mg_t.mp g).2)] at e1
      rw [e1, Int.add_zero] at ih; exact ih
/-- Program.countElsewhere -/
theorem c82 (hP : okP P) (h : RN 5 σ P) {f q : Int} (hf : inR f) (hqr : inR q) (hq : Q (.inl (some (vI (mny P q f)))) σ) : Call t 82 [vR 5, vI f, vI q] σ Q := by
  rw [x82_0]
  exact cel hP h hf hqr (tot P).toNat 0 (by omega) hq
theorem mny_rng {P : Pg} (hz : okZ P) (q wo : Int) : 0 ≤ mny P q wo ∧ mny P q wo ≤ 48 := by
  have h := cn_rng (mg P q wo) (tot P).toNat
  have := tot_rng hz
  have e : mny P q wo = cn (mg P q wo) (tot P).toNat := rfl
  omega
/-- Program.hasRoomFor -/
theorem c81 (hP : okP P) (h : RN 5 σ P) {f : Int} (hf : inR f) (h1 : 0 ≤ gI σ 3 1 ∧ gI σ 3 1 ≤ 1000) (h2 : 0 ≤ gI σ 3 2 ∧ gI σ 3 2 ≤ 1000) (h3 : 0 ≤ gI σ 3 3 ∧ gI σ 3 3 ≤ 1000)
    (ht : gI σ 3 1 ≤ 12 → gI σ 3 2 + mny P 4 f ≤ 8 → gI σ 3 3 + mny P 6 f ≤ 5 → Q (.inl (some (vI 1))) σ)
    (hn : ¬ (gI σ 3 1 ≤ 12 ∧ gI σ 3 2 + mny P 4 f ≤ 8 ∧ gI σ 3 3 + mny P 6 f ≤ 5) → Q (.inl (some (vI 0))) σ) : Call t 81 [vR 5, vI f, vR 3] σ Q := by
  have m4 := mny_rng hP.1 4 f
  have m6 := mny_rng hP.1 6 f
  simp only [x81_0, x81_4, x81_9, x81_13, x81_19, x81_25, x81_29, x81_36, x81_41, x81_45, x81_46, k32, k33, k34, aft_l, aft_r, optL_s, optL_n, xgo_n, xgo_s, List.cons_append, List.nil_append, List.append_nil, true_and, and_true, Nat.sub_zero, Nat.zero_le, true_implies, false_implies, implies_true, not_true_eq_false, not_false_eq_true, true_or, or_true]
  refine ⟨⟨by omega, by omega⟩, fun a => hn (by omega), fun a => c82 hP h hf (by decide) ?_⟩
  simp only [x81_0, x81_4, x81_9, x81_13, x81_19, x81_25, x81_29, x81_36, x81_41, x81_45, x81_46, k32, k33, k34, aft_l, aft_r, optL_s, optL_n, xgo_n, xgo_s, List.cons_append, List.nil_append, List.append_nil, true_and, and_true, Nat.sub_zero, Nat.zero_le, true_implies, false_implies, implies_true, not_true_eq_false, not_false_eq_true, true_or, or_true]
  refine ⟨⟨by omega, by omega⟩, fun b => hn (by omega), fun b => c82 hP h hf (by decide) ?_⟩
  simp only [x81_0, x81_4, x81_9, x81_13, x81_19, x81_25, x81_29, x81_36, x81_41, x81_45, x81_46, k32, k33, k34, aft_l, aft_r, optL_s, optL_n, xgo_n, xgo_s, List.cons_append, List.nil_append, List.append_nil, true_and, and_true, Nat.sub_zero, Nat.zero_le, true_implies, false_implies, implies_true, not_true_eq_false, not_false_eq_true, true_or, or_true]
  exact ⟨⟨by omega, by omega⟩, fun c => hn (by omega), fun c => ht (by omega) (by omega) (by omega)⟩
theorem RB_iff {b : Nat} (hz : okZ P) : RB b σ P ↔ ((∀ f, 0 ≤ f → f ≤ 3 → gI σ (b + 2) f = P 58 f) ∧ (∀ f k, 0 ≤ f → f ≤ 3 → 0 ≤ k → k < P 58 f → gI σ (b + 1) (12 * f + k) = bpk P (12 * f + k))) := by
  constructor
  · rintro ⟨h1, h2⟩
    refine ⟨h1, fun f k f0 f1 k0 k1 => ?_⟩
    have := h2 (stt P f + k) (by have := stt_rng hz f0 f1; omega) (by have := stt_rng hz f0 f1; omega)
    rw [plc_of hz f0 f1 k0 k1] at this; exact this
  · rintro ⟨h1, h2⟩
    refine ⟨h1, fun n n0 n1 => ?_⟩
    obtain ⟨f, k, ⟨f0, f1⟩, ⟨k0, k1⟩, rfl⟩ := n_split hz n0 n1
    rw [plc_of hz f0 f1 k0 k1]; exact h2 f k f0 f1 k0 k1
/-- the new bodies, as far as they are copied -/
theorem rpl {P' : Pg} (hP : okP P') {f : Int} (f0 : 0 ≤ f) (f1 : f ≤ 3) (hq : ∀ σ', RB 5 σ' P' → RN 5 σ' P' → fr (fun c j => c = 6 ∨ c = 7 ∨ c = 8 ∨ c = 9 ∨ c = 10 ∨ c = 11 ∨ (c = 5 ∧ j = 7)) σ σ' → Q (.inl none) σ') :
    ∀ (d : Nat) (i : Int) (σ1 : St), 0 ≤ i → i + d = 12 → fr (fun c _ => c = 6) σ σ1 → (∀ g, 0 ≤ g → g ≤ 3 → g ≠ f → gI σ1 7 g = P' 58 g ∧ ∀ k, 0 ≤ k → k < P' 58 g → gI σ1 6 (12 * g + k) = bpk P' (12 * g + k)) →
    gI σ1 3 1 = P' 58 f → (∀ k, 0 ≤ k → k < P' 58 f → gI σ1 4 k = bpk P' (12 * f + k)) → (∀ k, 0 ≤ k → k < i → k < P' 58 f → gI σ1 6 (12 * f + k) = bpk P' (12 * f + k)) →
    wp t 83 2 [some (vR 5), some (vI f), some (vR 3), some (vI i)] [] σ1 Q
  | 0, i, σ1, i0, hd, hfr, hg, hs, h4, h6 => by
    have hz := okZ_at hP.1 f0 f1
    have w : ∀ σ v, wrI σ 7 f v = sI σ 7 f v := fun _ _ => wrI_in (n := 4) rfl (by omega) (by omega)
    rw [x83_2]
    simp only [x83_32, x83_41, k32, k98 (show lc 7 = 101 from rfl), w, hs, aft_l, aft_r, optL_s, optL_n, xgo_n, xgo_s, List.cons_append, List.nil_append, List.append_nil, true_and, and_true, Nat.sub_zero, Nat.zero_le, true_implies, false_implies, implies_true, not_true_eq_false, not_false_eq_true, true_or, or_true]
    refine ⟨⟨by omega, by omega⟩, fun h => by omega, fun _ => ⟨⟨by omega, by omega⟩, ?_⟩⟩
    have hB : RB 5 (sI σ1 7 f (P' 58 f)) P' := by
      rw [RB_iff hP.1]
      refine ⟨fun g g0 g1 => ?_, fun g k g0 g1 k0 k1 => ?_⟩
      · show gI (sI σ1 7 f (P' 58 f)) 7 g = P' 58 g
        rw [gI_sI]
        by_cases c : g = f
        · rw [if_pos ⟨rfl, c⟩, c]
        · rw [if_neg (fun h => c h.2)]; exact (hg g g0 g1 c).1
      · show gI (sI σ1 7 f (P' 58 f)) 6 (12 * g + k) = _
        rw [gI_sI, if_neg (by omega)]
        by_cases c : g = f
        · subst c; exact h6 k k0 (by omega) k1
        · exact (hg g g0 g1 c).2 k k0 k1
    have hf2 : fr (fun c j => c = 6 ∨ c = 7 ∨ c = 8 ∨ c = 9 ∨ c = 10 ∨ c = 11 ∨ (c = 5 ∧ j = 7)) σ (sI σ1 7 f (P' 58 f)) := fr_sI (fr_mono hfr (fun c j h => by omega)) (by omega)
    rw [x83_44]
    refine c85_5 hP hB (fun σ' h1 h2 => ?_)
    simp only [x83_48, aft_l, aft_r, optL_s, optL_n, xgo_n, xgo_s, List.cons_append, List.nil_append, List.append_nil, true_and, and_true, Nat.sub_zero, Nat.zero_le, true_implies, false_implies, implies_true, not_true_eq_false, not_false_eq_true, true_or, or_true]
    exact hq σ' (RB_fr hB h2 (fun j => by omega) (fun j => by omega)) h1 (fr_trans hf2 (fr_mono h2 (fun c j h => by omega)))
  | d + 1, i, σ1, i0, hd, hfr, hg, hs, h4, h6 => by
    have hz := okZ_at hP.1 f0 f1
    have w : ∀ σ v, wrI σ 6 (12 * f + i) v = sI σ 6 (12 * f + i) v := fun _ _ => wrI_in (n := 48) rfl (by omega) (by omega)
    have hr : rdI σ1 4 i = gI σ1 4 i := rdI_in (n := 12) rfl (by omega) (by omega)
    rw [x83_2]
    simp only [x83_0, x83_8, x83_23, x83_26, x83_32, x83_41, x83_44, x83_48, k35, k98 (show lc 6 = 101 from rfl), w, hr, aft_l, aft_r, optL_s, optL_n, xgo_n, xgo_s, List.cons_append, List.nil_append, List.append_nil, true_and, and_true, Nat.sub_zero, Nat.zero_le, true_implies, false_implies, implies_true, not_true_eq_false, not_false_eq_true, true_or, or_true]
    refine ⟨⟨by omega, by omega⟩, fun h => ⟨⟨by omega, by omega⟩, ⟨by omega, by omega⟩, ?_⟩, fun _ => by omega⟩
    refine rpl hP f0 f1 hq d (i + 1) _ (by omega) (by omega) (fr_sI hfr rfl) (fun g g0 g1 gn => ⟨?_, fun k k0 k1 => ?_⟩) ?_ (fun k k0 k1 => ?_) (fun k k0 k1 k2 => ?_)
    · rw [gI_sI, if_neg (by omega)]; exact (hg g g0 g1 gn).1
    · have := okZ_at hP.1 g0 g1
      rw [gI_sI, if_neg (by omega)]; exact (hg g g0 g1 gn).2 k k0 k1
    · rw [gI_sI, if_neg (by omega)]; exact hs
    · rw [gI_sI, if_neg (by omega)]; exact h4 k k0 k1
    · rw [gI_sI]
      by_cases c : k = i
      · subst c; rw [if_pos ⟨rfl, rfl⟩]; exact h4 k k0 k2
      · rw [if_neg (by omega)]; exact h6 k k0 (by omega) k2
/-- Program.replaceBody -/
theorem c83 {P' : Pg} (hP : okP P') {f : Int} (f0 : 0 ≤ f) (f1 : f ≤ 3) (hq : ∀ σ', RB 5 σ' P' → RN 5 σ' P' → fr (fun c j => c = 6 ∨ c = 7 ∨ c = 8 ∨ c = 9 ∨ c = 10 ∨ c = 11 ∨ (c = 5 ∧ j = 7)) σ σ' → Q (.inl none) σ')
    (hg : ∀ g, 0 ≤ g → g ≤ 3 → g ≠ f → gI σ 7 g = P' 58 g ∧ ∀ k, 0 ≤ k → k < P' 58 g → gI σ 6 (12 * g + k) = bpk P' (12 * g + k))
    (hs : gI σ 3 1 = P' 58 f) (h4 : ∀ k, 0 ≤ k → k < P' 58 f → gI σ 4 k = bpk P' (12 * f + k)) : Call t 83 [vR 5, vI f, vR 3] σ Q := by
  rw [x83_0]
  exact rpl hP f0 f1 hq 12 0 σ (by omega) (by omega) fr_refl hg hs h4 (fun k k0 k1 => by omega)
/-- Program.copyFrom -/
theorem c84_5 (hP : okP P) (hB : RB 12 σ P) (hq : ∀ σ', RB 5 σ' P → RN 5 σ' P → gI σ' 5 2 = gI σ 12 2 → fr (fun c j => c = 6 ∨ c = 7 ∨ c = 8 ∨ c = 9 ∨ c = 10 ∨ c = 11 ∨ (c = 5 ∧ (j = 2 ∨ j = 7))) σ σ' → Q (.inl none) σ') : Call t 84 [vR 5, vR 12] σ Q := by
  have hz := tot_rng hP.1
  rw [x84_0_5]
  refine k101 rfl rfl rfl (by decide) ?_
  simp only [x84_11_5, aft_l, aft_r, optL_s, optL_n, xgo_n, xgo_s, List.cons_append, List.nil_append, List.append_nil, true_and, and_true, Nat.sub_zero, Nat.zero_le, true_implies, false_implies, implies_true, not_true_eq_false, not_false_eq_true, true_or, or_true]
  refine k101 rfl rfl rfl (by decide) ?_
  simp only [x84_22_5, aft_l, aft_r, optL_s, optL_n, xgo_n, xgo_s, List.cons_append, List.nil_append, List.append_nil, true_and, and_true, Nat.sub_zero, Nat.zero_le, true_implies, false_implies, implies_true, not_true_eq_false, not_false_eq_true, true_or, or_true]
  have hB2 : RB 5 (sI (upI (upI σ 6 (fun j => if 0 ≤ j ∧ j < (ln 6 : Int) then gI σ 13 j else gI σ 6 j)) 7 (fun j => if 0 ≤ j ∧ j < (ln 7 : Int) then gI (upI σ 6 (fun j => if 0 ≤ j ∧ j < (ln 6 : Int) then gI σ 13 j else gI σ 6 j)) 14 j else gI (upI σ 6 (fun j => if 0 ≤ j ∧ j < (ln 6 : Int) then gI σ 13 j else gI σ 6 j)) 7 j)) 5 2 (gI σ 12 2)) P := by
    refine ⟨fun f f0 f1 => ?_, fun n n0 n1 => ?_⟩
    · rw [gI_sI, if_neg (by omega), gI_upI, if_pos rfl, if_pos ⟨f0, show f < 4 by omega⟩, gI_upI, if_neg (by decide)]
      exact hB.1 f f0 f1
    · have := plc_rng hP.1 n0 n1
      rw [gI_sI, if_neg (by omega), gI_upI, if_neg (by decide), gI_upI, if_pos rfl, if_pos ⟨this.1, show plc P n < 48 by omega⟩]
      exact hB.2 n n0 n1
  refine c85_5 hP hB2 (fun σ' h1 h2 => ?_)
  simp only [x84_34_5, aft_l, aft_r, optL_s, optL_n, xgo_n, xgo_s, List.cons_append, List.nil_append, List.append_nil, true_and, and_true, Nat.sub_zero, Nat.zero_le, true_implies, false_implies, implies_true, not_true_eq_false, not_false_eq_true, true_or, or_true]
  refine hq σ' (RB_fr hB2 h2 (fun j => by omega) (fun j => by omega)) h1 ?_ ?_
  · rw [fr_I h2 5 2 (by omega), gI_sI, if_pos ⟨rfl, rfl⟩]; rfl
  · refine fr_trans (fr_sI (fr_upI (fr_upI fr_refl (fun j => by omega)) (fun j => by omega)) (by omega)) (fr_mono h2 (fun c j h => by omega))
/-- Program.copyFrom -/
theorem c84_12 (hP : okP P) (hB : RB 5 σ P) (hq : ∀ σ', RB 12 σ' P → RN 12 σ' P → gI σ' 12 2 = gI σ 5 2 → fr (fun c j => c = 13 ∨ c = 14 ∨ c = 15 ∨ c = 16 ∨ c = 17 ∨ c = 18 ∨ (c = 12 ∧ (j = 2 ∨ j = 7))) σ σ' → Q (.inl none) σ') : Call t 84 [vR 12, vR 5] σ Q := by
  have hz := tot_rng hP.1
  rw [x84_0_12]
  refine k101 rfl rfl rfl (by decide) ?_
  simp only [x84_11_12, aft_l, aft_r, optL_s, optL_n, xgo_n, xgo_s, List.cons_append, List.nil_append, List.append_nil, true_and, and_true, Nat.sub_zero, Nat.zero_le, true_implies, false_implies, implies_true, not_true_eq_false, not_false_eq_true, true_or, or_true]
  refine k101 rfl rfl rfl (by decide) ?_
  simp only [x84_22_12, aft_l, aft_r, optL_s, optL_n, xgo_n, xgo_s, List.cons_append, List.nil_append, List.append_nil, true_and, and_true, Nat.sub_zero, Nat.zero_le, true_implies, false_implies, implies_true, not_true_eq_false, not_false_eq_true, true_or, or_true]
  have hB2 : RB 12 (sI (upI (upI σ 13 (fun j => if 0 ≤ j ∧ j < (ln 13 : Int) then gI σ 6 j else gI σ 13 j)) 14 (fun j => if 0 ≤ j ∧ j < (ln 14 : Int) then gI (upI σ 13 (fun j => if 0 ≤ j ∧ j < (ln 13 : Int) then gI σ 6 j else gI σ 13 j)) 7 j else gI (upI σ 13 (fun j => if 0 ≤ j ∧ j < (ln 13 : Int) then gI σ 6 j else gI σ 13 j)) 14 j)) 12 2 (gI σ 5 2)) P := by
    refine ⟨fun f f0 f1 => ?_, fun n n0 n1 => ?_⟩
    · rw [gI_sI, if_neg (by omega), gI_upI, if_pos rfl, if_pos ⟨f0, show f < 4 by omega⟩, gI_upI, if_neg (by decide)]
      exact hB.1 f f0 f1
    · have := plc_rng hP.1 n0 n1
      rw [gI_sI, if_neg (by omega), gI_upI, if_neg (by decide), gI_upI, if_pos rfl, if_pos ⟨this.1, show plc P n < 48 by omega⟩]
      exact hB.2 n n0 n1
  refine c85_12 hP hB2 (fun σ' h1 h2 => ?_)
  simp only [x84_34_12, aft_l, aft_r, optL_s, optL_n, xgo_n, xgo_s, List.cons_append, List.nil_append, List.append_nil, true_and, and_true, Nat.sub_zero, Nat.zero_le, true_implies, false_implies, implies_true, not_true_eq_false, not_false_eq_true, true_or, or_true]
  refine hq σ' (RB_fr hB2 h2 (fun j => by omega) (fun j => by omega)) h1 ?_ ?_
  · rw [fr_I h2 12 2 (by omega), gI_sI, if_pos ⟨rfl, rfl⟩]; rfl
  · refine fr_trans (fr_sI (fr_upI (fr_upI fr_refl (fun j => by omega)) (fun j => by omega)) (by omega)) (fr_mono h2 (fun c j h => by omega))
end CP2

