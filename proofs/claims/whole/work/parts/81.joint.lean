/-! both sides together -/
theorem isC_ex {P : Pg} (hP : okP P) (lim : Int) : ∃ xs, isC P lim xs := by
  refine ⟨((List.range 9412).map (fun n : Nat => (n : Int))).filter (fun e => dcl (RS P lim e)), ?_, fun e => ?_⟩
  · refine List.Pairwise.filter _ ?_
    rw [List.pairwise_map]
    exact List.Pairwise.imp (fun h => Int.ofNat_lt.mpr h) List.pairwise_lt_range
  · rw [List.mem_filter, dcl_iff]
    constructor
    · exact fun h => h.2
    · intro h
      have hr := RS_rng hP h
      exact ⟨List.mem_map.mpr ⟨e.toNat, List.mem_range.mpr (by omega), by omega⟩, h⟩
def LJ (P : Pg) (lim : Int) (σ : St) : Prop := ∃ xs, isC P lim xs ∧ LQ P lim xs σ
def FJ (σ : St) : Prop := gI σ 0 9 = gI σ 53 10 ∧ (-1 ≤ gI σ 53 10 ∧ gI σ 53 10 ≤ 80)
def SJ (PS : Pg) (lS : Int) (σ : St) : Prop := (gI σ 0 10 = gI σ 53 42 ∧ (gI σ 53 42 = 0 ∨ gI σ 53 42 = 1)) ∧ (gI σ 53 42 = 1 → RB 12 σ PS ∧ (gI σ 12 2 = lS ∧ SV PS lS σ))
def MJ (σ : St) : Prop := (∀ a, 0 ≤ a → a < 44 → gL σ 49 a = gL σ 75 a) ∧ ((gI σ 46 9 = gI σ 53 39 ∧ (0 ≤ gI σ 53 39 ∧ gI σ 53 39 ≤ 200)) ∧ (gI σ 46 10 = gI σ 53 38 ∧ (0 ≤ gI σ 53 38 ∧ gI σ 53 38 ≤ 200)))
/-- between two calls -/
def JV (P : Pg) (lim : Int) (PS : Pg) (lS : Int) (σ : St) : Prop :=
  ((okP P ∧ (0 ≤ lim ∧ lim ≤ 2)) ∧ (okP PS ∧ (0 ≤ lS ∧ lS ≤ 2))) ∧ (CI P lim σ ∧ (LJ P lim σ ∧ (TX σ ∧ (FJ σ ∧ (SJ PS lS σ ∧ MJ σ)))))
def jM : Nat → Int → Prop := fun c j => clq c j ∨ qM c j ∨ c = 77 ∨ c = 78
theorem SV_fr {M : Nat → Int → Prop} {P : Pg} {lim : Int} {σ σ' : St} (h : SV P lim σ) (g : fr M σ σ') (hM : ∀ j, ¬ M 76 j) : SV P lim σ' := fun i i0 i1 => (fr_I g _ _ (hM i)).trans (h i i0 i1)
theorem JV_q {P PS : Pg} {lim lS : Int} {σ σ' : St} (h : JV P lim PS lS σ) (hCI : CI P lim σ') (hLQ : LJ P lim σ') (g : fr jM σ σ') : JV P lim PS lS σ' := by
  obtain ⟨h0, h1, h2, h3, h4, h5, h6⟩ := h
  have n : ∀ c j, (c ≤ 18 ∨ (46 ≤ c ∧ c ≤ 52) ∨ c = 59 ∨ (70 ≤ c ∧ c ≤ 76) ∨ (c = 53 ∧ ((0 < j ∧ j < 16) ∨ 30 ≤ j))) → ¬ jM c j := fun c j a k => by
    unfold jM clq qM vM at k; omega
  have e53 : ∀ j, ((0 < j ∧ j < 16) ∨ 30 ≤ j) → gI σ' 53 j = gI σ 53 j := fun j a => fr_I g _ _ (n _ _ (by omega))
  refine ⟨h0, hCI, hLQ, ?_, ?_, ?_, ?_⟩
  · unfold TX
    rw [e53 8 (by omega), fr_I g 1 1 (n _ _ (by omega))]
    exact ⟨h3.1, h3.2.1, fun p hp => by rw [fr_I g 2 p (n _ _ (by omega)), fr_I g 59 p (n _ _ (by omega))]; exact h3.2.2.1 p hp, fun i i0 i1 => by rw [fr_I g 59 i (n _ _ (by omega))]; exact h3.2.2.2 i i0 i1⟩
  · unfold FJ
    rw [e53 10 (by omega), fr_I g 0 9 (n _ _ (by omega))]; exact h4
  · unfold SJ
    rw [e53 42 (by omega), fr_I g 0 10 (n _ _ (by omega)), fr_I g 12 2 (n _ _ (by omega))]
    exact ⟨h5.1, fun e => ⟨RB_fr (h5.2 e).1 g (fun j => n _ _ (by omega)) (fun j => n _ _ (by omega)), (h5.2 e).2.1, SV_fr (h5.2 e).2.2 g (fun j => n _ _ (by omega))⟩⟩
  · unfold MJ
    rw [e53 38 (by omega), e53 39 (by omega), fr_I g 46 9 (n _ _ (by omega)), fr_I g 46 10 (n _ _ (by omega))]
    exact ⟨fun a a0 a1 => by rw [fr_L g 49 a (n _ _ (by omega)), fr_L g 75 a (n _ _ (by omega))]; exact h6.1 a a0 a1, h6.2⟩
section LS
variable {t : Nat} {σ : St} {Q : Res → St → Prop} {P : Pg} {xs : List Int} {lim : Int}
theorem e174 : Call t 174 [vR 53] σ Q ↔ Q (.inl (some (vI (gI σ 53 0)))) σ := by rw [x174_0]
theorem c198 (hq : Q (.inl (some (vI (gI σ 53 10)))) (sI σ 53 0 0)) : Call t 198 [vR 53] σ Q := by
  rw [x198_0, gI_sI, if_neg (by omega)]; exact hq
theorem LP_0 {v : Int} (h : LPr σ P) : LPr (sI σ 53 0 v) P := LP_fr h (q0 (v := v)) (fun c j k => by omega)
theorem c199 (h : LPr σ P) (hq : Q (.inl (some (vI (tot P)))) (sI σ 53 0 0)) : Call t 199 [vR 53] σ Q := by
  simp only [x199_0, e181 (LP_0 (v := 0) h), x199_9, aft_l, aft_r, optL_s, optL_n, xgo_n, xgo_s, List.cons_append, List.nil_append, List.append_nil, true_and, and_true, Nat.sub_zero, Nat.zero_le, true_implies, false_implies, implies_true, not_true_eq_false, not_false_eq_true, true_or, or_true]; exact hq
theorem e200 (h : LPr σ P) (hP : okP P) {n : Int} (hn : inR n) : Call t 200 [vR 53, vI n] σ Q ↔ Q (.inl (some (vI (b2i (dcl (0 ≤ n ∧ n < tot P)))))) σ := Call_iff (fun Q hq => by
  have ht := tot_rng hP.1
  rw [x200_0]
  refine ⟨hn, fun a => ?_, fun a => ?_⟩
  · rw [dcl_f (by omega), b2i_f] at hq
    rw [x200_16, x200_17]; exact ⟨Or.inl rfl, hq⟩
  · simp only [x200_4, e181 h, x200_9, aft_l, aft_r, optL_s, optL_n, xgo_n, xgo_s, List.cons_append, List.nil_append, List.append_nil, true_and, and_true, Nat.sub_zero, Nat.zero_le, true_implies, false_implies, implies_true, not_true_eq_false, not_false_eq_true, true_or, or_true]
    refine ⟨⟨hn, ⟨by omega, by omega⟩⟩, fun b => ?_, fun b => ?_⟩
    · rw [dcl_t (by omega), b2i_t] at hq
      rw [x200_12, x200_17]; exact ⟨Or.inr rfl, hq⟩
    · rw [dcl_f (by omega), b2i_f] at hq
      rw [x200_16, x200_17]; exact ⟨Or.inl rfl, hq⟩)
theorem c201 (h : LPr σ P) (hP : okP P) {n : Int} (hn : inR n) (h0 : ¬ (0 ≤ n ∧ n < tot P) → Q (.inl (some (vI 0))) (sI σ 53 0 1)) (h1 : (0 ≤ n ∧ n < tot P) → Q (.inl (some (vI (kd P n)))) (sI σ 53 0 0)) : Call t 201 [vR 53, vI n] σ Q := by
  simp only [x201_0, e200 h hP hn, x201_5, eq_true (b2i_in _), b2i_0, aft_l, aft_r, optL_s, optL_n, xgo_n, xgo_s, List.cons_append, List.nil_append, List.append_nil, true_and, and_true, Nat.sub_zero, Nat.zero_le, true_implies, false_implies, implies_true, not_true_eq_false, not_false_eq_true, true_or, or_true]
  by_cases q : 0 ≤ n ∧ n < tot P
  · have hpr := plc_rng hP.1 q.1 q.2
    rw [dcl_t q]
    refine ⟨fun a => (by cases a), fun _ => ?_⟩
    simp only [x201_14, e182 (LP_0 (v := 0) h) hP.1 q.1 q.2, x201_28, LP_kd (LP_0 (v := 0) h) hP.1 q.1 q.2, aft_l, aft_r, optL_s, optL_n, xgo_n, xgo_s, List.cons_append, List.nil_append, List.append_nil, true_and, and_true, Nat.sub_zero, Nat.zero_le, true_implies, false_implies, implies_true, not_true_eq_false, not_false_eq_true, true_or, or_true]
    exact ⟨by omega, h1 q⟩
  · rw [dcl_f q]
    refine ⟨fun _ => ?_, fun a => absurd rfl a⟩
    simp only [x201_8, e175, x201_13, aft_l, aft_r, optL_s, optL_n, xgo_n, xgo_s, List.cons_append, List.nil_append, List.append_nil, true_and, and_true, Nat.sub_zero, Nat.zero_le, true_implies, false_implies, implies_true, not_true_eq_false, not_false_eq_true, true_or, or_true]
    exact h0 q
theorem c202 (h : LPr σ P) (hP : okP P) {n : Int} (hn : inR n) (h0 : ¬ (0 ≤ n ∧ n < tot P) → Q (.inl (some (vI 0))) (sI σ 53 0 1)) (h1 : (0 ≤ n ∧ n < tot P) → Q (.inl (some (vI (own P n)))) (sI σ 53 0 0)) : Call t 202 [vR 53, vI n] σ Q := by
  simp only [x202_0, e200 h hP hn, x202_5, eq_true (b2i_in _), b2i_0, aft_l, aft_r, optL_s, optL_n, xgo_n, xgo_s, List.cons_append, List.nil_append, List.append_nil, true_and, and_true, Nat.sub_zero, Nat.zero_le, true_implies, false_implies, implies_true, not_true_eq_false, not_false_eq_true, true_or, or_true]
  by_cases q : 0 ≤ n ∧ n < tot P
  · have hpr := plc_rng hP.1 q.1 q.2
    rw [dcl_t q]
    refine ⟨fun a => (by cases a), fun _ => ?_⟩
    simp only [x202_14, e182 (LP_0 (v := 0) h) hP.1 q.1 q.2, x202_24, plc_div hP.1 q.1 q.2, aft_l, aft_r, optL_s, optL_n, xgo_n, xgo_s, List.cons_append, List.nil_append, List.append_nil, true_and, and_true, Nat.sub_zero, Nat.zero_le, true_implies, false_implies, implies_true, not_true_eq_false, not_false_eq_true, true_or, or_true]
    exact ⟨⟨by omega, by omega⟩, h1 q⟩
  · rw [dcl_f q]
    refine ⟨fun _ => ?_, fun a => absurd rfl a⟩
    simp only [x202_8, e175, x202_13, aft_l, aft_r, optL_s, optL_n, xgo_n, xgo_s, List.cons_append, List.nil_append, List.append_nil, true_and, and_true, Nat.sub_zero, Nat.zero_le, true_implies, false_implies, implies_true, not_true_eq_false, not_false_eq_true, true_or, or_true]
    exact h0 q
theorem c204 (h : LPr σ P) (hP : okP P) (hq : Q (.inl (some (vI (mny P 4 (-1))))) (sI σ 53 0 0)) : Call t 204 [vR 53] σ Q := by
  simp only [x204_0, e203 (LP_0 (v := 0) h) hP, x204_9, aft_l, aft_r, optL_s, optL_n, xgo_n, xgo_s, List.cons_append, List.nil_append, List.append_nil, true_and, and_true, Nat.sub_zero, Nat.zero_le, true_implies, false_implies, implies_true, not_true_eq_false, not_false_eq_true, true_or, or_true]; exact hq
theorem c205 {l : Int} (hl : inR l) (h6 : gI σ 53 6 = lim) (h0 : ¬ (0 ≤ l ∧ l ≤ 2) → Q (.inl (some (vI 0))) (sI σ 53 0 1)) (h1 : (0 ≤ l ∧ l ≤ 2) → Q (.inl (some (vI lim))) (sI (sI (sI σ 53 0 0) 53 6 l) 53 19 0)) : Call t 205 [vR 53, vI l] σ Q := by
  have e6 : gI (sI σ 53 0 0) 53 6 = lim := by simp only [gI_sI, gI_sI, gL_sI, gD_sI, gI_sL, gL_sL, gD_sL, gI_sD, gL_sD, gD_sD, Nat.reduceEqDiff, Int.reduceEq, reduceCtorEq, false_and, and_false, and_self, if_true, if_false, not_false_eq_true, not_true_eq_false]; exact h6
  simp only [x205_0, e177 hl (show inR 0 from ⟨by decide, by decide⟩) (show inR 2 from ⟨by decide, by decide⟩), x205_6, eq_true (b2i_in _), b2i_0, aft_l, aft_r, optL_s, optL_n, xgo_n, xgo_s, List.cons_append, List.nil_append, List.append_nil, true_and, and_true, Nat.sub_zero, Nat.zero_le, true_implies, false_implies, implies_true, not_true_eq_false, not_false_eq_true, true_or, or_true]
  by_cases q : 0 ≤ l ∧ l ≤ 2
  · rw [dcl_t q]
    refine ⟨fun a => (by cases a), fun _ => ?_⟩
    rw [x205_15, e6]; exact h1 q
  · rw [dcl_f q]
    refine ⟨fun _ => ?_, fun a => absurd rfl a⟩
    simp only [x205_9, e175, x205_14, aft_l, aft_r, optL_s, optL_n, xgo_n, xgo_s, List.cons_append, List.nil_append, List.append_nil, true_and, and_true, Nat.sub_zero, Nat.zero_le, true_implies, false_implies, implies_true, not_true_eq_false, not_false_eq_true, true_or, or_true]
    exact h0 q
/-- save -/
theorem c276 (h : LPr σ P) (h6 : gI σ 53 6 = lim) (hq : ∀ σ', LPr σ' P → gI σ' 53 6 = lim → SV P lim σ' → gI σ' 53 42 = 1 → gI σ' 53 0 = 0 → fr (fun c j => pM c j ∨ (c = 53 ∧ (j = 0 ∨ j = 42))) σ σ' → Q (.inl none) σ') : Call t 276 [vR 53] σ Q := by
  have f0 : fr (fun c j => c = 53 ∧ (j = 0 ∨ j = 42)) σ (sI (sI σ 53 0 0) 53 42 1) := fr_sI (fr_sI fr_refl ⟨rfl, Or.inl rfl⟩) ⟨rfl, Or.inr rfl⟩
  rw [x276_0]
  refine c275 (P := P) (lim := lim) (Or.inr rfl) (fun e => by cases e) (fun _ => ⟨LP_fr h f0 (fun c j k => by omega), by simp only [gI_sI, gI_sI, gL_sI, gD_sI, gI_sL, gL_sL, gD_sL, gI_sD, gL_sD, gD_sD, Nat.reduceEqDiff, Int.reduceEq, reduceCtorEq, false_and, and_false, and_self, if_true, if_false, not_false_eq_true, not_true_eq_false]; exact h6⟩) (fun σ1 g1 g2 g3 g4 => ?_)
  simp only [x276_15, aft_l, aft_r, optL_s, optL_n, xgo_n, xgo_s, List.cons_append, List.nil_append, List.append_nil, true_and, and_true, Nat.sub_zero, Nat.zero_le, true_implies, false_implies, implies_true, not_true_eq_false, not_false_eq_true, true_or, or_true]
  refine hq σ1 g1 g2 g3 ?_ ?_ (fr_trans (fr_mono f0 (fun c j k => Or.inr k)) (fr_mono g4 (fun c j k => Or.inl k)))
  · rw [fr_I g4 _ _ (by unfold pM; omega), gI_sI, if_pos ⟨rfl, rfl⟩]
  · rw [fr_I g4 _ _ (by unfold pM; omega)]; simp only [gI_sI, gI_sI, gL_sI, gD_sI, gI_sL, gL_sL, gD_sL, gI_sD, gL_sD, gD_sD, Nat.reduceEqDiff, Int.reduceEq, reduceCtorEq, false_and, and_false, and_self, if_true, if_false, not_false_eq_true, not_true_eq_false]
/-- restore -/
theorem c277 {PS : Pg} {lS : Int} (h42 : gI σ 53 42 = 0 ∨ gI σ 53 42 = 1) (hS : gI σ 53 42 = 1 → SV PS lS σ) (h0 : gI σ 53 42 = 0 → Q (.inl none) (sI σ 53 0 1))
    (h1 : gI σ 53 42 = 1 → ∀ σ', LPr σ' PS → gI σ' 53 6 = lS → SV PS lS σ' → gI σ' 53 19 = 0 → gI σ' 53 0 = 0 → (∀ a, 0 ≤ a → a < 44 → gL σ' 75 a = BitVec.ofNat 64 0) → gI σ' 53 39 = 0 → gI σ' 53 38 = 0 → fr (fun c j => pM c j ∨ c = 75 ∨ (c = 53 ∧ (j = 0 ∨ j = 19 ∨ j = 38 ∨ j = 39))) σ σ' → Q (.inl none) σ') : Call t 277 [vR 53] σ Q := by
  have e42 : ∀ v, gI (sI σ 53 0 v) 53 42 = gI σ 53 42 := fun v => by simp only [gI_sI, gI_sI, gL_sI, gD_sI, gI_sL, gL_sL, gD_sL, gI_sD, gL_sD, gD_sD, Nat.reduceEqDiff, Int.reduceEq, reduceCtorEq, false_and, and_false, and_self, if_true, if_false, not_false_eq_true, not_true_eq_false]
  have ir : inR (gI σ 53 42) := by rcases h42 with e | e <;> rw [e] <;> decide
  rw [x277_0]
  refine ⟨ir, fun e => ?_, fun e => ?_⟩
  · rw [x277_12, x277_13, e42]
    refine ⟨ir, fun _ => ?_, fun k => absurd e k⟩
    rw [x277_23]; exact h0 e
  · have e1 : gI σ 53 42 = 1 := by omega
    rw [x277_8, x277_13, e42]
    refine ⟨ir, fun k => absurd k e, fun _ => ?_⟩
    rw [x277_24]
    refine c275 (P := PS) (lim := lS) (Or.inl rfl) (fun _ => SV_fr (hS e1) (q0 (v := 0)) (fun j => by omega)) (fun e => by cases e) (fun σ1 g1 g2 g3 g4 => ?_)
    simp only [x277_29, aft_l, aft_r, optL_s, optL_n, xgo_n, xgo_s, List.cons_append, List.nil_append, List.append_nil, true_and, and_true, Nat.sub_zero, Nat.zero_le, true_implies, false_implies, implies_true, not_true_eq_false, not_false_eq_true, true_or, or_true]
    refine c259 (fun σ2 k1 k2 k3 k4 => ?_)
    simp only [x277_38, aft_l, aft_r, optL_s, optL_n, xgo_n, xgo_s, List.cons_append, List.nil_append, List.append_nil, true_and, and_true, Nat.sub_zero, Nat.zero_le, true_implies, false_implies, implies_true, not_true_eq_false, not_false_eq_true, true_or, or_true]
    have f2 : fr (fun c j => c = 75 ∨ (c = 53 ∧ (j = 19 ∨ j = 38 ∨ j = 39))) σ1 σ2 := fr_trans (fr_sI fr_refl (Or.inr ⟨rfl, Or.inl rfl⟩)) (fr_mono k4 (fun c j k => by omega))
    refine h1 e1 σ2 (LP_fr g1 f2 (fun c j k => by omega)) ((fr_I f2 _ _ (by omega)).trans g2) (SV_fr g3 f2 (fun j => by omega)) ?_ ?_ k1 k2 k3 (fr_trans (fr_mono (q0 (v := 0)) (fun c j k => by omega)) (fr_trans (fr_mono g4 (fun c j k => Or.inl k)) (fr_mono f2 (fun c j k => by omega))))
    · rw [fr_I k4 _ _ (by omega), gI_sI, if_pos ⟨rfl, rfl⟩]
    · rw [fr_I f2 _ _ (by omega), fr_I g4 _ _ (by unfold pM; omega), gI_sI, if_pos ⟨rfl, rfl⟩]
end LS
