/-! the law's unification: all statements -/
theorem UH_st {S : Int → Prop} {N : Int} {tm : Int → Tm} {Eq : Tm → Tm → Prop} {σ : St} {a b : Int} {s t : Tm} (h : UH S N tm (fun x y => Eq x y ∨ (x = tm a ∧ y = tm b)) σ) (ha : cg Eq (tm a) s) (hb : cg Eq (tm b) t) (hs : s.1 ≥ 0 ∧ s.1 < N) (ht : t.1 ≥ 0 ∧ t.1 < N) : UH S N tm (fun x y => Eq x y ∨ (x = s ∧ y = t)) σ := by
  have hr : ∀ x y, Eq x y → (x.1 ≥ 0 ∧ x.1 < N) ∧ (y.1 ≥ 0 ∧ y.1 < N) := by
    obtain ⟨_, _, _, _, _, k4, _⟩ := h
    exact fun x y e => k4 x y (Or.inl e)
  refine UH_eqv h (fun x y e => ?_) (fun x y e => ?_) (fun x y e => ?_)
  · rcases e with e | ⟨rfl, rfl⟩
    · exact cg_eq (Or.inl e)
    · exact cg_trans (cg_mono (fun _ _ k => cg_eq (Or.inl k)) ha) (cg_trans (cg_eq (Or.inr ⟨rfl, rfl⟩)) (cg_symm (cg_mono (fun _ _ k => cg_eq (Or.inl k)) hb)))
  · rcases e with e | ⟨rfl, rfl⟩
    · exact cg_eq (Or.inl e)
    · exact cg_trans (cg_symm (cg_mono (fun _ _ k => cg_eq (Or.inl k)) ha)) (cg_trans (cg_eq (Or.inr ⟨rfl, rfl⟩)) (cg_mono (fun _ _ k => cg_eq (Or.inl k)) hb))
  · rcases e with e | ⟨rfl, rfl⟩
    · exact hr x y e
    · exact ⟨hs, ht⟩
def S20 : Int → Prop := fun v => 0 ≤ v ∧ v < 20
def LU (σ : St) (N : Int) (tm : Int → Tm) (Eq : Tm → Tm → Prop) : Prop := UH S20 N tm Eq σ ∧ (gI σ 53 28 = N ∧ (28 ≤ N ∧ ∀ k, 0 ≤ k → k < 28 → tm k = (k, 0)))
theorem LU_congr {σ : St} {N : Int} {tm : Int → Tm} {E F : Tm → Tm → Prop} (h : LU σ N tm E) (e : ∀ s t, E s t ↔ F s t) : LU σ N tm F := by
  have : E = F := funext fun s => funext fun t => propext (e s t)
  rw [← this]; exact h
theorem LU_fr {M : Nat → Int → Prop} {σ σ' : St} {N : Int} {tm : Int → Tm} {E : Tm → Tm → Prop} (h : LU σ N tm E) (g : fr M σ σ') (h1 : ∀ j, ¬ M 66 j) (h2 : ∀ j, ¬ M 67 j) (h3 : ¬ M 53 28) : LU σ' N tm E := ⟨UH_fr h.1 g h1 h2, (fr_I g _ _ h3).trans h.2.1, h.2.2⟩
section LU2
variable {t : Nat} {σ : St} {Q : Res → St → Prop} {P : Pg} {N : Int} {tm : Int → Tm} {Eq : Tm → Tm → Prop}
/-- a variable's pointed term -/
theorem pV (h : LU σ N tm Eq) (hN : N ≤ 120) {v : Int} (v0 : 0 ≤ v) (v1 : v ≤ 19) (hq : ∀ q, 0 ≤ q → q < N → cg Eq (tm q) (v, 1) → Q (.inl (some (vI q))) σ) : Call t 244 [vR 53, vI v] σ Q := by
  refine c244s hN h.1 (k := v) ⟨v0, by omega⟩ (fun q q0 q1 hc => hq q q0 q1 ?_)
  rw [h.2.2.2 v v0 (by omega)] at hc
  exact hc
/-- one of any term -/
theorem pA (h : LU σ N tm Eq) (hN : N ≤ 119) {k v : Int} {m : Nat} (k0 : 0 ≤ k) (k1 : k < N) (hk : cg Eq (tm k) (v, m)) (hq : ∀ σ' q N' tm', LU σ' N' tm' Eq → (N ≤ N' ∧ N' ≤ N + 1) → (∀ j, 0 ≤ j → j < N → tm' j = tm j) → (0 ≤ q ∧ q < N') → cg Eq (tm' q) (v, m + 1) → fr uM σ σ' → Q (.inl (some (vI q))) σ') : Call t 244 [vR 53, vI k] σ Q := by
  have h28 := h.2.2.1
  refine c244 hN h.1 h.2.1 k0 k1 (fun σ' q N' tm' g1 g2 g3 g4 g5 g6 g7 => ?_)
  refine hq σ' q N' tm' ⟨UH_sub g1 (fun v hv => Or.inl hv), g2, by omega, fun k k0 k1 => by rw [g4 k k0 (by omega)]; exact h.2.2.2 k k0 k1⟩ g3 g4 g5 ?_ g7
  rw [g4 k k0 k1] at g6
  exact cg_trans g6 (cg_U hk)
theorem uU (h : LU σ N tm Eq) (hN : N ≤ 120) {a b : Int} {s t2 : Tm} (ha : 0 ≤ a ∧ a < N) (hb : 0 ≤ b ∧ b < N) (ca : cg Eq (tm a) s) (cb : cg Eq (tm b) t2) (hs : s.1 ≥ 0 ∧ s.1 < 28) (ht : t2.1 ≥ 0 ∧ t2.1 < 28) (hq : ∀ σ', LU σ' N tm (fun x y => Eq x y ∨ (x = s ∧ y = t2)) → fr uM σ σ' → Q (.inl none) σ') : Call t 245 [vR 53, vI a, vI b] σ Q := by
  have h28 := h.2.2.1
  exact c245 hN h.1 ha hb (fun σ' g1 g2 g3 => hq σ' ⟨UH_st g1 ca cb ⟨hs.1, by omega⟩ ⟨ht.1, by omega⟩, g3.trans h.2.1, h.2.2⟩ g2)
/-- unifiesBy -/
theorem c246 {n : Int} (hP : okP P) (hLP : LPr σ P) (n0 : 0 ≤ n) (n1 : n < tot P) (h : LU σ N tm (EQs P n)) (hN : N ≤ 48 + n) (hq : ∀ σ' N' tm', LU σ' N' tm' (EQs P (n + 1)) → N' ≤ 48 + (n + 1) → fr uM σ σ' → Q (.inl none) σ') : Call t 246 [vR 53, vI (plc P n)] σ Q := by
  obtain ⟨hk, ⟨hv, hw, hn⟩, h5⟩ := hP.2.1 n n0 n1
  have ht := tot_rng hP.1
  have hp := plc_rng hP.1 n0 n1
  have h28 := h.2.2.1
  have hw0 := h.2.2.2 (ww P n) hw.1 (by omega)
  rw [EQs_succ n0] at hq
  have rv : ((vv P n, 1) : Tm).1 ≥ 0 ∧ ((vv P n, 1) : Tm).1 < 28 := ⟨hv.1, by show vv P n < 28; omega⟩
  have rw1 : ((ww P n, 1) : Tm).1 ≥ 0 ∧ ((ww P n, 1) : Tm).1 < 28 := ⟨hw.1, by show ww P n < 28; omega⟩
  simp only [x246_0, LP_vv hLP hP.1 n0 n1, LP_ww hLP hP.1 n0 n1, LP_nn hLP hP.1 n0 n1, LP_kd hLP hP.1 n0 n1]
  refine ⟨⟨hp.1, by omega⟩, ⟨hp.1, by omega⟩, ⟨hp.1, by omega⟩, ⟨hp.1, by omega⟩, ⟨by omega, by omega⟩, fun _ => ?_, fun h => by omega⟩
  have two : kd P n = 1 ∨ kd P n = 5 → wp t 246 190 [some (vR 53), some (vI (plc P n)), some (vI (vv P n)), some (vI (ww P n)), some (vI (nn P n))] [] σ Q := fun e => by
    rw [x246_190]
    refine pV h (by omega) hv.1 hv.2 (fun q1 q10 q11 qc => ?_)
    simp only [x246_196, aft_l, aft_r, optL_s, optL_n, xgo_n, xgo_s, List.cons_append, List.nil_append, List.append_nil, true_and, and_true, Nat.sub_zero, Nat.zero_le, true_implies, false_implies, implies_true, not_true_eq_false, not_false_eq_true, true_or, or_true]
    refine pV h (by omega) hw.1 hw.2 (fun q2 q20 q21 qd => ?_)
    simp only [x246_201, aft_l, aft_r, optL_s, optL_n, xgo_n, xgo_s, List.cons_append, List.nil_append, List.append_nil, true_and, and_true, Nat.sub_zero, Nat.zero_le, true_implies, false_implies, implies_true, not_true_eq_false, not_false_eq_true, true_or, or_true]
    refine uU h (by omega) ⟨q10, q11⟩ ⟨q20, q21⟩ qc qd rv rw1 (fun σ' g1 g2 => ?_)
    simp only [x246_204, aft_l, aft_r, optL_s, optL_n, xgo_n, xgo_s, List.cons_append, List.nil_append, List.append_nil, true_and, and_true, Nat.sub_zero, Nat.zero_le, true_implies, false_implies, implies_true, not_true_eq_false, not_false_eq_true, true_or, or_true]
    refine hq σ' N tm (LU_congr g1 (fun s t => ?_)) (by omega) g2
    unfold EQ
    rcases e with e | e <;> simp [e]
  rcases (show kd P n = 0 ∨ kd P n = 1 ∨ kd P n = 2 ∨ kd P n = 3 ∨ kd P n = 4 ∨ kd P n = 5 ∨ kd P n = 6 by omega) with e | e | e | e | e | e | e
  · rw [e]
    show wp t 246 72 _ _ _ _
    rw [x246_72]
    refine pV h (by omega) hv.1 hv.2 (fun q1 q10 q11 qc => ?_)
    simp only [x246_78, aft_l, aft_r, optL_s, optL_n, xgo_n, xgo_s, List.cons_append, List.nil_append, List.append_nil, true_and, and_true, Nat.sub_zero, Nat.zero_le, true_implies, false_implies, implies_true, not_true_eq_false, not_false_eq_true, true_or, or_true]
    refine uU h (by omega) ⟨q10, q11⟩ ⟨hw.1, by omega⟩ qc (by rw [hw0]; exact cg_refl _) rv (t2 := (ww P n, 0)) ⟨hw.1, by show ww P n < 28; omega⟩ (fun σ' g1 g2 => ?_)
    simp only [x246_82, x246_204, aft_l, aft_r, optL_s, optL_n, xgo_n, xgo_s, List.cons_append, List.nil_append, List.append_nil, true_and, and_true, Nat.sub_zero, Nat.zero_le, true_implies, false_implies, implies_true, not_true_eq_false, not_false_eq_true, true_or, or_true]
    refine hq σ' N tm (LU_congr g1 (fun s t => ?_)) (by omega) g2
    unfold EQ; simp [e]
  · rw [e]
    show wp t 246 190 _ _ _ _
    exact two (Or.inl e)
  · rw [e]
    show wp t 246 85 _ _ _ _
    rw [x246_85]
    refine pV h (by omega) hv.1 hv.2 (fun q1 q10 q11 qc => ?_)
    simp only [x246_91, aft_l, aft_r, optL_s, optL_n, xgo_n, xgo_s, List.cons_append, List.nil_append, List.append_nil, true_and, and_true, Nat.sub_zero, Nat.zero_le, true_implies, false_implies, implies_true, not_true_eq_false, not_false_eq_true, true_or, or_true]
    refine pV h (by omega) hw.1 hw.2 (fun q2 q20 q21 qd => ?_)
    simp only [x246_97, aft_l, aft_r, optL_s, optL_n, xgo_n, xgo_s, List.cons_append, List.nil_append, List.append_nil, true_and, and_true, Nat.sub_zero, Nat.zero_le, true_implies, false_implies, implies_true, not_true_eq_false, not_false_eq_true, true_or, or_true]
    refine pA h (by omega) q20 q21 qd (fun σ1 q3 N' tm' g1 g2 g3 g4 g5 g6 => ?_)
    simp only [x246_100, aft_l, aft_r, optL_s, optL_n, xgo_n, xgo_s, List.cons_append, List.nil_append, List.append_nil, true_and, and_true, Nat.sub_zero, Nat.zero_le, true_implies, false_implies, implies_true, not_true_eq_false, not_false_eq_true, true_or, or_true]
    refine uU g1 (by omega) ⟨q10, by omega⟩ g4 (by rw [g3 q1 q10 q11]; exact qc) g5 rv ⟨hw.1, by show ww P n < 28; omega⟩ (fun σ' k1 k2 => ?_)
    simp only [x246_103, x246_204, aft_l, aft_r, optL_s, optL_n, xgo_n, xgo_s, List.cons_append, List.nil_append, List.append_nil, true_and, and_true, Nat.sub_zero, Nat.zero_le, true_implies, false_implies, implies_true, not_true_eq_false, not_false_eq_true, true_or, or_true]
    refine hq σ' N' tm' (LU_congr k1 (fun s t => ?_)) (by omega) (fr_trans g6 k2)
    unfold EQ; simp [e]
  · rw [e]
    show wp t 246 106 _ _ _ _
    rw [x246_106]
    refine pV h (by omega) hv.1 hv.2 (fun q1 q10 q11 qc => ?_)
    simp only [x246_113, aft_l, aft_r, optL_s, optL_n, xgo_n, xgo_s, List.cons_append, List.nil_append, List.append_nil, true_and, and_true, Nat.sub_zero, Nat.zero_le, true_implies, false_implies, implies_true, not_true_eq_false, not_false_eq_true, true_or, or_true]
    refine pA h (by omega) q10 q11 qc (fun σ1 q3 N' tm' g1 g2 g3 g4 g5 g6 => ?_)
    simp only [x246_116, aft_l, aft_r, optL_s, optL_n, xgo_n, xgo_s, List.cons_append, List.nil_append, List.append_nil, true_and, and_true, Nat.sub_zero, Nat.zero_le, true_implies, false_implies, implies_true, not_true_eq_false, not_false_eq_true, true_or, or_true]
    refine pV g1 (by omega) hw.1 hw.2 (fun q2 q20 q21 qd => ?_)
    simp only [x246_121, aft_l, aft_r, optL_s, optL_n, xgo_n, xgo_s, List.cons_append, List.nil_append, List.append_nil, true_and, and_true, Nat.sub_zero, Nat.zero_le, true_implies, false_implies, implies_true, not_true_eq_false, not_false_eq_true, true_or, or_true]
    refine uU g1 (by omega) g4 ⟨q20, q21⟩ g5 qd (s := (vv P n, 1 + 1)) ⟨hv.1, by show vv P n < 28; omega⟩ rw1 (fun σ' k1 k2 => ?_)
    simp only [x246_124, x246_204, aft_l, aft_r, optL_s, optL_n, xgo_n, xgo_s, List.cons_append, List.nil_append, List.append_nil, true_and, and_true, Nat.sub_zero, Nat.zero_le, true_implies, false_implies, implies_true, not_true_eq_false, not_false_eq_true, true_or, or_true]
    refine hq σ' N' tm' (LU_congr k1 (fun s t => ?_)) (by omega) (fr_trans g6 k2)
    unfold EQ; simp [e]
  · have hs := sn_lt hP n0 n1 e
    rw [e]
    show wp t 246 127 _ _ _ _
    rw [x246_127]
    refine pV h (by omega) hv.1 hv.2 (fun q1 q10 q11 qc => ?_)
    simp only [x246_133, e185 hLP hP n0 n1, x246_140, aft_l, aft_r, optL_s, optL_n, xgo_n, xgo_s, List.cons_append, List.nil_append, List.append_nil, true_and, and_true, Nat.sub_zero, Nat.zero_le, true_implies, false_implies, implies_true, not_true_eq_false, not_false_eq_true, true_or, or_true]
    refine uU h (by omega) ⟨q10, q11⟩ (b := 20 + sn P n) (by omega) qc (by rw [h.2.2.2 (20 + sn P n) (by omega) (by omega)]; exact cg_refl _) rv (t2 := (20 + sn P n, 0)) ⟨by show 20 + sn P n ≥ 0; omega, by show 20 + sn P n < 28; omega⟩ (fun σ' g1 g2 => ?_)
    simp only [x246_144, x246_204, aft_l, aft_r, optL_s, optL_n, xgo_n, xgo_s, List.cons_append, List.nil_append, List.append_nil, true_and, and_true, Nat.sub_zero, Nat.zero_le, true_implies, false_implies, implies_true, not_true_eq_false, not_false_eq_true, true_or, or_true]
    refine hq σ' N tm (LU_congr g1 (fun s t => ?_)) (by omega) g2
    unfold EQ; simp [e]
  · rw [e]
    show wp t 246 190 _ _ _ _
    exact two (Or.inr e)
  · rw [e]
    show wp t 246 147 _ _ _ _
    rw [x246_147]
    refine pV h (by omega) (v := 4 + 4 * nn P n) (by omega) (by omega) (fun q1 q10 q11 qc => ?_)
    simp only [x246_158, aft_l, aft_r, optL_s, optL_n, xgo_n, xgo_s, List.cons_append, List.nil_append, List.append_nil, true_and, and_true, Nat.sub_zero, Nat.zero_le, true_implies, false_implies, implies_true, not_true_eq_false, not_false_eq_true, true_or, or_true]
    refine pV h (by omega) hw.1 hw.2 (fun q2 q20 q21 qd => ?_)
    simp only [x246_163, aft_l, aft_r, optL_s, optL_n, xgo_n, xgo_s, List.cons_append, List.nil_append, List.append_nil, true_and, and_true, Nat.sub_zero, Nat.zero_le, true_implies, false_implies, implies_true, not_true_eq_false, not_false_eq_true, true_or, or_true]
    refine uU h (by omega) ⟨q10, q11⟩ ⟨q20, q21⟩ qc qd (s := (4 + 4 * nn P n, 1)) ⟨by show 4 + 4 * nn P n ≥ 0; omega, by show 4 + 4 * nn P n < 28; omega⟩ rw1 (fun σ1 g1 g2 => ?_)
    simp only [x246_166, aft_l, aft_r, optL_s, optL_n, xgo_n, xgo_s, List.cons_append, List.nil_append, List.append_nil, true_and, and_true, Nat.sub_zero, Nat.zero_le, true_implies, false_implies, implies_true, not_true_eq_false, not_false_eq_true, true_or, or_true]
    refine pV g1 (by omega) hv.1 hv.2 (fun q3 q30 q31 qe => ?_)
    simp only [x246_172, aft_l, aft_r, optL_s, optL_n, xgo_n, xgo_s, List.cons_append, List.nil_append, List.append_nil, true_and, and_true, Nat.sub_zero, Nat.zero_le, true_implies, false_implies, implies_true, not_true_eq_false, not_false_eq_true, true_or, or_true]
    refine pV g1 (by omega) (v := 4 + 4 * nn P n + 1) (by omega) (by omega) (fun q4 q40 q41 qf => ?_)
    simp only [x246_184, aft_l, aft_r, optL_s, optL_n, xgo_n, xgo_s, List.cons_append, List.nil_append, List.append_nil, true_and, and_true, Nat.sub_zero, Nat.zero_le, true_implies, false_implies, implies_true, not_true_eq_false, not_false_eq_true, true_or, or_true]
    refine uU g1 (by omega) ⟨q30, q31⟩ ⟨q40, q41⟩ qe qf rv (t2 := (4 + 4 * nn P n + 1, 1)) ⟨by show 4 + 4 * nn P n + 1 ≥ 0; omega, by show 4 + 4 * nn P n + 1 < 28; omega⟩ (fun σ' k1 k2 => ?_)
    simp only [x246_187, x246_204, aft_l, aft_r, optL_s, optL_n, xgo_n, xgo_s, List.cons_append, List.nil_append, List.append_nil, true_and, and_true, Nat.sub_zero, Nat.zero_le, true_implies, false_implies, implies_true, not_true_eq_false, not_false_eq_true, true_or, or_true]
    refine hq σ' N tm (LU_congr k1 (fun s t => ?_)) (by omega) (fr_trans g2 k2)
    unfold EQ; simp [e, or_assoc]
def LUr (σ : St) (P : Pg) : Prop := ∃ N tm, LU σ N tm (EQs P (tot P)) ∧ N ≤ 96
theorem us3 (hP : okP P) (hLP : LPr σ P) (hq : ∀ σ', LUr σ' P → fr uM σ σ' → Q (.inl none) σ') :
    ∀ (d : Nat) (n : Int) (σ1 : St) (N : Int) (tm : Int → Tm), 0 ≤ n → n + d = tot P → LU σ1 N tm (EQs P n) → N ≤ 48 + n → fr uM σ σ1 → wp t 247 46 [some (vR 53), some (vI n)] [] σ1 Q
  | 0, n, σ1, N, tm, n0, hd, h, hN, hf => by
    have ht := tot_rng hP.1
    have e : n = tot P := by omega
    have hL1 : LPr σ1 P := LP_fr hLP hf (fun c j k => by unfold uM at k; omega)
    simp only [x247_46, e181 hL1, x247_51, aft_l, aft_r, optL_s, optL_n, xgo_n, xgo_s, List.cons_append, List.nil_append, List.append_nil, true_and, and_true, Nat.sub_zero, Nat.zero_le, true_implies, false_implies, implies_true, not_true_eq_false, not_false_eq_true, true_or, or_true]
    refine ⟨⟨⟨by omega, by omega⟩, ⟨by omega, by omega⟩⟩, fun h => by omega, fun _ => ?_⟩
    rw [x247_69]
    rw [e] at h
    exact hq σ1 ⟨N, tm, h, by omega⟩ hf
  | d + 1, n, σ1, N, tm, n0, hd, h, hN, hf => by
    have ht := tot_rng hP.1
    have hL1 : LPr σ1 P := LP_fr hLP hf (fun c j k => by unfold uM at k; omega)
    simp only [x247_46, e181 hL1, x247_51, x247_54, e182 hL1 hP.1 n0 (show n < tot P by omega), x247_60, aft_l, aft_r, optL_s, optL_n, xgo_n, xgo_s, List.cons_append, List.nil_append, List.append_nil, true_and, and_true, Nat.sub_zero, Nat.zero_le, true_implies, false_implies, implies_true, not_true_eq_false, not_false_eq_true, true_or, or_true]
    refine ⟨⟨⟨by omega, by omega⟩, ⟨by omega, by omega⟩⟩, fun _ => ?_, fun h => by omega⟩
    refine c246 hP hL1 n0 (by omega) h hN (fun σ' N' tm' g1 g2 g3 => ?_)
    simp only [x247_63, aft_l, aft_r, optL_s, optL_n, xgo_n, xgo_s, List.cons_append, List.nil_append, List.append_nil, true_and, and_true, Nat.sub_zero, Nat.zero_le, true_implies, false_implies, implies_true, not_true_eq_false, not_false_eq_true, true_or, or_true]
    exact us3 hP hLP hq d (n + 1) σ' N' tm' (by omega) (by omega) g1 g2 (fr_trans hf g3)
theorem us2 (hq : ∀ σ' N tm a1, LU σ' N tm (fun _ _ => False) → N ≤ 48 → fr uM σ σ' → wp t 247 44 [some (vR 53), a1] [] σ' Q) :
    ∀ (d : Nat) (i : Int) (σ1 : St) (N : Int) (tm : Int → Tm), 0 ≤ i → i + d = 20 → UH (fun v => 0 ≤ v ∧ v < i) N tm (fun _ _ => False) σ1 → gI σ1 53 28 = N → (28 ≤ N ∧ N ≤ 28 + i) → (∀ k, 0 ≤ k → k < 28 → tm k = (k, 0)) → fr uM σ σ1 → wp t 247 26 [some (vR 53), some (vI i)] [] σ1 Q
  | 0, i, σ1, N, tm, i0, hd, h, h28, hN, ht, hf => by
    have e : i = 20 := by omega
    subst e
    rw [x247_26]
    exact ⟨⟨by omega, by omega⟩, fun h => by omega, fun _ => hq σ1 N tm _ ⟨h, h28, hN.1, ht⟩ hN.2 hf⟩
  | d + 1, i, σ1, N, tm, i0, hd, h, h28, hN, ht, hf => by
    rw [x247_26]
    refine ⟨⟨by omega, by omega⟩, fun _ => ?_, fun h => by omega⟩
    rw [x247_32]
    refine c244 (by omega) h h28 i0 (by omega) (fun σ' q N' tm' g1 g2 g3 g4 g5 g6 g7 => ?_)
    simp only [x247_37, aft_l, aft_r, optL_s, optL_n, xgo_n, xgo_s, List.cons_append, List.nil_append, List.append_nil, true_and, and_true, Nat.sub_zero, Nat.zero_le, true_implies, false_implies, implies_true, not_true_eq_false, not_false_eq_true, true_or, or_true]
    exact us2 hq d (i + 1) σ' N' tm' (by omega) (by omega) (UH_sub g1 (fun v hv => by
      by_cases z : v = i
      · exact Or.inr z
      · exact Or.inl ⟨hv.1, by omega⟩)) g2 (by omega) (fun k k0 k1 => by rw [g4 k k0 (by omega)]; exact ht k k0 k1) (fr_trans hf g7)
theorem us1 (hq : ∀ σ' a1, (∀ k, 0 ≤ k → k < 28 → gI σ' 66 k = k ∧ gI σ' 67 k = -1) → gI σ' 53 28 = 28 → fr uM σ σ' → wp t 247 24 [some (vR 53), a1] [] σ' Q) :
    ∀ (d : Nat) (i : Int) (σ1 : St), 0 ≤ i → i + d = 28 → (∀ k, 0 ≤ k → k < i → gI σ1 66 k = k ∧ gI σ1 67 k = -1) → gI σ1 53 28 = i → fr uM σ σ1 → wp t 247 7 [some (vR 53), some (vI i)] [] σ1 Q
  | 0, i, σ1, i0, hd, h, h28, hf => by
    have e : i = 28 := by omega
    subst e
    rw [x247_7]
    exact ⟨⟨by omega, by omega⟩, fun h => by omega, fun _ => hq σ1 _ h h28 hf⟩
  | d + 1, i, σ1, i0, hd, h, h28, hf => by
    have e1 : gI (sI σ1 66 i i) 53 28 = i := by rw [gI_rne (by decide)]; exact h28
    have e2 : gI (sI (sI σ1 66 i i) 67 i (-1)) 53 28 = i := by rw [gI_rne (by decide)]; exact e1
    rw [x247_7]
    refine ⟨⟨by omega, by omega⟩, fun _ => ?_, fun h => by omega⟩
    simp only [x247_13, x243_0, h28, e1, e2, x247_17, aft_l, aft_r, optL_s, optL_n, xgo_n, xgo_s, List.cons_append, List.nil_append, List.append_nil, true_and, and_true, Nat.sub_zero, Nat.zero_le, true_implies, false_implies, implies_true, not_true_eq_false, not_false_eq_true, true_or, or_true]
    refine ⟨⟨i0, by omega⟩, ⟨i0, by omega⟩, us1 hq d (i + 1) _ (by omega) (by omega) (fun k k0 k1 => ?_) (by rw [gI_sI, if_pos ⟨rfl, rfl⟩]) (fr_sI (fr_sI (fr_sI hf (by unfold uM; omega)) (by unfold uM; omega)) (by unfold uM; omega))⟩
    have e66 : gI (sI (sI (sI σ1 66 i i) 67 i (-1)) 53 28 (i + 1)) 66 = fun j => if j = i then i else gI σ1 66 j := by rw [gI_rne (show (66 : Nat) ≠ 53 by decide), gI_rne (show (66 : Nat) ≠ 67 by decide), gI_row]
    have e67 : gI (sI (sI (sI σ1 66 i i) 67 i (-1)) 53 28 (i + 1)) 67 = fun j => if j = i then -1 else gI σ1 67 j := by rw [gI_rne (show (67 : Nat) ≠ 53 by decide), gI_row, gI_rne (show (67 : Nat) ≠ 66 by decide)]
    rw [e66, e67]
    show (if k = i then i else gI σ1 66 k) = k ∧ (if k = i then -1 else gI σ1 67 k) = -1
    by_cases q : k = i
    · rw [if_pos q, if_pos q]; exact ⟨q.symm, rfl⟩
    · rw [if_neg q, if_neg q]; exact h k k0 (by omega)
/-- findUnification -/
theorem c247 (hP : okP P) (hLP : LPr σ P) (hq : ∀ σ', LUr σ' P → fr uM σ σ' → Q (.inl none) σ') : Call t 247 [vR 53] σ Q := by
  have hf0 : fr uM σ (sI σ 53 28 0) := fr_sI fr_refl (by unfold uM; omega)
  rw [x247_0]
  refine us1 (fun σ1 a1 h1 h2 h3 => ?_) 28 0 (sI σ 53 28 0) (by omega) (by omega) (fun k k0 k1 => by omega) (by rw [gI_sI, if_pos ⟨rfl, rfl⟩]) fr_refl
  rw [x247_24]
  have hU : UH (fun v => 0 ≤ v ∧ v < 0) 28 (fun k => (k, 0)) (fun _ _ => False) σ1 := by
    refine ⟨fun k => k, 0, ⟨fun k k0 k1 => ⟨⟨⟨k0, k1⟩, rfl⟩, fun _ => Or.inl (h1 k k0 k1).2⟩, fun k k0 k1 => ⟨cg_refl _, fun _ n => absurd (h1 k k0 k1).2 n⟩, ⟨fun a b h => h.elim, fun k k0 k1 => rfl⟩, fun k k0 k1 => ⟨k0, k1⟩⟩, fun k k0 k1 => ⟨by rw [(h1 k k0 k1).1]; exact ⟨k0, k1⟩, ⟨k0, k1⟩, (h1 k k0 k1).1, 0, Nat.le_refl _, rfl⟩, ?_, fun s t h => h.elim, fun v hv => by omega⟩
    show ((0 : Nat) : Int) + nrt (gI σ1 66) 28 ≤ 28
    have := nrt_id (par := gI σ1 66) 28 (fun k k0 k1 => (h1 k k0 (by omega)).1)
    omega
  refine us2 (fun σ2 N tm a1 g1 g2 g3 => ?_) 20 0 σ1 28 (fun k => (k, 0)) (by omega) (by omega) hU h2 (by omega) (fun k _ _ => rfl) fr_refl
  rw [x247_44]
  have hf2 : fr uM σ σ2 := fr_trans hf0 (fr_trans h3 g3)
  exact us3 hP (LP_fr hLP hf2 (fun c j k => by unfold uM at k; omega)) (fun σ' k1 k2 => hq σ' k1 (fr_trans hf2 k2)) (tot P).toNat 0 σ2 N tm (by omega) (by have := tot_rng hP.1; omega) (by rw [EQs_0]; exact g1) (by omega) fr_refl
end LU2
