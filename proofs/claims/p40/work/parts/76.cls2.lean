/-! the class: its graphs -/
section CG2
variable {t : Nat} {σ : St} {Q : Res → St → Prop} {P : Pg} {lim : Int} {xs ys : List Int}
theorem dpl (hP : okP P) {σ0 : St} (hI : INr 19 σ0 P lim xs) (hq : ∀ σ', (∀ a b, GW σ' a b ↔ im xs (Lf P xs lim) a b) → fr (fun c _ => c = 45) σ0 σ' → ∀ a1, wp t 159 37 [some (vR 0), a1] [] σ' Q) :
    ∀ (d : Nat) (i : Int) (σ1 : St), 0 ≤ i → i + d = 44 → (∀ a b, GW σ1 a b ↔ (a < i ∧ im xs (Lf P xs lim) a b)) → fr (fun c _ => c = 45) σ0 σ1 → wp t 159 9 [some (vR 0), some (vI i)] [] σ1 Q
  | 0, i, σ1, i0, hd, h, hf => by
    have h44 : ∀ a b, im xs (Lf P xs lim) a b → (0 ≤ a ∧ a < 44) ∧ (0 ≤ b ∧ b < 44) := fun a b k => im_44 (xok_of hP hI.1.1) (Lf_okF hP hI.1.1) k
    rw [x159_9]
    refine ⟨⟨by omega, by omega⟩, fun a => by omega, fun _ => hq σ1 (fun a b => ?_) hf _⟩
    rw [h]
    exact ⟨fun k => k.2, fun k => ⟨by have := h44 a b k; omega, k⟩⟩
  | d + 1, i, σ1, i0, hd, h, hf => by
    have h44 : ∀ a b, im xs (Lf P xs lim) a b → (0 ≤ a ∧ a < 44) ∧ (0 ≤ b ∧ b < 44) := fun a b k => im_44 (xok_of hP hI.1.1) (Lf_okF hP hI.1.1) k
    have hSW : SW (gL σ1 27 i) (im xs (Lf P xs lim) i) := by rw [fr_L hf 27 i (by omega)]; exact INr_SW_19 hI i0 (by omega)
    rw [x159_9]
    refine ⟨⟨by omega, by omega⟩, fun _ => ?_, fun a => by omega⟩
    simp only [x159_15, e58_19 i0 (show i < 44 by omega), x159_28, e38 i0 (show i < 44 by omega), x159_31, aft_l, aft_r, optL_s, optL_n, xgo_n, xgo_s, List.cons_append, List.nil_append, List.append_nil, true_and, and_true, Nat.sub_zero, Nat.zero_le, true_implies, false_implies, implies_true, not_true_eq_false, not_false_eq_true, true_or, or_true]
    refine dpl hP hI hq d (i + 1) _ (by omega) (by omega) (fun a b => ?_) (fr_sL hf rfl)
    rw [GW_put i0 (by omega) hSW, h]
    constructor
    · rintro (⟨k1, k2⟩ | ⟨e, _, k⟩)
      · exact ⟨by omega, k2⟩
      · rw [e]; exact ⟨by omega, k⟩
    · rintro ⟨k1, k2⟩
      by_cases e : a = i
      · rw [e] at k2; exact Or.inr ⟨e, ⟨by have := h44 i b k2; omega, by have := h44 i b k2; omega⟩, k2⟩
      · exact Or.inl ⟨by omega, k2⟩
/-- drawPointers -/
theorem c159 (hP : okP P) (hI : INr 19 σ P lim xs) (hq : ∀ σ', (∀ a b, GW σ' a b ↔ TC (im xs (Lf P xs lim)) a b) → fr (fun c _ => c = 45) σ σ' → Q (.inl none) σ') : Call t 159 [vR 0] σ Q := by
  have h44 : ∀ a b, im xs (Lf P xs lim) a b → (0 ≤ a ∧ a < 44) ∧ (0 ≤ b ∧ b < 44) := fun a b k => im_44 (xok_of hP hI.1.1) (Lf_okF hP hI.1.1) k
  rw [x159_0]
  refine c36 (fun σ1 g1 g2 => ?_)
  simp only [x159_7, aft_l, aft_r, optL_s, optL_n, xgo_n, xgo_s, List.cons_append, List.nil_append, List.append_nil, true_and, and_true, Nat.sub_zero, Nat.zero_le, true_implies, false_implies, implies_true, not_true_eq_false, not_false_eq_true, true_or, or_true]
  refine dpl hP hI (fun σ2 k1 k2 a1 => ?_) 44 0 σ1 (by omega) (by omega) (fun a b => ⟨fun k => absurd k (g1 a b), fun k => by have := (h44 a b k.2).1.1; omega⟩) g2
  rw [x159_37]
  refine c39 (fun a b e => (h44 a b ((k1 a b).mp e)).2.2) (fun σ3 m1 m2 => ?_)
  simp only [x159_44, aft_l, aft_r, optL_s, optL_n, xgo_n, xgo_s, List.cons_append, List.nil_append, List.append_nil, true_and, and_true, Nat.sub_zero, Nat.zero_le, true_implies, false_implies, implies_true, not_true_eq_false, not_false_eq_true, true_or, or_true]
  exact hq σ3 (fun a b => (m1 a b).trans (TC_iff k1)) (fr_trans k2 m2)
theorem dcl1 (hP : okP P) {σ0 : St} (hN : RN 5 σ0 P) (hq : ∀ σ', (∀ a b, GW σ' a b ↔ ECl P a b) → fr (fun c _ => c = 45) σ0 σ' → ∀ a1, wp t 160 62 [some (vR 0), a1] [] σ' Q) :
    ∀ (d : Nat) (n : Int) (σ1 : St), 0 ≤ n → n + d = tot P → (∀ a b, GW σ1 a b ↔ ∃ m, 0 ≤ m ∧ (m < n ∧ (own P m = a ∧ (kd P m = 6 ∧ nn P m = b)))) → fr (fun c _ => c = 45) σ0 σ1 → wp t 160 9 [some (vR 0), some (vI n)] [] σ1 Q
  | 0, n, σ1, n0, hd, h, hf => by
    have ht := tot_rng hP.1
    have hN1 : RN 5 σ1 P := RN_fr hN hf (fun j => by omega) (fun j => by omega) (fun j => by omega) (fun j => by omega) (by omega)
    have e : n = tot P := by omega
    simp only [x160_9, e86 hN1, x160_17, aft_l, aft_r, optL_s, optL_n, xgo_n, xgo_s, List.cons_append, List.nil_append, List.append_nil, true_and, and_true, Nat.sub_zero, Nat.zero_le, true_implies, false_implies, implies_true, not_true_eq_false, not_false_eq_true, true_or, or_true]
    refine ⟨⟨⟨by omega, by omega⟩, ⟨by omega, by omega⟩⟩, fun a => by omega, fun _ => hq σ1 (fun a b => ?_) hf _⟩
    rw [h, e]; rfl
  | d + 1, n, σ1, n0, hd, h, hf => by
    have ht := tot_rng hP.1
    have n1 : n < tot P := by omega
    have hN1 : RN 5 σ1 P := RN_fr hN hf (fun j => by omega) (fun j => by omega) (fun j => by omega) (fun j => by omega) (by omega)
    obtain ⟨hk, ⟨hv, hw, hn⟩, h5⟩ := hP.2.1 n n0 n1
    have how := (own_spec hP.1 n0 n1).1
    simp only [x160_9, e86 hN1, x160_17, aft_l, aft_r, optL_s, optL_n, xgo_n, xgo_s, List.cons_append, List.nil_append, List.append_nil, true_and, and_true, Nat.sub_zero, Nat.zero_le, true_implies, false_implies, implies_true, not_true_eq_false, not_false_eq_true, true_or, or_true]
    refine ⟨⟨⟨by omega, by omega⟩, ⟨by omega, by omega⟩⟩, fun _ => ?_, fun a => by omega⟩
    simp only [x160_20, e90 hP hN1 n0 n1, x160_28, aft_l, aft_r, optL_s, optL_n, xgo_n, xgo_s, List.cons_append, List.nil_append, List.append_nil, true_and, and_true, Nat.sub_zero, Nat.zero_le, true_implies, false_implies, implies_true, not_true_eq_false, not_false_eq_true, true_or, or_true]
    refine ⟨⟨by omega, by omega⟩, fun c => ?_, fun c => ?_⟩
    · simp only [x160_33, e94 hP.1 hN1 n0 n1, x160_45, e93 hP hN1 n0 n1, x160_53, e37 how.1 (show own P n < 44 by omega), x160_56, aft_l, aft_r, optL_s, optL_n, xgo_n, xgo_s, List.cons_append, List.nil_append, List.append_nil, true_and, and_true, Nat.sub_zero, Nat.zero_le, true_implies, false_implies, implies_true, not_true_eq_false, not_false_eq_true, true_or, or_true]
      refine dcl1 hP hN hq d (n + 1) _ (by omega) (by omega) (fun a b => ?_) (fr_sL hf rfl)
      rw [GW_put how.1 (by omega) (SW_one hn.1 (show nn P n < 64 by omega)), h]
      constructor
      · rintro (⟨m, m0, m1, k⟩ | ⟨e, _, k⟩)
        · exact ⟨m, m0, by omega, k⟩
        · exact ⟨n, n0, by omega, e.symm, c, k.symm⟩
      · rintro ⟨m, m0, m1, k1, k2, k3⟩
        by_cases z : m = n
        · rw [z] at k1 k3; exact Or.inr ⟨k1.symm, ⟨by omega, by omega⟩, k3.symm⟩
        · exact Or.inl ⟨m, m0, by omega, k1, k2, k3⟩
    · rw [x160_56]
      refine dcl1 hP hN hq d (n + 1) σ1 (by omega) (by omega) (fun a b => ?_) hf
      rw [h]
      constructor
      · rintro ⟨m, m0, m1, k⟩; exact ⟨m, m0, by omega, k⟩
      · rintro ⟨m, m0, m1, k1, k2, k3⟩
        by_cases z : m = n
        · rw [z] at k2; exact absurd k2 c
        · exact ⟨m, m0, by omega, k1, k2, k3⟩
/-- drawCalls -/
theorem c160 (hP : okP P) (hN : RN 5 σ P) (hq : ∀ σ', (∀ a b, GW σ' a b ↔ TC (ECl P) a b) → fr (fun c _ => c = 45) σ σ' → Q (.inl none) σ') : Call t 160 [vR 0] σ Q := by
  have ht := tot_rng hP.1
  rw [x160_0]
  refine c36 (fun σ1 g1 g2 => ?_)
  simp only [x160_7, aft_l, aft_r, optL_s, optL_n, xgo_n, xgo_s, List.cons_append, List.nil_append, List.append_nil, true_and, and_true, Nat.sub_zero, Nat.zero_le, true_implies, false_implies, implies_true, not_true_eq_false, not_false_eq_true, true_or, or_true]
  refine dcl1 hP hN (fun σ2 k1 k2 a1 => ?_) (tot P).toNat 0 σ1 (by omega) (by omega) (fun a b => ⟨fun k => absurd k (g1 a b), fun ⟨m, m0, m1, _⟩ => by omega⟩) g2
  rw [x160_62]
  refine c39 (fun a b e => by have := ECl_rng hP ((k1 a b).mp e); omega) (fun σ3 m1 m2 => ?_)
  simp only [x160_69, aft_l, aft_r, optL_s, optL_n, xgo_n, xgo_s, List.cons_append, List.nil_append, List.append_nil, true_and, and_true, Nat.sub_zero, Nat.zero_le, true_implies, false_implies, implies_true, not_true_eq_false, not_false_eq_true, true_or, or_true]
  exact hq σ3 (fun a b => (m1 a b).trans (TC_iff k1)) (fr_trans k2 m2)
theorem dfl1 (hP : okP P) {σ0 : St} (hN : RN 5 σ0 P) (hq : ∀ σ', (∀ a b, GW σ' a b ↔ EFl P a b) → fr (fun c _ => c = 45) σ0 σ' → ∀ a1 a2 a3 a4, wp t 161 117 [some (vR 0), a1, a2, a3, a4] [] σ' Q) :
    ∀ (d : Nat) (n : Int) (σ1 : St) (a2 a3 a4 : Option AV), 0 ≤ n → n + d = tot P → (∀ a b, GW σ1 a b ↔ ∃ m, 0 ≤ m ∧ (m < n ∧ EFn P m a b)) → fr (fun c _ => c = 45) σ0 σ1 → wp t 161 9 [some (vR 0), some (vI n), a2, a3, a4] [] σ1 Q
  | 0, n, σ1, a2, a3, a4, n0, hd, h, hf => by
    have ht := tot_rng hP.1
    have hN1 : RN 5 σ1 P := RN_fr hN hf (fun j => by omega) (fun j => by omega) (fun j => by omega) (fun j => by omega) (by omega)
    have e : n = tot P := by omega
    simp only [x161_9, e86 hN1, x161_17, aft_l, aft_r, optL_s, optL_n, xgo_n, xgo_s, List.cons_append, List.nil_append, List.append_nil, true_and, and_true, Nat.sub_zero, Nat.zero_le, true_implies, false_implies, implies_true, not_true_eq_false, not_false_eq_true, true_or, or_true]
    refine ⟨⟨⟨by omega, by omega⟩, ⟨by omega, by omega⟩⟩, fun a => by omega, fun _ => hq σ1 (fun a b => ?_) hf _ _ _ _⟩
    rw [h, e]; rfl
  | d + 1, n, σ1, a2, a3, a4, n0, hd, h, hf => by
    have ht := tot_rng hP.1
    have n1 : n < tot P := by omega
    have hN1 : RN 5 σ1 P := RN_fr hN hf (fun j => by omega) (fun j => by omega) (fun j => by omega) (fun j => by omega) (by omega)
    obtain ⟨hk, ⟨hv, hw, hn⟩, h5⟩ := hP.2.1 n n0 n1
    have next : ∀ σ' a2 a3 a4, (∀ a b, GW σ' a b ↔ (GW σ1 a b ∨ EFn P n a b)) → fr (fun c _ => c = 45) σ0 σ' → wp t 161 111 [some (vR 0), some (vI n), a2, a3, a4] [] σ' Q := fun σ' a2 a3 a4 g hf' => by
      rw [x161_111]
      refine dfl1 hP hN hq d (n + 1) σ' _ _ _ (by omega) (by omega) (fun a b => ?_) hf'
      rw [g, h]
      constructor
      · rintro (⟨m, m0, m1, k⟩ | k)
        · exact ⟨m, m0, by omega, k⟩
        · exact ⟨n, n0, by omega, k⟩
      · rintro ⟨m, m0, m1, k⟩
        by_cases z : m = n
        · rw [z] at k; exact Or.inr k
        · exact Or.inl ⟨m, m0, by omega, k⟩
    simp only [x161_9, e86 hN1, x161_17, aft_l, aft_r, optL_s, optL_n, xgo_n, xgo_s, List.cons_append, List.nil_append, List.append_nil, true_and, and_true, Nat.sub_zero, Nat.zero_le, true_implies, false_implies, implies_true, not_true_eq_false, not_false_eq_true, true_or, or_true]
    refine ⟨⟨⟨by omega, by omega⟩, ⟨by omega, by omega⟩⟩, fun _ => ?_, fun a => by omega⟩
    simp only [x161_20, e91 hP hN1 n0 n1, x161_28, e92 hP hN1 n0 n1, x161_37, e93 hP hN1 n0 n1, x161_46, e90 hP hN1 n0 n1, x161_56, aft_l, aft_r, optL_s, optL_n, xgo_n, xgo_s, List.cons_append, List.nil_append, List.append_nil, true_and, and_true, Nat.sub_zero, Nat.zero_le, true_implies, false_implies, implies_true, not_true_eq_false, not_false_eq_true, true_or, or_true]
    refine ⟨⟨by omega, by omega⟩, fun c => ?_, fun c => ?_⟩
    · simp only [x161_60, e37 hw.1 (show ww P n < 44 by omega), x161_69, aft_l, aft_r, optL_s, optL_n, xgo_n, xgo_s, List.cons_append, List.nil_append, List.append_nil, true_and, and_true, Nat.sub_zero, Nat.zero_le, true_implies, false_implies, implies_true, not_true_eq_false, not_false_eq_true, true_or, or_true]
      refine next _ _ _ _ (fun a b => ?_) (fr_sL hf rfl)
      rw [GW_put hw.1 (by omega) (SW_one hv.1 (show vv P n < 64 by omega))]
      unfold EFn
      constructor
      · rintro (k | ⟨e, _, k⟩)
        · exact Or.inl k
        · exact Or.inr (Or.inl ⟨c, e, k⟩)
      · rintro (k | ⟨_, e, k⟩ | ⟨k, _⟩)
        · exact Or.inl k
        · exact Or.inr ⟨e, ⟨by omega, by omega⟩, k⟩
        · omega
    · simp only [x161_72, e90 hP hN1 n0 n1, x161_80, aft_l, aft_r, optL_s, optL_n, xgo_n, xgo_s, List.cons_append, List.nil_append, List.append_nil, true_and, and_true, Nat.sub_zero, Nat.zero_le, true_implies, false_implies, implies_true, not_true_eq_false, not_false_eq_true, true_or, or_true]
      refine ⟨⟨by omega, by omega⟩, fun b6 => ?_, fun b6 => ?_⟩
      · simp only [x161_85, k168, x161_95, e37 hw.1 (show ww P n < 44 by omega), x161_98, k169, x161_107, e37 (show 0 ≤ 4 + 4 * nn P n + 1 by omega) (show 4 + 4 * nn P n + 1 < 44 by omega), aft_l, aft_r, optL_s, optL_n, xgo_n, xgo_s, List.cons_append, List.nil_append, List.append_nil, true_and, and_true, Nat.sub_zero, Nat.zero_le, true_implies, false_implies, implies_true, not_true_eq_false, not_false_eq_true, true_or, or_true]
        refine next _ _ _ _ (fun a b => ?_) (fr_sL (fr_sL hf rfl) rfl)
        rw [GW_put (by omega) (by omega) (SW_one hv.1 (show vv P n < 64 by omega)), GW_put hw.1 (by omega) (SW_one (show 0 ≤ 4 + 4 * nn P n by omega) (show 4 + 4 * nn P n < 64 by omega))]
        unfold EFn
        constructor
        · rintro ((k | ⟨e, _, k⟩) | ⟨e, _, k⟩)
          · exact Or.inl k
          · exact Or.inr (Or.inr ⟨b6, Or.inl ⟨e, k⟩⟩)
          · exact Or.inr (Or.inr ⟨b6, Or.inr ⟨e, k⟩⟩)
        · rintro (k | ⟨k, _⟩ | ⟨_, ⟨e, k⟩ | ⟨e, k⟩⟩)
          · exact Or.inl (Or.inl k)
          · omega
          · exact Or.inl (Or.inr ⟨e, ⟨by omega, by omega⟩, k⟩)
          · exact Or.inr ⟨e, ⟨by omega, by omega⟩, k⟩
      · refine next _ _ _ _ (fun a b => ?_) hf
        unfold EFn
        constructor
        · exact Or.inl
        · rintro (k | ⟨k, _⟩ | ⟨k, _⟩)
          · exact k
          · exact absurd k c
          · exact absurd k b6
/-- drawFlow -/
theorem c161 (hP : okP P) (hN : RN 5 σ P) (hq : ∀ σ', (∀ a b, GW σ' a b ↔ TC (EFl P) a b) → fr (fun c _ => c = 45) σ σ' → Q (.inl none) σ') : Call t 161 [vR 0] σ Q := by
  have ht := tot_rng hP.1
  rw [x161_0]
  refine c36 (fun σ1 g1 g2 => ?_)
  simp only [x161_7, aft_l, aft_r, optL_s, optL_n, xgo_n, xgo_s, List.cons_append, List.nil_append, List.append_nil, true_and, and_true, Nat.sub_zero, Nat.zero_le, true_implies, false_implies, implies_true, not_true_eq_false, not_false_eq_true, true_or, or_true]
  refine dfl1 hP hN (fun σ2 k1 k2 a1 a2 a3 a4 => ?_) (tot P).toNat 0 σ1 _ _ _ (by omega) (by omega) (fun a b => ⟨fun k => absurd k (g1 a b), fun ⟨m, m0, m1, _⟩ => by omega⟩) g2
  rw [x161_117]
  refine c39 (fun a b e => by
    obtain ⟨n, n0, n1, k⟩ := (k1 a b).mp e
    have := EFn_rng hP n0 n1 k; omega) (fun σ3 m1 m2 => ?_)
  simp only [x161_124, aft_l, aft_r, optL_s, optL_n, xgo_n, xgo_s, List.cons_append, List.nil_append, List.append_nil, true_and, and_true, Nat.sub_zero, Nat.zero_le, true_implies, false_implies, implies_true, not_true_eq_false, not_false_eq_true, true_or, or_true]
  exact hq σ3 (fun a b => (m1 a b).trans (TC_iff k1)) (fr_trans k2 m2)
end CG2

