/-! the law's unification -/
def UH (S : Int → Prop) (N : Int) (tm : Int → Tm) (Eq : Tm → Tm → Prop) (σ : St) : Prop := ∃ (ρ : Int → Int) (u : Nat), US N ρ (gI σ 67) tm Eq ∧ (FO N (gI σ 66) ρ u ∧ ((u + nrt (gI σ 66) N.toNat ≤ N) ∧ ((∀ s t, Eq s t → (s.1 ≥ 0 ∧ s.1 < N) ∧ (t.1 ≥ 0 ∧ t.1 < N)) ∧ ∀ v, S v → (0 ≤ v ∧ v < N) ∧ gI σ 67 (ρ v) ≠ -1)))
theorem UH_eqv {S : Int → Prop} {N : Int} {tm : Int → Tm} {E F : Tm → Tm → Prop} {σ : St} (h : UH S N tm E σ) (h1 : ∀ a b, E a b → cg F a b) (h2 : ∀ a b, F a b → cg E a b) (h3 : ∀ s t, F s t → (s.1 ≥ 0 ∧ s.1 < N) ∧ (t.1 ≥ 0 ∧ t.1 < N)) : UH S N tm F σ := by
  obtain ⟨ρ, u, k1, k2, k3, k4, k5⟩ := h
  exact ⟨ρ, u, US_eqv k1 h1 h2, k2, k3, h3, k5⟩
theorem UH_sub {S S' : Int → Prop} {N : Int} {tm : Int → Tm} {E : Tm → Tm → Prop} {σ : St} (h : UH S N tm E σ) (hs : ∀ v, S' v → S v) : UH S' N tm E σ := by
  obtain ⟨ρ, u, k1, k2, k3, k4, k5⟩ := h
  exact ⟨ρ, u, k1, k2, k3, k4, fun v hv => k5 v (hs v hv)⟩
theorem UH_fr {M : Nat → Int → Prop} {S : Int → Prop} {N : Int} {tm : Int → Tm} {E : Tm → Tm → Prop} {σ σ' : St} (h : UH S N tm E σ) (g : fr M σ σ') (h1 : ∀ j, ¬ M 66 j) (h2 : ∀ j, ¬ M 67 j) : UH S N tm E σ' := by
  have e1 : gI σ' 66 = gI σ 66 := funext fun j => fr_I g _ _ (h1 j)
  have e2 : gI σ' 67 = gI σ 67 := funext fun j => fr_I g _ _ (h2 j)
  unfold UH at *
  rw [e1, e2]; exact h
/-- a node more: r's pointee -/
theorem US_new {N : Int} {ρ π : Int → Int} {tm : Int → Tm} {Eq : Tm → Tm → Prop} (h : US N ρ π tm Eq) (hE : ∀ s t, Eq s t → (s.1 ≥ 0 ∧ s.1 < N) ∧ (t.1 ≥ 0 ∧ t.1 < N)) {r : Int} (r0 : 0 ≤ r) (r1 : r < N) (hr : ρ r = r) (hp : π r = -1) :
    US (N + 1) (fun k => if k = N then N else ρ k) (fun k => if k = r then N else if k = N then -1 else π k) (fun k => if k = N then tU (tm r) else tm k) Eq := by
  obtain ⟨u1, u2, ⟨u3, u4⟩, u5⟩ := h
  have eρ : ∀ k, k < N → (fun k => if k = N then N else ρ k) k = ρ k := fun k k1 => if_neg (by omega)
  have eρN : (fun k => if k = N then N else ρ k) N = N := if_pos rfl
  have eπr : (fun k => if k = r then N else if k = N then -1 else π k) r = N := if_pos rfl
  have eπ : ∀ k, k ≠ r → k ≠ N → (fun k => if k = r then N else if k = N then -1 else π k) k = π k := fun k a b => by
    show (if k = r then N else if k = N then -1 else π k) = π k
    rw [if_neg a, if_neg b]
  have eπN : (fun k => if k = r then N else if k = N then -1 else π k) N = -1 := by
    show (if N = r then N else if N = N then -1 else π N) = -1
    rw [if_neg (by omega), if_pos rfl]
  have et : ∀ k, k < N → (fun k => if k = N then tU (tm r) else tm k) k = tm k := fun k k1 => if_neg (by omega)
  have etN : (fun k => if k = N then tU (tm r) else tm k) N = tU (tm r) := if_pos rfl
  generalize (fun k => if k = N then N else ρ k) = ρ' at *
  generalize (fun k => if k = r then N else if k = N then -1 else π k) = π' at *
  generalize (fun k => if k = N then tU (tm r) else tm k) = tm' at *
  have hh : Hom N ρ π ρ' π' := ⟨fun k k0 k1 => by
      have := (u1 k k0 k1).1
      rw [eρ _ this.1.2, eρ k k1, this.2], fun k k0 k1 e n => by
      have kr : k ≠ r := fun q => by rw [q] at n; exact n hp
      rw [eρ k k1, e, eπ k kr (by omega)]; exact ⟨n, rfl⟩⟩
  refine ⟨fun k k0 k1 => ?_, fun k k0 k1 => ?_, ⟨fun a b g => hom_eq u1 hh (hE a b g).1 (hE a b g).2 (u3 a b g), fun k k0 k1 => ?_⟩, fun k k0 k1 => ?_⟩
  · by_cases q : k = N
    · rw [q, eρN, eρN]; exact ⟨⟨⟨by omega, by omega⟩, rfl⟩, fun _ => Or.inl eπN⟩
    · have := u1 k k0 (by omega)
      rw [eρ k (by omega), eρ _ this.1.1.2]
      refine ⟨⟨⟨this.1.1.1, by omega⟩, this.1.2⟩, fun e => ?_⟩
      by_cases q2 : k = r
      · rw [q2, eπr]; exact Or.inr ⟨by omega, by omega⟩
      · rw [eπ k q2 q]
        rcases this.2 e with z | z
        · exact Or.inl z
        · exact Or.inr ⟨z.1, by omega⟩
  · by_cases q : k = N
    · rw [q, eρN]; exact ⟨cg_refl _, fun _ n => absurd eπN n⟩
    · have h1 := (u1 k k0 (by omega)).1
      rw [eρ k (by omega), et k (by omega), et _ h1.1.2]
      refine ⟨(u2 k k0 (by omega)).1, fun e n => ?_⟩
      by_cases q2 : k = r
      · rw [q2, eπr, etN]; exact cg_refl _
      · rw [eπ k q2 q] at n ⊢
        have hz := ((u1 k k0 (by omega)).2 e).resolve_left n
        rw [et _ hz.2]; exact (u2 k k0 (by omega)).2 e n
  · by_cases q : k = N
    · rw [q, etN, eρN, dn_U]
      have e1 := (hom_dn u1 hh (u5 r r0 r1).1 (u5 r r0 r1).2 (tm r).2).2
      have e2 : den ρ π (tm r).1 (tm r).2 = (ρ r, 0) := u4 r r0 r1
      rw [e2] at e1
      have e3 : dn ρ' π' (tm r) = (ρ' (ρ r), 0) := e1
      rw [e3, hr, eρ r r1, hr]
      unfold dU
      rw [if_pos rfl, eπr, if_neg (show ¬ N = -1 by omega), eρN]
    · rw [et k (by omega)]
      have e1 := (hom_dn u1 hh (u5 k k0 (by omega)).1 (u5 k k0 (by omega)).2 (tm k).2).2
      have e2 : den ρ π (tm k).1 (tm k).2 = (ρ k, 0) := u4 k k0 (by omega)
      rw [e2] at e1
      have e3 : dn ρ' π' (tm k) = (ρ' (ρ k), 0) := e1
      rw [e3, hh.1 k k0 (by omega)]
  · by_cases q : k = N
    · rw [q, etN]
      have := u5 r r0 r1
      exact ⟨this.1, by show (tm r).1 < N + 1; omega⟩
    · rw [et k (by omega)]
      have := u5 k k0 (by omega)
      exact ⟨this.1, by omega⟩
theorem itp_ne {par : Int → Int} {N : Int} (hp : ∀ k, 0 ≤ k → k < N → 0 ≤ par k ∧ par k < N) {v : Int} : ∀ (j : Nat) (k : Int), 0 ≤ k → k < N → itp (fun k => if k = N then v else par k) k j = itp par k j
  | 0, _, _, _ => rfl
  | j + 1, k, k0, k1 => by
    show itp _ (if k = N then v else par k) j = itp par (par k) j
    rw [if_neg (by omega)]
    exact itp_ne hp j (par k) (hp k k0 k1).1 (hp k k0 k1).2
theorem FO_new {N : Int} (hN : 0 ≤ N) {par ρ : Int → Int} {u : Nat} (h : FO N par ρ u) : FO (N + 1) (fun k => if k = N then N else par k) (fun k => if k = N then N else ρ k) u := by
  intro k k0 k1
  by_cases q : k = N
  · subst q
    refine ⟨?_, ?_, ?_, 0, Nat.zero_le _, ?_⟩
    · show 0 ≤ (if k = k then k else par k) ∧ (if k = k then k else par k) < k + 1
      rw [if_pos rfl]; omega
    · show 0 ≤ (if k = k then k else ρ k) ∧ (if k = k then k else ρ k) < k + 1
      rw [if_pos rfl]; omega
    · show (if (if k = k then k else ρ k) = k then k else par (if k = k then k else ρ k)) = (if k = k then k else ρ k)
      rw [if_pos rfl, if_pos rfl]
    · show k = (if k = k then k else ρ k)
      rw [if_pos rfl]
  · obtain ⟨h1, h2, h3, j, hj, h4⟩ := h k k0 (by omega)
    have e1 : (fun k => if k = N then N else ρ k) k = ρ k := if_neg q
    have e2 : (fun k => if k = N then N else par k) k = par k := if_neg q
    rw [e1, e2]
    refine ⟨by omega, by omega, ?_, j, hj, ?_⟩
    · show (if ρ k = N then N else par (ρ k)) = ρ k
      rw [if_neg (by omega)]; exact h3
    · rw [itp_ne (fun k k0 k1 => (h k k0 k1).1) j k k0 (by omega)]; exact h4
theorem nrt_new {par : Int → Int} {N : Nat} : nrt (fun k => if k = (N : Int) then (N : Int) else par k) (N + 1) = nrt par N + 1 := by
  unfold nrt
  rw [cn_succ]
  have e : cn (fun k => (fun k => if k = (N : Int) then (N : Int) else par k) k == k) N = cn (fun k => par k == k) N := cn_congr (fun m m0 m1 => by
    show ((if m = (N : Int) then (N : Int) else par m) == m) = (par m == m)
    rw [if_neg (by omega)])
  rw [e]
  simp
def uM : Nat → Int → Prop := fun c j => (66 ≤ c ∧ c ≤ 69) ∨ (c = 53 ∧ (j = 28 ∨ j = 29))
section LU
variable {t : Nat} {σ : St} {Q : Res → St → Prop} {P : Pg} {N : Int} {tm : Int → Tm} {Eq : Tm → Tm → Prop} {S : Int → Prop}
theorem rt2 (hN : N ≤ 120) {r : Int} (hp : ∀ k, 0 ≤ k → k < N → 0 ≤ gI σ 66 k ∧ gI σ 66 k < N) (hr : gI σ 66 r = r) (hq : Q (.inl (some (vI r))) σ) : ∀ (j : Nat) (f : Int) (a1 : Option AV), 0 ≤ f → f < N → itp (gI σ 66) f j = r → wp t 242 2 [some (vR 53), a1, some (vI f)] [] σ Q
  | 0, f, a1, f0, f1, h => by
    have e : f = r := h
    have hg := hp f f0 f1
    rw [x242_2]
    refine ⟨⟨f0, by omega⟩, ⟨⟨by omega, by omega⟩, ⟨by omega, by omega⟩⟩, fun _ => ?_, fun g => ?_⟩
    · rw [x242_22, e]; exact hq
    · rw [e] at g; exact absurd hr g
  | j + 1, f, a1, f0, f1, h => by
    have h : itp (gI σ 66) (gI σ 66 f) j = r := h
    have hg := hp f f0 f1
    rw [x242_2]
    refine ⟨⟨f0, by omega⟩, ⟨⟨by omega, by omega⟩, ⟨by omega, by omega⟩⟩, fun g => ?_, fun g => ?_⟩
    · rw [g, itp_root g] at h
      rw [x242_22, h]; exact hq
    · rw [x242_12]
      exact ⟨⟨f0, by omega⟩, rt2 hN hp hr hq j (gI σ 66 f) _ hg.1 hg.2 h⟩
/-- rootOf -/
theorem e242 (hN : N ≤ 120) {ρ : Int → Int} {u : Nat} {k : Int} (hF : FO N (gI σ 66) ρ u) (k0 : 0 ≤ k) (k1 : k < N) : Call t 242 [vR 53, vI k] σ Q ↔ Q (.inl (some (vI (ρ k)))) σ := Call_iff (fun Q hq => by
  obtain ⟨h1, h2, h3, j, hj, h4⟩ := hF k k0 k1
  rw [x242_0]
  exact rt2 hN (fun k k0 k1 => (hF k k0 k1).1) h3 hq j k _ k0 k1 h4)
/-- pointed, of a term that has one -/
theorem c244s (hN : N ≤ 120) (h : UH S N tm Eq σ) {k : Int} (hk : S k) (hq : ∀ q, 0 ≤ q → q < N → cg Eq (tm q) (tU (tm k)) → Q (.inl (some (vI q))) σ) : Call t 244 [vR 53, vI k] σ Q := by
  obtain ⟨ρ, u, h1, h2, h3, h4, h5⟩ := h
  obtain ⟨⟨k0, k1⟩, hp⟩ := h5 k hk
  have hr := (h1.1 k k0 k1).1
  have hpr := ((h1.1 (ρ k) hr.1.1 hr.1.2).2 hr.2).resolve_left hp
  simp only [x244_0, e242 hN h2 k0 k1, x244_5, aft_l, aft_r, optL_s, optL_n, xgo_n, xgo_s, List.cons_append, List.nil_append, List.append_nil, true_and, and_true, Nat.sub_zero, Nat.zero_le, true_implies, false_implies, implies_true, not_true_eq_false, not_false_eq_true, true_or, or_true]
  refine ⟨⟨hr.1.1, by omega⟩, ⟨by omega, by omega⟩, fun a => by omega, fun a => ?_⟩
  rw [x244_25]
  refine ⟨⟨hr.1.1, by omega⟩, hq _ hpr.1 hpr.2 ?_⟩
  have g1 := (h1.2.1 k k0 k1).1
  have g2 := (h1.2.1 (ρ k) hr.1.1 hr.1.2).2 hr.2 hp
  exact cg_symm (cg_trans (cg_U g1) g2)
/-- pointed -/
theorem c244 (hN : N ≤ 119) (h : UH S N tm Eq σ) (h28 : gI σ 53 28 = N) {k : Int} (k0 : 0 ≤ k) (k1 : k < N)
    (hq : ∀ σ' q N' tm', UH (fun v => S v ∨ v = k) N' tm' Eq σ' → gI σ' 53 28 = N' → (N ≤ N' ∧ N' ≤ N + 1) → (∀ j, 0 ≤ j → j < N → tm' j = tm j) → (0 ≤ q ∧ q < N') → cg Eq (tm' q) (tU (tm' k)) → fr uM σ σ' → Q (.inl (some (vI q))) σ') : Call t 244 [vR 53, vI k] σ Q := by
  obtain ⟨ρ, u, h1, h2, h3, h4, h5⟩ := h
  have hr := (h1.1 k k0 k1).1
  have hpr := (h1.1 (ρ k) hr.1.1 hr.1.2).2 hr.2
  have g1 := (h1.2.1 k k0 k1).1
  simp only [x244_0, e242 (show N ≤ 120 by omega) h2 k0 k1, x244_5, aft_l, aft_r, optL_s, optL_n, xgo_n, xgo_s, List.cons_append, List.nil_append, List.append_nil, true_and, and_true, Nat.sub_zero, Nat.zero_le, true_implies, false_implies, implies_true, not_true_eq_false, not_false_eq_true, true_or, or_true]
  refine ⟨⟨hr.1.1, by omega⟩, by rcases hpr with e | e <;> exact ⟨by omega, by omega⟩, fun a => ?_, fun a => ?_⟩
  · have hp : gI σ 67 (ρ k) = -1 := by rcases hpr with e | e <;> omega
    have e1 : gI (sI σ 66 N N) 53 28 = N := by rw [gI_rne (by decide)]; exact h28
    have e2 : gI (sI (sI σ 66 N N) 67 N (-1)) 53 28 = N := by rw [gI_rne (by decide)]; exact e1
    have e3 : gI (sI (sI (sI σ 66 N N) 67 N (-1)) 53 28 (N + 1)) 53 28 - 1 = N := by rw [gI_sI, if_pos ⟨rfl, rfl⟩]; omega
    have e4 : gI (sI (sI (sI (sI σ 66 N N) 67 N (-1)) 53 28 (N + 1)) 67 (ρ k) N) 67 (ρ k) = N := by rw [gI_sI, if_pos ⟨rfl, rfl⟩]
    simp only [x244_15, x243_0, h28, e1, e2, e3, x244_24, x244_25, e4, aft_l, aft_r, optL_s, optL_n, xgo_n, xgo_s, List.cons_append, List.nil_append, List.append_nil, true_and, and_true, Nat.sub_zero, Nat.zero_le, true_implies, false_implies, implies_true, not_true_eq_false, not_false_eq_true, true_or, or_true]
    refine ⟨⟨by omega, by omega⟩, ⟨by omega, by omega⟩, ⟨hr.1.1, by omega⟩, ⟨hr.1.1, by omega⟩, ?_⟩
    have e66 : gI (sI (sI (sI (sI σ 66 N N) 67 N (-1)) 53 28 (N + 1)) 67 (ρ k) N) 66 = fun j => if j = N then N else gI σ 66 j := by
      rw [gI_rne (by decide), gI_rne (by decide), gI_rne (by decide), gI_row]
    have e67 : gI (sI (sI (sI (sI σ 66 N N) 67 N (-1)) 53 28 (N + 1)) 67 (ρ k) N) 67 = fun j => if j = ρ k then N else if j = N then -1 else gI σ 67 j := by
      rw [gI_row, gI_rne (by decide), gI_row, gI_rne (by decide)]
    have hne : ∀ j, 0 ≤ j → j < N → (fun k_1 => if k_1 = N then tU (tm (ρ k)) else tm k_1) j = tm j := fun j j0 j1 => if_neg (by omega)
    have hns := US_new h1 h4 hr.1.1 hr.1.2 hr.2 hp
    refine hq _ N (N + 1) (fun j => if j = N then tU (tm (ρ k)) else tm j) ⟨fun j => if j = N then N else ρ j, u, by rw [e67]; exact hns, by rw [e66]; exact FO_new (by omega) h2, ?_, fun s t e => ?_, fun v hv => ?_⟩ ?_ ⟨by omega, by omega⟩ hne ⟨by omega, by omega⟩ ?_ ?_
    · rw [e66, show (N + 1).toNat = N.toNat + 1 by omega]
      have := nrt_new (par := gI σ 66) (N := N.toNat)
      rw [show ((N.toNat : Nat) : Int) = N by omega] at this
      rw [this]; omega
    · have := h4 s t e; omega
    · rw [e67]
      have hvN : 0 ≤ v ∧ v < N := by
        rcases hv with hv | hv
        · exact (h5 v hv).1
        · rw [hv]; exact ⟨k0, k1⟩
      have hvr := (h1.1 v hvN.1 hvN.2).1
      have ev : (fun j => if j = N then N else ρ j) v = ρ v := if_neg (by omega)
      rw [ev]
      refine ⟨⟨hvN.1, by omega⟩, ?_⟩
      show (if ρ v = ρ k then N else if ρ v = N then -1 else gI σ 67 (ρ v)) ≠ -1
      by_cases q : ρ v = ρ k
      · rw [if_pos q]; omega
      · rw [if_neg q, if_neg (by omega)]
        rcases hv with hv | hv
        · exact (h5 v hv).2
        · rw [hv] at q; exact absurd rfl q
    · rw [gI_rne (by decide), gI_sI, if_pos ⟨rfl, rfl⟩]
    · show cg Eq (if N = N then tU (tm (ρ k)) else tm N) (tU (if k = N then tU (tm (ρ k)) else tm k))
      rw [if_pos rfl, if_neg (by omega)]
      exact cg_U (cg_symm g1)
    · exact fr_sI (fr_sI (fr_sI (fr_sI fr_refl (by unfold uM; omega)) (by unfold uM; omega)) (by unfold uM; omega)) (by unfold uM; omega)
  · have hp : gI σ 67 (ρ k) ≠ -1 := by omega
    have hpr := hpr.resolve_left hp
    rw [x244_25]
    refine ⟨⟨hr.1.1, by omega⟩, hq σ _ N tm ⟨ρ, u, h1, h2, h3, h4, fun v hv => ?_⟩ h28 ⟨by omega, by omega⟩ (fun j _ _ => rfl) hpr ?_ fr_refl⟩
    · rcases hv with hv | hv
      · exact h5 v hv
      · rw [hv]; exact ⟨⟨k0, k1⟩, hp⟩
    · exact cg_symm (cg_trans (cg_U g1) ((h1.2.1 (ρ k) hr.1.1 hr.1.2).2 hr.2 hp))
theorem jl2 (hN : N ≤ 120) {ρ0 π0 : Int → Int} {a b : Int} (h0 : US N ρ0 π0 tm Eq) (hE : ∀ s t, Eq s t → (s.1 ≥ 0 ∧ s.1 < N) ∧ (t.1 ≥ 0 ∧ t.1 < N)) (hS : ∀ v, S v → (0 ≤ v ∧ v < N) ∧ π0 (ρ0 v) ≠ -1) (ha : 0 ≤ a ∧ a < N) (hb : 0 ≤ b ∧ b < N)
    (hq : ∀ σ', UH S N tm (fun s t => Eq s t ∨ (s = tm a ∧ t = tm b)) σ' → fr uM σ σ' → gI σ' 53 28 = gI σ 53 28 → Q (.inl none) σ') :
    ∀ (d : Nat) (σ1 : St) (ρ : Int → Int) (u : Nat) (p q : Int) (a1 a2 a3 a4 : Option AV), nrt (gI σ1 66) N.toNat ≤ d → gI σ1 53 29 = 1 → gI σ1 68 0 = p → gI σ1 69 0 = q → JI N ρ0 π0 a b tm (fun s t => Eq s t ∨ (s = tm a ∧ t = tm b)) ρ (gI σ1 67) p q → FO N (gI σ1 66) ρ u → u + nrt (gI σ1 66) N.toNat ≤ N → fr uM σ σ1 → gI σ1 53 28 = gI σ 53 28 →
    wp t 245 19 [some (vR 53), a1, a2, a3, a4] [] σ1 Q
  | 0, σ1, ρ, u, p, q, a1, a2, a3, a4, hd, h29, h68, h69, hJ, hF, hu, hf, h28 => by
    have hp := hJ.2.2.1.1
    obtain ⟨-, h2, h3, -⟩ := hF p hp.1 hp.2
    have := nrt_pos (N := N.toNat) (by omega) h3
    omega
  | d + 1, σ1, ρ, u, p, q, a1, a2, a3, a4, hd, h29, h68, h69, hJ, hF, hu, hf, h28 => by
    have hE' : ∀ s t, (Eq s t ∨ (s = tm a ∧ t = tm b)) → (s.1 ≥ 0 ∧ s.1 < N) ∧ (t.1 ≥ 0 ∧ t.1 < N) := fun s t h => by
      rcases h with h | ⟨rfl, rfl⟩
      · exact hE s t h
      · exact ⟨h0.2.2.2 a ha.1 ha.2, h0.2.2.2 b hb.1 hb.2⟩
    have hS' : ∀ {ρ π : Int → Int} {p q : Int}, JI N ρ0 π0 a b tm (fun s t => Eq s t ∨ (s = tm a ∧ t = tm b)) ρ π p q → ∀ v, S v → (0 ≤ v ∧ v < N) ∧ π (ρ v) ≠ -1 := fun {ρ π p q} hJ v hv => by
      obtain ⟨hvN, hvp⟩ := hS v hv
      have hr := (h0.1 v hvN.1 hvN.2).1
      have := (hJ.2.2.2.2.2.1 (ρ0 v) hr.1.1 hr.1.2 hr.2 hvp).1
      rw [hJ.2.2.2.2.1 v hvN.1 hvN.2] at this
      exact ⟨hvN, this⟩
    have hp := hJ.2.2.1.1
    have hq' := hJ.2.2.1.2
    obtain ⟨-, p2, p3, -⟩ := hF p hp.1 hp.2
    obtain ⟨-, q2, q3, -⟩ := hF q hq'.1 hq'.2
    have px := (hJ.1 (ρ p) p2.1 p2.2).2 (hJ.1 p hp.1 hp.2).1.2
    have py := (hJ.1 (ρ q) q2.1 q2.2).2 (hJ.1 q hq'.1 hq'.2).1.2
    have ix : inR (gI σ1 67 (ρ p)) := by rcases px with e | e <;> exact ⟨by omega, by omega⟩
    have iy : inR (gI σ1 67 (ρ q)) := by rcases py with e | e <;> exact ⟨by omega, by omega⟩
    have g29 : gI (sI σ1 53 29 (1 - 1)) 53 29 = 0 := by rw [gI_sI, if_pos ⟨rfl, rfl⟩]; rfl
    have g68 : gI (sI σ1 53 29 (1 - 1)) 68 0 = p := by rw [gI_rne (by decide)]; exact h68
    have g69 : gI (sI σ1 53 29 (1 - 1)) 69 0 = q := by rw [gI_rne (by decide)]; exact h69
    have e66 : gI (sI σ1 53 29 (1 - 1)) 66 = gI σ1 66 := gI_rne (by decide)
    have e67 : gI (sI σ1 53 29 (1 - 1)) 67 = gI σ1 67 := gI_rne (by decide)
    have hf2 : fr uM σ (sI σ1 53 29 (1 - 1)) := fr_sI hf (by unfold uM; omega)
    have g28 : gI (sI σ1 53 29 (1 - 1)) 53 28 = gI σ 53 28 := by rw [gI_sI, if_neg (by omega)]; exact h28
    have hF1 : FO N (gI (sI σ1 53 29 (1 - 1)) 66) ρ u := by rw [e66]; exact hF
    have fin : ∀ σ' : St, gI σ' 53 29 = 0 → UH S N tm (fun s t => Eq s t ∨ (s = tm a ∧ t = tm b)) σ' → fr uM σ σ' → gI σ' 53 28 = gI σ 53 28 → ∀ a1 a2 a3 a4 : Option AV, wp t 245 19 [some (vR 53), a1, a2, a3, a4] [] σ' Q := fun σ' z1 z2 z3 z4 a1 a2 a3 a4 => by
      rw [x245_19, z1]
      refine ⟨by decide, fun h => absurd h (by decide), fun _ => ?_⟩
      rw [x245_161]; exact hq σ' z2 z3 z4
    rw [x245_19, h29]
    refine ⟨by decide, fun _ => ?_, fun h => absurd (by decide) h⟩
    rw [x245_26, h29, g29, g68]
    refine ⟨⟨by omega, by omega⟩, ?_⟩
    generalize hs2 : sI σ1 53 29 (1 - 1) = s2 at *
    rw [e242 hN hF1 hp.1 hp.2]
    simp only [x245_49, g29, g69, aft_l, aft_r, optL_s, optL_n, xgo_n, xgo_s, List.cons_append, List.nil_append, List.append_nil, true_and, and_true, Nat.sub_zero, Nat.zero_le, true_implies, false_implies, implies_true, not_true_eq_false, not_false_eq_true, true_or, or_true]
    refine ⟨⟨by omega, by omega⟩, ?_⟩
    rw [e242 hN hF1 hq'.1 hq'.2]
    simp only [x245_63, aft_l, aft_r, optL_s, optL_n, xgo_n, xgo_s, List.cons_append, List.nil_append, List.append_nil, true_and, and_true, Nat.sub_zero, Nat.zero_le, true_implies, false_implies, implies_true, not_true_eq_false, not_false_eq_true, true_or, or_true]
    refine ⟨⟨⟨by omega, by omega⟩, ⟨by omega, by omega⟩⟩, fun e => ?_, fun ne => ?_⟩
    · rw [x245_71]
      exact fin s2 g29 ⟨ρ, u, by rw [e67]; exact JI_end h0 hE ha hb hJ e, hF1, by rw [e66]; exact hu, hE', by rw [e67]; exact hS' hJ⟩ hf2 g28 _ _ _ _
    · have st := JI_step (x := ρ p) (y := ρ q) rfl rfl ne hJ
      have hF' := FO_link hF ⟨p2, p3⟩ ⟨q2, q3⟩ ne
      have hn := nrt_link (par := gI σ1 66) (N := N.toNat) (x := ρ p) (show 0 ≤ ρ q ∧ ρ q < (N.toNat : Int) by omega) q3 ne
      have hpos := nrt_pos (par := gI σ1 66) (N := N.toNat) (show 0 ≤ ρ p ∧ ρ p < (N.toNat : Int) by omega) p3
      have k66 : gI (sI s2 66 (ρ q) (ρ p)) 66 = par' (gI σ1 66) (ρ p) (ρ q) := by rw [gI_row, e66]; rfl
      have k67 : gI (sI s2 66 (ρ q) (ρ p)) 67 = gI σ1 67 := by rw [gI_rne (by decide), e67]
      have k29 : gI (sI s2 66 (ρ q) (ρ p)) 53 29 = 0 := by rw [gI_rne (by decide)]; exact g29
      have k28 : gI (sI s2 66 (ρ q) (ρ p)) 53 28 = gI σ 53 28 := by rw [gI_rne (by decide)]; exact g28
      have hf3 : fr uM σ (sI s2 66 (ρ q) (ρ p)) := fr_sI hf2 (by unfold uM; omega)
      rw [x245_74, k67]
      refine ⟨⟨q2.1, by omega⟩, ⟨p2.1, by omega⟩, ix, fun e1 => ?_, fun e1 => ?_⟩
      · have e1 : gI σ1 67 (ρ p) = -1 := by rcases px with e | e <;> omega
        rw [x245_91, x245_158, k67]
        refine ⟨⟨q2.1, by omega⟩, ⟨p2.1, by omega⟩, ?_⟩
        have m67 : gI (sI (sI s2 66 (ρ q) (ρ p)) 67 (ρ p) (gI σ1 67 (ρ q))) 67 = jπ (gI σ1 67) (ρ p) (ρ q) := by rw [gI_row, k67, jπ_neg e1]
        have m66 : gI (sI (sI s2 66 (ρ q) (ρ p)) 67 (ρ p) (gI σ1 67 (ρ q))) 66 = par' (gI σ1 66) (ρ p) (ρ q) := by rw [gI_rne (by decide), k66]
        have hJ' := st.1 (Or.inl e1) p hp.1 hp.2
        exact fin _ (by rw [gI_rne (by decide)]; exact k29) ⟨jρ ρ (ρ p) (ρ q), u + 1, by rw [m67]; exact JI_end h0 hE ha hb hJ' rfl, by rw [m66]; exact hF', by rw [m66]; omega, hE', by rw [m67]; exact hS' hJ'⟩ (fr_sI hf3 (by unfold uM; omega)) (by rw [gI_rne (by decide)]; exact k28) _ _ _ _
      · have e1 : gI σ1 67 (ρ p) ≠ -1 := by omega
        have ep : jπ (gI σ1 67) (ρ p) (ρ q) = gI σ1 67 := jπ_pos e1
        rw [ep] at st
        rw [x245_107, k67]
        refine ⟨⟨q2.1, by omega⟩, iy, fun e2 => ?_, fun e2 => ?_⟩
        · have e2 : gI σ1 67 (ρ q) = -1 := by rcases py with e | e <;> omega
          have hJ' := st.1 (Or.inr e2) p hp.1 hp.2
          rw [x245_158]
          exact fin _ k29 ⟨jρ ρ (ρ p) (ρ q), u + 1, by rw [k67]; exact JI_end h0 hE ha hb hJ' rfl, by rw [k66]; exact hF', by rw [k66]; omega, hE', by rw [k67]; exact hS' hJ'⟩ hf3 k28 _ _ _ _
        · have e2 : gI σ1 67 (ρ q) ≠ -1 := by omega
          have hJ' := st.2 e1 e2
          rw [x245_117, k29, k67]
          have n29 : gI (sI (sI s2 66 (ρ q) (ρ p)) 68 0 (gI σ1 67 (ρ p))) 53 29 = 0 := by rw [gI_rne (by decide)]; exact k29
          have n67 : gI (sI (sI s2 66 (ρ q) (ρ p)) 68 0 (gI σ1 67 (ρ p))) 67 = gI σ1 67 := by rw [gI_rne (by decide)]; exact k67
          rw [n29, n67]
          have n29' : gI (sI (sI (sI s2 66 (ρ q) (ρ p)) 68 0 (gI σ1 67 (ρ p))) 69 0 (gI σ1 67 (ρ q))) 53 29 = 0 := by rw [gI_rne (by decide)]; exact n29
          rw [n29']
          refine ⟨⟨p2.1, by omega⟩, ⟨by omega, by omega⟩, ⟨q2.1, by omega⟩, ⟨by omega, by omega⟩, ?_⟩
          rw [x245_158]
          have w66 : gI (sI (sI (sI (sI s2 66 (ρ q) (ρ p)) 68 0 (gI σ1 67 (ρ p))) 69 0 (gI σ1 67 (ρ q))) 53 29 (0 + 1)) 66 = par' (gI σ1 66) (ρ p) (ρ q) := by rw [gI_rne (by decide), gI_rne (by decide), gI_rne (by decide), k66]
          have w67 : gI (sI (sI (sI (sI s2 66 (ρ q) (ρ p)) 68 0 (gI σ1 67 (ρ p))) 69 0 (gI σ1 67 (ρ q))) 53 29 (0 + 1)) 67 = gI σ1 67 := by rw [gI_rne (by decide), gI_rne (by decide), gI_rne (by decide), k67]
          refine jl2 hN h0 hE hS ha hb hq d _ (jρ ρ (ρ p) (ρ q)) (u + 1) (gI σ1 67 (ρ p)) (gI σ1 67 (ρ q)) _ _ _ _ (by rw [w66]; omega) (by rw [gI_sI, if_pos ⟨rfl, rfl⟩]; rfl) ?_ ?_ (by rw [w67]; exact hJ') (by rw [w66]; exact hF') (by rw [w66]; omega) (fr_sI (fr_sI (fr_sI hf3 (by unfold uM; omega)) (by unfold uM; omega)) (by unfold uM; omega)) ?_
          · rw [gI_rne (by decide), gI_rne (by decide), gI_sI, if_pos ⟨rfl, rfl⟩]
          · rw [gI_rne (by decide), gI_sI, if_pos ⟨rfl, rfl⟩]
          · rw [gI_sI, if_neg (by omega), gI_rne (by decide), gI_rne (by decide)]; exact k28
/-- unifies -/
theorem c245 (hN : N ≤ 120) (h : UH S N tm Eq σ) {a b : Int} (ha : 0 ≤ a ∧ a < N) (hb : 0 ≤ b ∧ b < N)
    (hq : ∀ σ', UH S N tm (fun s t => Eq s t ∨ (s = tm a ∧ t = tm b)) σ' → fr uM σ σ' → gI σ' 53 28 = gI σ 53 28 → Q (.inl none) σ') : Call t 245 [vR 53, vI a, vI b] σ Q := by
  obtain ⟨ρ, u, h1, h2, h3, h4, h5⟩ := h
  have e66 : gI (sI (sI (sI σ 53 29 1) 68 0 a) 69 0 b) 66 = gI σ 66 := by rw [gI_rne (by decide), gI_rne (by decide), gI_rne (by decide)]
  have e67 : gI (sI (sI (sI σ 53 29 1) 68 0 a) 69 0 b) 67 = gI σ 67 := by rw [gI_rne (by decide), gI_rne (by decide), gI_rne (by decide)]
  have hr := cn_rng (fun k => gI σ 66 k == k) N.toNat
  have hr1 : nrt (gI σ 66) N.toNat ≤ N.toNat := hr.2
  rw [x245_0]
  refine jl2 (σ := σ) hN h1 h4 h5 ha hb hq N.toNat _ ρ u a b _ _ _ _ (by rw [e66]; exact hr1) ?_ ?_ ?_ (by rw [e67]; exact JI_0 h1 ha hb) (by rw [e66]; exact h2) (by rw [e66]; exact h3) (fr_sI (fr_sI (fr_sI fr_refl (by unfold uM; omega)) (by unfold uM; omega)) (by unfold uM; omega)) ?_
  · rw [gI_rne (by decide), gI_rne (by decide), gI_sI, if_pos ⟨rfl, rfl⟩]
  · rw [gI_rne (by decide), gI_sI, if_pos ⟨rfl, rfl⟩]
  · rw [gI_sI, if_pos ⟨rfl, rfl⟩]
  · rw [gI_rne (by decide), gI_rne (by decide), gI_sI, if_neg (by omega)]
end LU
