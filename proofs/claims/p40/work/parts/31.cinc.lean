/-! the class's inclusion: adding facts -/
def Gc (g : Nat) (σ : St) : Fa := fun c u => (0 ≤ c ∧ c < 152) ∧ ((0 ≤ u ∧ u < 192) ∧ bt (gL σ g) c u = true)
def Hc (h : Nat) (σ : St) (a t : Int) : Prop := (gL σ h a).getLsbD t.toNat = true
def CD (cd : Nat) (σ : St) (xs : List Int) : Prop := ∀ c, vld xs c → gI σ cd c = cdf xs c
def HW (h ro oo : Nat) (xs : List Int) (r s : Int) (Δ : Fa) (σ σ' : St) : Prop := ∀ a t, 0 ≤ a → a < 44 → 0 ≤ t → t < 64 →
  (Hc h σ a t → Hc h σ' a t ∧ (t < 44 → gI σ' ro (a * 44 + t) = gI σ ro (a * 44 + t) ∧ gI σ' oo (a * 44 + t) = gI σ oo (a * 44 + t))) ∧
  (¬ Hc h σ a t → (im xs Δ a t → Hc h σ' a t ∧ (gI σ' ro (a * 44 + t) = r ∧ gI σ' oo (a * 44 + t) = s)) ∧ (¬ im xs Δ a t → ¬ Hc h σ' a t))
theorem HW_refl {h ro oo : Nat} {xs : List Int} {r s : Int} {Δ : Fa} {σ : St} (hn : ∀ a t, im xs Δ a t → Hc h σ a t) : HW h ro oo xs r s Δ σ σ := fun a t _ _ _ _ =>
  ⟨fun g => ⟨g, fun _ => ⟨rfl, rfl⟩⟩, fun g => ⟨fun k => absurd (hn a t k) g, fun _ => g⟩⟩
theorem HW_trans {h ro oo : Nat} {xs : List Int} {r s : Int} {Δ1 Δ2 Δ : Fa} {σ σ1 σ2 : St} (h1 : HW h ro oo xs r s Δ1 σ σ1) (h2 : HW h ro oo xs r s Δ2 σ1 σ2) (hΔ : ∀ a t, im xs Δ a t ↔ (im xs Δ1 a t ∨ im xs Δ2 a t)) (h44 : ∀ a t, im xs Δ a t → t < 44) : HW h ro oo xs r s Δ σ σ2 := by
  intro a t a0 a1 t0 t1
  obtain ⟨p1, p2⟩ := h1 a t a0 a1 t0 t1
  obtain ⟨q1, q2⟩ := h2 a t a0 a1 t0 t1
  refine ⟨fun g => ?_, fun g => ⟨fun k => ?_, fun k => ?_⟩⟩
  · obtain ⟨p3, p4⟩ := p1 g
    obtain ⟨q3, q4⟩ := q1 p3
    exact ⟨q3, fun ht => ⟨(q4 ht).1.trans (p4 ht).1, (q4 ht).2.trans (p4 ht).2⟩⟩
  · have ht := h44 a t k
    by_cases c : im xs Δ1 a t
    · obtain ⟨p3, p4⟩ := (p2 g).1 c
      obtain ⟨q3, q4⟩ := q1 p3
      exact ⟨q3, (q4 ht).1.trans p4.1, (q4 ht).2.trans p4.2⟩
    · have p3 := (p2 g).2 c
      rcases (hΔ a t).mp k with c2 | c2
      · exact absurd c2 c
      · exact (q2 p3).1 c2
  · have k1 : ¬ im xs Δ1 a t := fun c => k ((hΔ a t).mpr (Or.inl c))
    have k2 : ¬ im xs Δ2 a t := fun c => k ((hΔ a t).mpr (Or.inr c))
    exact (q2 ((p2 g).2 k1)).2 k2
theorem HW_fr {h ro oo : Nat} {xs : List Int} {r s : Int} {Δ : Fa} {M : Nat → Int → Prop} {σ σ1 σ2 : St} (h1 : HW h ro oo xs r s Δ σ σ1) (hf : fr M σ1 σ2) (m1 : ∀ j, ¬ M h j) (m2 : ∀ j, ¬ M ro j) (m3 : ∀ j, ¬ M oo j) : HW h ro oo xs r s Δ σ σ2 := by
  intro a t a0 a1 t0 t1
  have e1 : ∀ a t, Hc h σ2 a t ↔ Hc h σ1 a t := fun a t => by unfold Hc; rw [fr_L hf h a (m1 a)]
  have := h1 a t a0 a1 t0 t1
  rw [e1, fr_I hf ro _ (m2 _), fr_I hf oo _ (m3 _)]; exact this
theorem HW_fr0 {h ro oo : Nat} {xs : List Int} {r s : Int} {Δ : Fa} {M : Nat → Int → Prop} {σ σ1 σ2 : St} (h1 : HW h ro oo xs r s Δ σ1 σ2) (hf : fr M σ σ1) (m1 : ∀ j, ¬ M h j) (m2 : ∀ j, ¬ M ro j) (m3 : ∀ j, ¬ M oo j) : HW h ro oo xs r s Δ σ σ2 := by
  intro a t a0 a1 t0 t1
  have e1 : ∀ a t, Hc h σ1 a t ↔ Hc h σ a t := fun a t => by unfold Hc; rw [fr_L hf h a (m1 a)]
  have := h1 a t a0 a1 t0 t1
  rw [e1, fr_I hf ro _ (m2 _), fr_I hf oo _ (m3 _)] at this; exact this
def xok (xs : List Int) : Prop := (∀ e ∈ xs, 0 ≤ e ∧ e < 9412) ∧ xs.length ≤ 31
theorem xok_of {P : Pg} (hP : okP P) {lim : Int} {xs : List Int} (h : isC P lim xs) : xok xs := ⟨fun e he => RS_rng hP ((h.2 e).mp he), isC_len hP h⟩
theorem cdf_rng {xs : List Int} {c : Int} (hx : xok xs) (h : vld xs c) : 0 ≤ cdf xs c ∧ cdf xs c < 44 := by
  obtain ⟨h0, h1⟩ := h
  have hl := hx.2
  unfold cdf
  by_cases a : 128 ≤ c
  · rw [if_pos a]; omega
  · rw [if_neg a]
    by_cases b : c < 4
    · rw [if_pos b]; omega
    · rw [if_neg b]
      have : (c - 4) / 4 < xs.length := by omega
      have := hx.1 _ (la_mem (xs := xs) (i := (c - 4) / 4) (by omega) this)
      omega
/-- facts are added to a state -/
def AW (z b g h ro oo : Nat) (xs : List Int) (r s : Int) (Δ : Fa) (σ σ' : St) : Prop :=
  (∀ c u, Gc g σ' c u ↔ (Gc g σ c u ∨ Δ c u)) ∧ (HW h ro oo xs r s Δ σ σ' ∧ ((gI σ' b 9 - fpop (gL σ' g) = gI σ b 9 - fpop (gL σ g)) ∧
  ((((gI σ' b 10 = gI σ b 10 ∧ ∀ c u, Δ c u → Gc g σ c u) ∨ (gI σ' b 10 = r ∧ ∃ c u, Δ c u ∧ ¬ Gc g σ c u))) ∧
  fr (fun c j => c = g ∨ (c + 1 = h ∧ z = 1) ∨ c = h ∨ c = ro ∨ c = oo ∨ (c = b ∧ (j = 9 ∨ j = 10))) σ σ')))
theorem im_or {xs : List Int} {Δ1 Δ2 : Fa} {a t : Int} : im xs (fun c u => Δ1 c u ∨ Δ2 c u) a t ↔ (im xs Δ1 a t ∨ im xs Δ2 a t) := by
  constructor
  · rintro ⟨c, u, g | g, e⟩
    · exact Or.inl ⟨c, u, g, e⟩
    · exact Or.inr ⟨c, u, g, e⟩
  · rintro (⟨c, u, g, e⟩ | ⟨c, u, g, e⟩)
    · exact ⟨c, u, Or.inl g, e⟩
    · exact ⟨c, u, Or.inr g, e⟩
theorem im_44 {xs : List Int} (hx : xok xs) {Δ : Fa} (hΔ : okF xs Δ) {a t : Int} (h : im xs Δ a t) : (0 ≤ a ∧ a < 44) ∧ (0 ≤ t ∧ t < 44) := by
  obtain ⟨c, u, g, rfl, rfl⟩ := h
  exact ⟨cdf_rng hx (hΔ c u g).1, cdf_rng hx (hΔ c u g).2⟩
theorem AW_trans {z b g h ro oo : Nat} {xs : List Int} {r s : Int} {Δ1 Δ2 : Fa} {σ σ1 σ2 : St} (hx : xok xs) (o1 : okF xs Δ1) (o2 : okF xs Δ2)
    (h1 : AW z b g h ro oo xs r s Δ1 σ σ1) (h2 : AW z b g h ro oo xs r s Δ2 σ1 σ2) : AW z b g h ro oo xs r s (fun c u => Δ1 c u ∨ Δ2 c u) σ σ2 := by
  obtain ⟨a1, a2, a3, a4, a5⟩ := h1
  obtain ⟨b1, b2, b3, b4, b5⟩ := h2
  refine ⟨fun c u => ?_, HW_trans a2 b2 (fun _ _ => im_or) (fun a t k => ?_), b3.trans a3, ?_, fr_trans a5 b5⟩
  · rw [b1, a1]
    constructor
    · rintro ((k | k) | k)
      · exact Or.inl k
      · exact Or.inr (Or.inl k)
      · exact Or.inr (Or.inr k)
    · rintro (k | k | k)
      · exact Or.inl (Or.inl k)
      · exact Or.inl (Or.inr k)
      · exact Or.inr k
  · rcases im_or.mp k with k | k
    · exact (im_44 hx o1 k).2.2
    · exact (im_44 hx o2 k).2.2
  · rcases a4 with ⟨e1, n1⟩ | ⟨e1, c, u, n1, n2⟩
    · rcases b4 with ⟨e2, n2⟩ | ⟨e2, c, u, n2, n3⟩
      · refine Or.inl ⟨e2.trans e1, fun c u k => ?_⟩
        rcases k with k | k
        · exact n1 c u k
        · rcases (a1 c u).mp (n2 c u k) with q | q
          · exact q
          · exact n1 c u q
      · exact Or.inr ⟨e2, c, u, Or.inr n2, fun q => n3 ((a1 c u).mpr (Or.inl q))⟩
    · rcases b4 with ⟨e2, -⟩ | ⟨e2, -⟩
      · exact Or.inr ⟨e2.trans e1, c, u, Or.inl n1, n2⟩
      · exact Or.inr ⟨e2, c, u, Or.inl n1, n2⟩
theorem AW_congr {z b g h ro oo : Nat} {xs : List Int} {r s : Int} {Δ Δ' : Fa} {σ σ' : St} (hΔ : ∀ c u, Δ c u ↔ Δ' c u) (h1 : AW z b g h ro oo xs r s Δ σ σ') : AW z b g h ro oo xs r s Δ' σ σ' := by
  have : Δ = Δ' := funext fun c => funext fun u => propext (hΔ c u)
  rw [← this]; exact h1
theorem AW_refl {z b g h ro oo : Nat} {xs : List Int} {r s : Int} {Δ : Fa} {σ : St} (hn : ∀ c u, ¬ Δ c u) : AW z b g h ro oo xs r s Δ σ σ :=
  ⟨fun c u => ⟨Or.inl, fun k => k.resolve_right (hn c u)⟩, HW_refl (fun a t ⟨c, u, k, _⟩ => absurd k (hn c u)), rfl, Or.inl ⟨rfl, fun c u k => absurd k (hn c u)⟩, fr_refl⟩
theorem AW_weak {z b g h ro oo : Nat} {xs : List Int} {r s : Int} {Δ : Fa} {σ σ' : St} (h1 : AW 0 b g h ro oo xs r s Δ σ σ') : AW z b g h ro oo xs r s Δ σ σ' :=
  ⟨h1.1, h1.2.1, h1.2.2.1, h1.2.2.2.1, fr_mono h1.2.2.2.2 (fun c j e => by omega)⟩
/-- what a state must be for adding -/
def WP (b g h cd : Nat) (xs : List Int) (r s : Int) (σ : St) : Prop := CD cd σ xs ∧ ((∀ c u, Gc g σ c u → vld xs c ∧ (vld xs u ∧ Hc h σ (cdf xs c) (cdf xs u))) ∧ (gI σ b 11 = r ∧ gI σ b 12 = s))
theorem WP_AW {z b g h ro oo cd : Nat} {xs : List Int} {r s : Int} {Δ : Fa} {σ σ' : St} (hx : xok xs) (hd : cd ≠ g ∧ cd + 1 ≠ h ∧ cd ≠ h ∧ cd ≠ ro ∧ cd ≠ oo ∧ cd ≠ b) (hb : b ≠ g ∧ b + 1 ≠ h ∧ b ≠ h ∧ b ≠ ro ∧ b ≠ oo) (o : okF xs Δ) (h1 : WP b g h cd xs r s σ) (h2 : AW z b g h ro oo xs r s Δ σ σ') : WP b g h cd xs r s σ' := by
  obtain ⟨a1, a2, a3, a4, a5⟩ := h2
  refine ⟨fun c hc => (fr_I a5 cd c (by omega)).trans (h1.1 c hc), fun c u k => ?_, (fr_I a5 b 11 (by omega)).trans h1.2.2.1, (fr_I a5 b 12 (by omega)).trans h1.2.2.2⟩
  rcases (a1 c u).mp k with q | q
  · obtain ⟨v1, v2, v3⟩ := h1.2.1 c u q
    have r1 := cdf_rng hx v1
    have r2 := cdf_rng hx v2
    exact ⟨v1, v2, ((a2 _ _ r1.1 r1.2 r2.1 (by omega)).1 v3).1⟩
  · obtain ⟨v1, v2⟩ := o c u q
    have r1 := cdf_rng hx v1
    have r2 := cdf_rng hx v2
    have := a2 (cdf xs c) (cdf xs u) r1.1 r1.2 r2.1 (by omega)
    by_cases d : Hc h σ (cdf xs c) (cdf xs u)
    · exact ⟨v1, v2, (this.1 d).1⟩
    · exact ⟨v1, v2, ((this.2 d).1 ⟨c, u, q, rfl, rfl⟩).1⟩
theorem bb_shr0 {l : BitVec 64} {k : Nat} (h : l >>> k = BitVec.ofNat 64 0) {j : Nat} (hj : k ≤ j) : l.getLsbD j = false := by
  have e : (l >>> k).getLsbD (j - k) = l.getLsbD j := by rw [BitVec.getLsbD_ushiftRight]; congr 1; omega
  rw [← e, h]; simp
/-- one pair of codes set, or found set -/
theorem HW_one {h ro oo : Nat} {xs : List Int} {r s : Int} {σ : St} {c u : Int} (hx : xok xs) (hc : vld xs c) (hu : vld xs u) (hne : h ≠ ro ∧ h ≠ oo ∧ ro ≠ oo) (hn : ¬ Hc h σ (cdf xs c) (cdf xs u)) :
    HW h ro oo xs r s (fun c' u' => c' = c ∧ u' = u) σ (sI (sI (sL σ h (cdf xs c) (gL σ h (cdf xs c) ||| (BitVec.ofNat 64 1 <<< (cdf xs u).toNat))) ro (cdf xs c * 44 + cdf xs u) r) oo (cdf xs c * 44 + cdf xs u) s) := by
  have r1 := cdf_rng hx hc
  have r2 := cdf_rng hx hu
  intro a t a0 a1 t0 t1
  have e1 : Hc h (sI (sI (sL σ h (cdf xs c) (gL σ h (cdf xs c) ||| (BitVec.ofNat 64 1 <<< (cdf xs u).toNat))) ro (cdf xs c * 44 + cdf xs u) r) oo (cdf xs c * 44 + cdf xs u) s) a t ↔ (Hc h σ a t ∨ (a = cdf xs c ∧ t = cdf xs u)) := by
    unfold Hc
    rw [gL_sI, gL_sI, gL_sL]
    by_cases d : a = cdf xs c
    · rw [if_pos ⟨rfl, d⟩, BitVec.getLsbD_or, bb_one (by omega), d, Bool.or_eq_true, decide_eq_true_eq]
      constructor
      · rintro (k | k)
        · exact Or.inl k
        · exact Or.inr ⟨rfl, by omega⟩
      · rintro (k | k)
        · exact Or.inl k
        · exact Or.inr (by rw [k.2])
    · rw [if_neg (fun k => d k.2)]
      exact ⟨Or.inl, fun k => k.resolve_right (fun q => d q.1)⟩
  have e2 : im xs (fun c' u' => c' = c ∧ u' = u) a t ↔ (a = cdf xs c ∧ t = cdf xs u) := by
    constructor
    · rintro ⟨c', u', ⟨rfl, rfl⟩, rfl, rfl⟩; exact ⟨rfl, rfl⟩
    · rintro ⟨rfl, rfl⟩; exact ⟨c, u, ⟨rfl, rfl⟩, rfl, rfl⟩
  rw [e1, e2]
  refine ⟨fun g => ⟨Or.inl g, fun ht => ?_⟩, fun g => ⟨fun k => ⟨Or.inr k, ?_⟩, fun k q => ?_⟩⟩
  · have hp : ¬ (a * 44 + t = cdf xs c * 44 + cdf xs u) := fun e => by
      have h1 : a = cdf xs c := by omega
      have h2 : t = cdf xs u := by omega
      rw [h1, h2] at g; exact hn g
    rw [gI_sI, if_neg (fun q => hp q.2), gI_sI, if_neg (fun q => hp q.2), gI_sL, gI_sI, if_neg (fun q => hp q.2), gI_sI, if_neg (fun q => hp q.2), gI_sL]
    exact ⟨rfl, rfl⟩
  · rw [k.1, k.2, gI_sI, if_neg (fun q => hne.2.2 q.1), gI_sI, if_pos ⟨rfl, rfl⟩, gI_sI, if_pos ⟨rfl, rfl⟩]
    exact ⟨rfl, rfl⟩
  · rcases q with q | q
    · exact g q
    · exact k q

