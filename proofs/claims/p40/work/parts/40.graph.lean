/-! the class's graph -/
def GW (σ : St) (a b : Int) : Prop := (0 ≤ a ∧ a < 44) ∧ ((0 ≤ b ∧ b < 64) ∧ (gL σ 45 a).getLsbD b.toNat = true)
theorem GW_of {σ : St} {E : Int → Int → Prop} (h : ∀ a, 0 ≤ a → a < 44 → SW (gL σ 45 a) (E a)) (hE : ∀ a b, E a b → (0 ≤ a ∧ a < 44) ∧ (0 ≤ b ∧ b < 64)) (a b : Int) : GW σ a b ↔ E a b := by
  constructor
  · rintro ⟨h1, h2, h3⟩
    have := (h a h1.1 h1.2 b.toNat (by omega)).mp h3
    rw [show ((b.toNat : Nat) : Int) = b by omega] at this; exact this
  · intro e
    obtain ⟨h1, h2⟩ := hE a b e
    refine ⟨h1, h2, (h a h1.1 h1.2 b.toNat (by omega)).mpr ?_⟩
    rw [show ((b.toNat : Nat) : Int) = b by omega]; exact e
theorem GW_SW {σ : St} {a : Int} (a0 : 0 ≤ a) (a1 : a < 44) : SW (gL σ 45 a) (GW σ a) := fun t ht => by
  constructor
  · intro h; exact ⟨⟨a0, a1⟩, ⟨by omega, by omega⟩, by rw [Int.toNat_natCast]; exact h⟩
  · rintro ⟨_, _, h⟩; rw [Int.toNat_natCast] at h; exact h
section CG
variable {t : Nat} {σ : St} {Q : Res → St → Prop}
theorem k38 {i : Int} {l : BitVec 64} : Call t 38 [vR 44, vI i, vL l] σ Q ↔ inR i ∧ Q (.inl none) (wrO σ 45 i l) := by
  simp only [x38_0, x38_9, k99 (show lc 45 = 102 from rfl), aft_l, aft_r, optL_s, optL_n, xgo_n, xgo_s, List.cons_append, List.nil_append, List.append_nil, true_and, and_true, Nat.sub_zero, Nat.zero_le, true_implies, false_implies, implies_true, not_true_eq_false, not_false_eq_true, true_or, or_true]
theorem k37 {i j : Int} : Call t 37 [vR 44, vI i, vI j] σ Q ↔ inR i ∧ Q (.inl none) (wrO σ 45 i (BitVec.ofNat 64 1 <<< sh6 j)) := by
  simp only [x37_0, x37_8, k38, aft_l, aft_r, optL_s, optL_n, xgo_n, xgo_s, List.cons_append, List.nil_append, List.append_nil, true_and, and_true, Nat.sub_zero, Nat.zero_le, true_implies, false_implies, implies_true, not_true_eq_false, not_false_eq_true, true_or, or_true]
theorem k40 {i : Int} : Call t 40 [vR 44, vI i] σ Q ↔ inR i ∧ Q (.inl (some (vL (rdL σ 45 i)))) σ := by
  simp only [x40_0, x40_8, k97 (show lc 45 = 102 from rfl), aft_l, aft_r, optL_s, optL_n, xgo_n, xgo_s, List.cons_append, List.nil_append, List.append_nil, true_and, and_true, Nat.sub_zero, Nat.zero_le, true_implies, false_implies, implies_true, not_true_eq_false, not_false_eq_true, true_or, or_true]
theorem e40 {i : Int} (i0 : 0 ≤ i) (i1 : i < 44) : Call t 40 [vR 44, vI i] σ Q ↔ Q (.inl (some (vL (gL σ 45 i)))) σ := by
  rw [k40, rdL_in (n := 44) rfl i0 i1]; exact w_true ⟨by omega, by omega⟩
theorem e38 {i : Int} {l : BitVec 64} (i0 : 0 ≤ i) (i1 : i < 44) : Call t 38 [vR 44, vI i, vL l] σ Q ↔ Q (.inl none) (sL σ 45 i (gL σ 45 i ||| l)) := by
  rw [k38, wrO_in (n := 44) rfl i0 i1]; exact w_true ⟨by omega, by omega⟩
theorem e37 {i j : Int} (i0 : 0 ≤ i) (i1 : i < 44) : Call t 37 [vR 44, vI i, vI j] σ Q ↔ Q (.inl none) (sL σ 45 i (gL σ 45 i ||| (BitVec.ofNat 64 1 <<< sh6 j))) := by
  rw [k37, wrO_in (n := 44) rfl i0 i1]; exact w_true ⟨by omega, by omega⟩
/-- Graph.clear -/
theorem c36 (hq : ∀ σ', (∀ a b, ¬ GW σ' a b) → fr (fun c _ => c = 45) σ σ' → Q (.inl none) σ') : Call t 36 [vR 44] σ Q := by
  rw [x36_0]
  refine k100 (show lc 45 = 102 from rfl) ?_
  simp only [x36_8, aft_l, aft_r, optL_s, optL_n, xgo_n, xgo_s, List.cons_append, List.nil_append, List.append_nil, true_and, and_true, Nat.sub_zero, Nat.zero_le, true_implies, false_implies, implies_true, not_true_eq_false, not_false_eq_true, true_or, or_true]
  refine hq _ (fun a b h => ?_) (fr_upL fr_refl (fun j => rfl))
  have h3 := h.2.2
  rw [gL_upL, if_pos rfl, if_pos ⟨h.1.1, by show a < 44; exact h.1.2⟩] at h3
  simp at h3
/-- a row united with a word -/
theorem GW_put {i : Int} {l : BitVec 64} {S : Int → Prop} (i0 : 0 ≤ i) (i1 : i < 44) (hl : SW l S) (a b : Int) : GW (sL σ 45 i (gL σ 45 i ||| l)) a b ↔ (GW σ a b ∨ (a = i ∧ ((0 ≤ b ∧ b < 64) ∧ S b))) := by
  unfold GW
  rw [gL_sL]
  by_cases q : a = i
  · rw [if_pos ⟨rfl, q⟩, BitVec.getLsbD_or, Bool.or_eq_true, q]
    constructor
    · rintro ⟨h1, h2, h3 | h3⟩
      · exact Or.inl ⟨h1, h2, h3⟩
      · have := (hl b.toNat (by omega)).mp h3
        rw [show ((b.toNat : Nat) : Int) = b by omega] at this
        exact Or.inr ⟨rfl, h2, this⟩
    · rintro (⟨h1, h2, h3⟩ | ⟨_, h2, h3⟩)
      · exact ⟨h1, h2, Or.inl h3⟩
      · refine ⟨⟨i0, i1⟩, h2, Or.inr ((hl b.toNat (by omega)).mpr ?_)⟩
        rw [show ((b.toNat : Nat) : Int) = b by omega]; exact h3
  · rw [if_neg (fun k => q k.2)]
    exact ⟨Or.inl, fun h => h.resolve_right (fun k => q k.1)⟩
theorem clo2 {m : Int} (m0 : 0 ≤ m) (m1 : m < 44) (W : Int → BitVec 64) {σ0 : St} (hq : ∀ σ', (∀ a, 0 ≤ a → a < 44 → gL σ' 45 a = if (W a).getLsbD m.toNat = true then W a ||| W m else W a) → fr (fun c _ => c = 45) σ0 σ' → wp t 39 44 [some (vR 44), some (vI m), some (vI 44)] [] σ' Q) :
    ∀ (d : Nat) (i : Int) (σ1 : St), 0 ≤ i → i + d = 44 → fr (fun c _ => c = 45) σ0 σ1 → (∀ a, 0 ≤ a → a < 44 → gL σ1 45 a = if a < i ∧ (W a).getLsbD m.toNat = true then W a ||| W m else W a) → wp t 39 10 [some (vR 44), some (vI m), some (vI i)] [] σ1 Q
  | 0, i, σ1, i0, hd, hf, h => by
    have e : i = 44 := by omega
    subst e
    rw [x39_10]
    refine ⟨⟨by omega, by omega⟩, fun h => by omega, fun _ => hq σ1 (fun a a0 a1 => ?_) hf⟩
    rw [h a a0 a1]
    by_cases q : (W a).getLsbD m.toNat = true
    · rw [if_pos q, if_pos ⟨a1, q⟩]
    · rw [if_neg q, if_neg (fun k => q k.2)]
  | d + 1, i, σ1, i0, hd, hf, h => by
    have hi : gL σ1 45 i = W i := by rw [h i i0 (by omega), if_neg (fun k => by omega)]
    have hm : gL σ1 45 m = W m := by
      rw [h m m0 m1]
      by_cases q : m < i ∧ (W m).getLsbD m.toNat = true
      · rw [if_pos q, BitVec.or_self]
      · rw [if_neg q]
    have hs : sh6 m = m.toNat := sh6_id m0 (by omega)
    rw [x39_10]
    refine ⟨⟨by omega, by omega⟩, fun _ => ?_, fun h => by omega⟩
    simp only [x39_16, x39_21, x39_25, e40 i0 (show i < 44 by omega), k173, hi, hs, b2i_0, aft_l, aft_r, optL_s, optL_n, xgo_n, xgo_s, List.cons_append, List.nil_append, List.append_nil, true_and, and_true, Nat.sub_zero, Nat.zero_le, true_implies, false_implies, implies_true, not_true_eq_false, not_false_eq_true, true_or, or_true]
    refine ⟨b2i_in _, fun hb => ?_, fun hb => ?_⟩
    · rw [x39_38]
      refine clo2 m0 m1 W hq d (i + 1) σ1 (by omega) (by omega) hf (fun a a0 a1 => ?_)
      rw [h a a0 a1]
      by_cases q : a = i
      · rw [q, if_neg (fun k => by omega), if_neg (fun k => by rw [hb] at k; cases k.2)]
      · by_cases q2 : a < i ∧ (W a).getLsbD m.toNat = true
        · rw [if_pos q2, if_pos ⟨by omega, q2.2⟩]
        · rw [if_neg q2, if_neg (fun k => q2 ⟨by omega, k.2⟩)]
    · have hb : (W i).getLsbD m.toNat = true := by
        cases q : (W i).getLsbD m.toNat with
        | true => rfl
        | false => exact absurd q hb
      simp only [x39_28, x39_35, x39_38, e40 m0 m1, e38 i0 (show i < 44 by omega), hi, hm, aft_l, aft_r, optL_s, optL_n, xgo_n, xgo_s, List.cons_append, List.nil_append, List.append_nil, true_and, and_true, Nat.sub_zero, Nat.zero_le, true_implies, false_implies, implies_true, not_true_eq_false, not_false_eq_true, true_or, or_true]
      refine clo2 m0 m1 W hq d (i + 1) _ (by omega) (by omega) (fr_sL hf rfl) (fun a a0 a1 => ?_)
      rw [gL_sL]
      by_cases q : a = i
      · rw [if_pos ⟨rfl, q⟩, q, if_pos ⟨by omega, hb⟩]
      · rw [if_neg (fun k => q k.2), h a a0 a1]
        by_cases q2 : a < i ∧ (W a).getLsbD m.toNat = true
        · rw [if_pos q2, if_pos ⟨by omega, q2.2⟩]
        · rw [if_neg q2, if_neg (fun k => q2 ⟨by omega, k.2⟩)]
theorem GW_mid {σ σ' : St} {m : Int} (m0 : 0 ≤ m) (m1 : m < 44) (h : ∀ a, 0 ≤ a → a < 44 → gL σ' 45 a = if (gL σ 45 a).getLsbD m.toNat = true then gL σ 45 a ||| gL σ 45 m else gL σ 45 a) (a b : Int) : GW σ' a b ↔ (GW σ a b ∨ (GW σ a m ∧ GW σ m b)) := by
  constructor
  · rintro ⟨h1, h2, h3⟩
    rw [h a h1.1 h1.2] at h3
    by_cases q : (gL σ 45 a).getLsbD m.toNat = true
    · rw [if_pos q, BitVec.getLsbD_or, Bool.or_eq_true] at h3
      rcases h3 with h3 | h3
      · exact Or.inl ⟨h1, h2, h3⟩
      · exact Or.inr ⟨⟨h1, ⟨m0, by omega⟩, q⟩, ⟨m0, m1⟩, h2, h3⟩
    · rw [if_neg q] at h3; exact Or.inl ⟨h1, h2, h3⟩
  · rintro (⟨h1, h2, h3⟩ | ⟨⟨h1, _, h3⟩, _, h5, h6⟩)
    · refine ⟨h1, h2, ?_⟩
      rw [h a h1.1 h1.2]
      by_cases q : (gL σ 45 a).getLsbD m.toNat = true
      · rw [if_pos q, BitVec.getLsbD_or, h3]; rfl
      · rw [if_neg q]; exact h3
    · refine ⟨h1, h5, ?_⟩
      rw [h a h1.1 h1.2, if_pos h3, BitVec.getLsbD_or, h6, Bool.or_true]
theorem clo1 {σ0 : St} (hE : ∀ a b, GW σ0 a b → b < 44) (hq : ∀ σ', (∀ a b, GW σ' a b ↔ TC (GW σ0) a b) → fr (fun c _ => c = 45) σ0 σ' → Q (.inl none) σ') :
    ∀ (d : Nat) (m : Int) (σ1 : St) (a2 : Option AV), 0 ≤ m → m + d = 44 → fr (fun c _ => c = 45) σ0 σ1 → (∀ a b, GW σ0 a b → GW σ1 a b) → (∀ a b, GW σ1 a b → TC (GW σ0) a b) → (∀ k, 0 ≤ k → k < m → ∀ a b, GW σ1 a k → GW σ1 k b → GW σ1 a b) → wp t 39 2 [some (vR 44), some (vI m), a2] [] σ1 Q
  | 0, m, σ1, a2, m0, hd, hf, h1, h2, h3 => by
    rw [x39_2]
    refine ⟨⟨by omega, by omega⟩, fun h => by omega, fun _ => ?_⟩
    rw [x39_50]
    have hin : ∀ a b, TC (GW σ0) a b → 0 ≤ b ∧ b < 44 := fun a b h => h (fun a b => 0 ≤ b ∧ b < 44) (fun a b e => ⟨e.2.1.1, hE a b e⟩) (fun a b c _ h => h)
    refine hq σ1 (fun a b => ⟨h2 a b, fun h => ?_⟩) hf
    exact h (fun a b => GW σ1 a b) (fun a b e => h1 a b e) (fun a b c e1 e2 => h3 b (hin a b (h2 a b e1)).1 (by have := (hin a b (h2 a b e1)).2; omega) a c e1 e2)
  | d + 1, m, σ1, a2, m0, hd, hf, h1, h2, h3 => by
    rw [x39_2]
    refine ⟨⟨by omega, by omega⟩, fun _ => ?_, fun h => by omega⟩
    rw [x39_8]
    refine clo2 m0 (by omega) (gL σ1 45) (σ0 := σ1) (fun σ' g1 g2 => ?_) 44 0 σ1 (by omega) (by omega) fr_refl (fun a a0 a1 => by rw [if_neg (fun k => by omega)])
    have hm := fun a b => GW_mid (σ := σ1) (σ' := σ') m0 (by omega) g1 a b
    rw [x39_44]
    refine clo1 hE hq d (m + 1) σ' _ (by omega) (by omega) (fr_trans hf g2) (fun a b e => (hm a b).mpr (Or.inl (h1 a b e))) (fun a b e => ?_) (ws_step hm h3)
    rcases (hm a b).mp e with e | ⟨e1, e2⟩
    · exact h2 a b e
    · exact TC_trans (h2 _ _ e1) (h2 _ _ e2)
/-- Graph.close -/
theorem c39 (hE : ∀ a b, GW σ a b → b < 44) (hq : ∀ σ', (∀ a b, GW σ' a b ↔ TC (GW σ) a b) → fr (fun c _ => c = 45) σ σ' → Q (.inl none) σ') : Call t 39 [vR 44] σ Q := by
  rw [x39_0]
  exact clo1 hE hq 44 0 σ _ (by omega) (by omega) fr_refl (fun a b e => e) (fun a b e => TC_base e) (fun k k0 k1 => by omega)
end CG

