/-! the class's inclusion: a word of facts -/
section CI2
variable {t : Nat} {σ : St} {Q : Res → St → Prop} {P : Pg}
def dlt (c w : Int) (l : BitVec 64) (n : Nat) : Fa := fun c' u' => c' = c ∧ ((64 * w ≤ u' ∧ u' < 64 * w + n) ∧ l.getLsbD (u' - 64 * w).toNat = true)
theorem dlt_t {c w : Int} {l : BitVec 64} {n : Nat} (hb : l.getLsbD n = true) : dlt c w l (n + 1) = fun c' u' => dlt c w l n c' u' ∨ (c' = c ∧ u' = 64 * w + n) := by
  funext c' u'
  apply propext
  unfold dlt
  constructor
  · rintro ⟨e, h1, h2⟩
    by_cases q : u' = 64 * w + n
    · exact Or.inr ⟨e, q⟩
    · exact Or.inl ⟨e, ⟨h1.1, by omega⟩, h2⟩
  · rintro (⟨e, h1, h2⟩ | ⟨e, q⟩)
    · exact ⟨e, ⟨h1.1, by omega⟩, h2⟩
    · rw [q, show (64 * w + (n : Int) - 64 * w).toNat = n by omega]
      exact ⟨e, ⟨by omega, by omega⟩, hb⟩
theorem dlt_f {c w : Int} {l : BitVec 64} {n : Nat} (hb : l.getLsbD n = false) : dlt c w l (n + 1) = dlt c w l n := by
  funext c' u'
  apply propext
  unfold dlt
  constructor
  · rintro ⟨e, h1, h2⟩
    by_cases q : u' = 64 * w + n
    · rw [q, show (64 * w + (n : Int) - 64 * w).toNat = n by omega, hb] at h2; cases h2
    · exact ⟨e, ⟨h1.1, by omega⟩, h2⟩
  · rintro ⟨e, h1, h2⟩
    exact ⟨e, ⟨h1.1, by omega⟩, h2⟩
theorem dlt_ok {xs : List Int} {c w : Int} {l : BitVec 64} {n : Nat} (hc : vld xs c) (hl : ∀ j : Nat, l.getLsbD j = true → vld xs (64 * w + j)) : okF xs (dlt c w l n) := fun c' u' ⟨e, h1, h2⟩ => by
  have := hl _ h2
  rw [show (64 * w + ((u' - 64 * w).toNat : Int)) = u' by omega] at this
  rw [e]; exact ⟨hc, this⟩
theorem cn_sh {l : BitVec 64} {n : Nat} (hn : n ≤ 64) (h : ∀ j : Nat, n ≤ j → l.getLsbD j = false) : pw l = cn (fun j => l.getLsbD j.toNat) n := by
  unfold pw
  exact cn_cut hn (fun m m0 m1 => h m.toNat (by omega))
theorem k54_19 {c w : Int} : Call t 54 [vR 19, vI c, vI w] σ Q ↔ inR (c * 3 + w) ∧ Q (.inl (some (vL (rdL σ 23 (c * 3 + w))))) σ := by
  simp only [x54_0_19, x54_12_19, k97 (show lc 23 = 102 from rfl), aft_l, aft_r, optL_s, optL_n, xgo_n, xgo_s, List.cons_append, List.nil_append, List.append_nil, true_and, and_true, Nat.sub_zero, Nat.zero_le, true_implies, false_implies, implies_true, not_true_eq_false, not_false_eq_true, true_or, or_true]
theorem awl_19 {xs : List Int} {r s c w : Int} {l : BitVec 64} {σ0 : St} (hx : xok xs) (hc : vld xs c) (hw : 0 ≤ w ∧ w < 3) (hl : ∀ j : Nat, l.getLsbD j = true → vld xs (64 * w + j))
    (hD : CD 25 σ0 xs) (h11 : gI σ0 19 11 = r) (h12 : gI σ0 19 12 = s)
    (hq : ∀ σ', HW 27 28 29 xs r s (dlt c w l 64) σ0 σ' → gI σ' 19 9 = gI σ0 19 9 + pw l → ((gI σ' 19 10 = gI σ0 19 10 ∧ ∀ j : Nat, j < 64 → l.getLsbD j = false) ∨ (gI σ' 19 10 = r ∧ ∃ j : Nat, j < 64 ∧ l.getLsbD j = true)) → fr (fun c j => c = 27 ∨ c = 28 ∨ c = 29 ∨ (c = 19 ∧ (j = 9 ∨ j = 10))) σ0 σ' → Q (.inl none) σ') :
    ∀ (d n : Nat) (σ1 : St) (a1 a3 a4 a6 a9 : Option AV), n + d = 64 → HW 27 28 29 xs r s (dlt c w l n) σ0 σ1 → gI σ1 19 9 = gI σ0 19 9 + cn (fun j => l.getLsbD j.toNat) n → ((gI σ1 19 10 = gI σ0 19 10 ∧ ∀ j : Nat, j < n → l.getLsbD j = false) ∨ (gI σ1 19 10 = r ∧ ∃ j : Nat, j < n ∧ l.getLsbD j = true)) → fr (fun c j => c = 27 ∨ c = 28 ∨ c = 29 ∨ (c = 19 ∧ (j = 9 ∨ j = 10))) σ0 σ1 →
    wp t 53 47 [some (vR 19), a1, some (vI w), a3, a4, some (vL l), a6, some (vI (cdf xs c)), some (vI n), a9] [] σ1 Q
  | 0, n, σ1, a1, a3, a4, a6, a9, hd, hH, h9, h10, hf => by
    have e : n = 64 := by omega
    subst e
    rw [x53_47_19]
    refine ⟨⟨by omega, by omega⟩, fun h => by omega, fun _ => ?_⟩
    rw [x53_182_19]
    exact hq σ1 hH h9 h10 hf
  | d + 1, n, σ1, a1, a3, a4, a6, a9, hd, hH, h9, h10, hf => by
    have hs6 : sh6 (n : Int) = n := by rw [sh6_id (by omega) (by omega)]; omega
    rw [x53_47_19]
    refine ⟨⟨by omega, by omega⟩, fun _ => ?_, fun h => by omega⟩
    rw [x53_54_19]
    refine ⟨lCmp_in, fun h0 => ?_, fun h0 => ?_⟩
    · have hz : ∀ j : Nat, n ≤ j → l.getLsbD j = false := fun j hj => bb_shr0 (by rw [lCmp_eq, hs6] at h0; exact h0) hj
      have hh : dlt c w l 64 = dlt c w l n := by
        funext c' u'
        apply propext
        unfold dlt
        constructor
        · rintro ⟨e, g1, g2⟩
          refine ⟨e, ⟨g1.1, ?_⟩, g2⟩
          by_cases q : u' < 64 * w + n
          · exact q
          · rw [hz (u' - 64 * w).toNat (by omega)] at g2; cases g2
        · rintro ⟨e, g1, g2⟩
          exact ⟨e, ⟨g1.1, by omega⟩, g2⟩
      rw [x53_182_19]
      refine hq σ1 (by rw [hh]; exact hH) (by rw [h9, cn_sh (l := l) (n := n) (by omega) hz]) ?_ hf
      rcases h10 with ⟨e, h⟩ | ⟨e, j, hj, h⟩
      · refine Or.inl ⟨e, fun j hj => ?_⟩
        by_cases q : j < n
        · exact h j q
        · exact hz j (by omega)
      · exact Or.inr ⟨e, j, by omega, h⟩
    · have e9 := cn_succ (fun j => l.getLsbD j.toNat) n
      rw [Int.toNat_natCast] at e9
      by_cases hb : l.getLsbD n = true
      · have hu := hl n hb
        have r1 := cdf_rng hx hc
        have r2 := cdf_rng hx hu
        have hul : 64 * w + (n : Int) < 152 := by have := hu.2; have := hx.2; omega
        have hcd : ∀ τ, gI τ 25 (64 * w + n) = gI σ1 25 (64 * w + n) → rdI τ 25 (64 * w + n) = cdf xs (64 * w + n) := fun τ e => by
          rw [rdI_in (n := 152) rfl (by omega) (by omega), e, fr_I hf _ _ (by omega)]; exact hD _ hu
        have hcd1 := hcd σ1 rfl
        have s6 : sh6 (cdf xs (64 * w + n)) = (cdf xs (64 * w + n)).toNat := sh6_id r2.1 (by omega)
        have hrL : ∀ τ, rdL τ 27 (cdf xs c) = gL τ 27 (cdf xs c) := fun τ => rdL_in (n := 44) rfl r1.1 r1.2
        have hwO : ∀ τ v, wrO τ 27 (cdf xs c) v = sL τ 27 (cdf xs c) (gL τ 27 (cdf xs c) ||| v) := fun τ v => wrO_in (n := 44) rfl r1.1 r1.2
        have hwr : ∀ τ v, wrI τ 28 (cdf xs c * 44 + cdf xs (64 * w + n)) v = sI τ 28 (cdf xs c * 44 + cdf xs (64 * w + n)) v := fun τ v => wrI_in (n := 1936) rfl (by omega) (by omega)
        have hwo : ∀ τ v, wrI τ 29 (cdf xs c * 44 + cdf xs (64 * w + n)) v = sI τ 29 (cdf xs c * 44 + cdf xs (64 * w + n)) v := fun τ v => wrI_in (n := 1936) rfl (by omega) (by omega)
        have g11 : gI σ1 19 11 = r := (fr_I hf _ _ (by omega)).trans h11
        have g12 : gI σ1 19 12 = s := (fr_I hf _ _ (by omega)).trans h12
        rw [if_pos hb] at e9
        simp only [x53_0_19, x53_13_19, x53_34_19, x53_42_19, x53_54_19, x53_64_19, x53_71_19, x53_74_19, x53_88_19, x53_117_19, x53_122_19, x53_125_19, x53_138_19, x53_157_19, x53_176_19, x53_182_19, k173, k96 (show lc 25 = 101 from rfl), k97 (show lc 27 = 102 from rfl), k98 (show lc 28 = 101 from rfl), k98 (show lc 29 = 101 from rfl), k99 (show lc 27 = 102 from rfl), hs6, b2i_0, hb, b2i_t, hcd1, s6, hrL, hwO, hwr, hwo, gI_sI, gL_sI, gD_sI, gI_sL, gL_sL, gD_sL, gI_sD, gL_sD, gD_sD, Nat.reduceEqDiff, Int.reduceEq, reduceCtorEq, false_and, and_false, and_self, if_true, if_false, not_false_eq_true, not_true_eq_false, g11, g12, Bool.true_eq_false, aft_l, aft_r, optL_s, optL_n, xgo_n, xgo_s, List.cons_append, List.nil_append, List.append_nil, true_and, and_true, Nat.sub_zero, Nat.zero_le, true_implies, false_implies, implies_true, not_true_eq_false, not_false_eq_true, true_or, or_true]
        have hf1 : fr (fun c j => c = 19 ∧ (j = 9 ∨ j = 10)) σ1 (sI (sI σ1 19 9 (gI σ1 19 9 + 1)) 19 10 r) := fr_sI (fr_sI fr_refl (by omega)) (by omega)
        have k10 : ∀ j : Nat, j < n + 1 → True := fun _ _ => trivial
        have i44 : ∀ a t, im xs (dlt c w l (n + 1)) a t → t < 44 := fun a t k => (im_44 hx (dlt_ok hc hl) k).2.2
        have iΔ : ∀ a t, im xs (dlt c w l (n + 1)) a t ↔ (im xs (dlt c w l n) a t ∨ im xs (fun c' u' => c' = c ∧ u' = 64 * w + n) a t) := fun a t => by rw [dlt_t hb]; exact im_or
        refine ⟨by decide, ⟨by omega, by omega⟩, ⟨by omega, by omega⟩, b2i_in _, fun hno => ⟨⟨by omega, by omega⟩, ⟨by omega, by omega⟩, ⟨by omega, by omega⟩, ?_⟩, fun hyes => ?_⟩
        · have hne : ¬ Hc 27 (sI (sI σ1 19 9 (gI σ1 19 9 + 1)) 19 10 r) (cdf xs c) (cdf xs (64 * w + n)) := fun k => by
            unfold Hc at k
            rw [gL_sI, gL_sI, hno] at k; cases k
          have one := HW_one (ro := 28) (oo := 29) (r := r) (s := s) hx hc hu (by decide) hne
          simp only [gL_sI] at one
          have one' := HW_trans hH (HW_fr0 one hf1 (fun j => by omega) (fun j => by omega) (fun j => by omega)) iΔ i44
          refine awl_19 hx hc hw hl hD h11 h12 hq d (n + 1) _ _ _ _ _ _ (by omega) one' ?_ (Or.inr ⟨?_, n, by omega, hb⟩) ?_
          · simp only [gI_sI, gL_sI, gD_sI, gI_sL, gL_sL, gD_sL, gI_sD, gL_sD, gD_sD, Nat.reduceEqDiff, Int.reduceEq, reduceCtorEq, false_and, and_false, and_self, if_true, if_false, not_false_eq_true, not_true_eq_false]; rw [h9, e9]; omega
          · simp only [gI_sI, gL_sI, gD_sI, gI_sL, gL_sL, gD_sL, gI_sD, gL_sD, gD_sD, Nat.reduceEqDiff, Int.reduceEq, reduceCtorEq, false_and, and_false, and_self, if_true, if_false, not_false_eq_true, not_true_eq_false]
          · exact fr_sI (fr_sI (fr_sL (fr_sI (fr_sI hf (by omega)) (by omega)) (by omega)) (by omega)) (by omega)
        · have one : HW 27 28 29 xs r s (fun c' u' => c' = c ∧ u' = 64 * w + n) (sI (sI σ1 19 9 (gI σ1 19 9 + 1)) 19 10 r) (sI (sI σ1 19 9 (gI σ1 19 9 + 1)) 19 10 r) := HW_refl (fun a t k => by
            obtain ⟨c', u', ⟨rfl, rfl⟩, rfl, rfl⟩ := k
            unfold Hc
            rw [gL_sI, gL_sI]
            cases q : (gL σ1 27 (cdf xs c')).getLsbD (cdf xs (64 * w + n)).toNat with
            | true => rfl
            | false => exact absurd q hyes)
          have one' := HW_trans hH (HW_fr0 one hf1 (fun j => by omega) (fun j => by omega) (fun j => by omega)) iΔ i44
          refine awl_19 hx hc hw hl hD h11 h12 hq d (n + 1) _ _ _ _ _ _ (by omega) one' ?_ (Or.inr ⟨?_, n, by omega, hb⟩) ?_
          · simp only [gI_sI, gL_sI, gD_sI, gI_sL, gL_sL, gD_sL, gI_sD, gL_sD, gD_sD, Nat.reduceEqDiff, Int.reduceEq, reduceCtorEq, false_and, and_false, and_self, if_true, if_false, not_false_eq_true, not_true_eq_false]; rw [h9, e9]; omega
          · simp only [gI_sI, gL_sI, gD_sI, gI_sL, gL_sL, gD_sL, gI_sD, gL_sD, gD_sD, Nat.reduceEqDiff, Int.reduceEq, reduceCtorEq, false_and, and_false, and_self, if_true, if_false, not_false_eq_true, not_true_eq_false]
          · exact fr_sI (fr_sI hf (by omega)) (by omega)
      · have hb' : l.getLsbD n = false := by
          cases q : l.getLsbD n with
          | false => rfl
          | true => exact absurd q hb
        rw [if_neg hb] at e9
        simp only [x53_64_19, x53_71_19, x53_176_19, k173, hs6, b2i_0, hb', b2i_f, aft_l, aft_r, optL_s, optL_n, xgo_n, xgo_s, List.cons_append, List.nil_append, List.append_nil, true_and, and_true, Nat.sub_zero, Nat.zero_le, true_implies, false_implies, implies_true, not_true_eq_false, not_false_eq_true, true_or, or_true]
        refine ⟨by decide, ?_⟩
        refine awl_19 hx hc hw hl hD h11 h12 hq d (n + 1) _ _ _ _ _ _ (by omega) (by rw [dlt_f hb']; exact hH) (by rw [h9, e9]; omega) ?_ hf
        rcases h10 with ⟨e, h⟩ | ⟨e, j, hj, h⟩
        · refine Or.inl ⟨e, fun j hj => ?_⟩
          by_cases q : j = n
          · rw [q]; exact hb'
          · exact h j (by omega)
        · exact Or.inr ⟨e, j, by omega, h⟩
theorem k54_30 {c w : Int} : Call t 54 [vR 30, vI c, vI w] σ Q ↔ inR (c * 3 + w) ∧ Q (.inl (some (vL (rdL σ 34 (c * 3 + w))))) σ := by
  simp only [x54_0_30, x54_12_30, k97 (show lc 34 = 102 from rfl), aft_l, aft_r, optL_s, optL_n, xgo_n, xgo_s, List.cons_append, List.nil_append, List.append_nil, true_and, and_true, Nat.sub_zero, Nat.zero_le, true_implies, false_implies, implies_true, not_true_eq_false, not_false_eq_true, true_or, or_true]
theorem awl_30 {xs : List Int} {r s c w : Int} {l : BitVec 64} {σ0 : St} (hx : xok xs) (hc : vld xs c) (hw : 0 ≤ w ∧ w < 3) (hl : ∀ j : Nat, l.getLsbD j = true → vld xs (64 * w + j))
    (hD : CD 36 σ0 xs) (h11 : gI σ0 30 11 = r) (h12 : gI σ0 30 12 = s)
    (hq : ∀ σ', HW 38 39 40 xs r s (dlt c w l 64) σ0 σ' → gI σ' 30 9 = gI σ0 30 9 + pw l → ((gI σ' 30 10 = gI σ0 30 10 ∧ ∀ j : Nat, j < 64 → l.getLsbD j = false) ∨ (gI σ' 30 10 = r ∧ ∃ j : Nat, j < 64 ∧ l.getLsbD j = true)) → fr (fun c j => c = 38 ∨ c = 39 ∨ c = 40 ∨ (c = 30 ∧ (j = 9 ∨ j = 10))) σ0 σ' → Q (.inl none) σ') :
    ∀ (d n : Nat) (σ1 : St) (a1 a3 a4 a6 a9 : Option AV), n + d = 64 → HW 38 39 40 xs r s (dlt c w l n) σ0 σ1 → gI σ1 30 9 = gI σ0 30 9 + cn (fun j => l.getLsbD j.toNat) n → ((gI σ1 30 10 = gI σ0 30 10 ∧ ∀ j : Nat, j < n → l.getLsbD j = false) ∨ (gI σ1 30 10 = r ∧ ∃ j : Nat, j < n ∧ l.getLsbD j = true)) → fr (fun c j => c = 38 ∨ c = 39 ∨ c = 40 ∨ (c = 30 ∧ (j = 9 ∨ j = 10))) σ0 σ1 →
    wp t 53 47 [some (vR 30), a1, some (vI w), a3, a4, some (vL l), a6, some (vI (cdf xs c)), some (vI n), a9] [] σ1 Q
  | 0, n, σ1, a1, a3, a4, a6, a9, hd, hH, h9, h10, hf => by
    have e : n = 64 := by omega
    subst e
    rw [x53_47_30]
    refine ⟨⟨by omega, by omega⟩, fun h => by omega, fun _ => ?_⟩
    rw [x53_182_30]
    exact hq σ1 hH h9 h10 hf
  | d + 1, n, σ1, a1, a3, a4, a6, a9, hd, hH, h9, h10, hf => by
    have hs6 : sh6 (n : Int) = n := by rw [sh6_id (by omega) (by omega)]; omega
    rw [x53_47_30]
    refine ⟨⟨by omega, by omega⟩, fun _ => ?_, fun h => by omega⟩
    rw [x53_54_30]
    refine ⟨lCmp_in, fun h0 => ?_, fun h0 => ?_⟩
    · have hz : ∀ j : Nat, n ≤ j → l.getLsbD j = false := fun j hj => bb_shr0 (by rw [lCmp_eq, hs6] at h0; exact h0) hj
      have hh : dlt c w l 64 = dlt c w l n := by
        funext c' u'
        apply propext
        unfold dlt
        constructor
        · rintro ⟨e, g1, g2⟩
          refine ⟨e, ⟨g1.1, ?_⟩, g2⟩
          by_cases q : u' < 64 * w + n
          · exact q
          · rw [hz (u' - 64 * w).toNat (by omega)] at g2; cases g2
        · rintro ⟨e, g1, g2⟩
          exact ⟨e, ⟨g1.1, by omega⟩, g2⟩
      rw [x53_182_30]
      refine hq σ1 (by rw [hh]; exact hH) (by rw [h9, cn_sh (l := l) (n := n) (by omega) hz]) ?_ hf
      rcases h10 with ⟨e, h⟩ | ⟨e, j, hj, h⟩
      · refine Or.inl ⟨e, fun j hj => ?_⟩
        by_cases q : j < n
        · exact h j q
        · exact hz j (by omega)
      · exact Or.inr ⟨e, j, by omega, h⟩
    · have e9 := cn_succ (fun j => l.getLsbD j.toNat) n
      rw [Int.toNat_natCast] at e9
      by_cases hb : l.getLsbD n = true
      · have hu := hl n hb
        have r1 := cdf_rng hx hc
        have r2 := cdf_rng hx hu
        have hul : 64 * w + (n : Int) < 152 := by have := hu.2; have := hx.2; omega
        have hcd : ∀ τ, gI τ 36 (64 * w + n) = gI σ1 36 (64 * w + n) → rdI τ 36 (64 * w + n) = cdf xs (64 * w + n) := fun τ e => by
          rw [rdI_in (n := 152) rfl (by omega) (by omega), e, fr_I hf _ _ (by omega)]; exact hD _ hu
        have hcd1 := hcd σ1 rfl
        have s6 : sh6 (cdf xs (64 * w + n)) = (cdf xs (64 * w + n)).toNat := sh6_id r2.1 (by omega)
        have hrL : ∀ τ, rdL τ 38 (cdf xs c) = gL τ 38 (cdf xs c) := fun τ => rdL_in (n := 44) rfl r1.1 r1.2
        have hwO : ∀ τ v, wrO τ 38 (cdf xs c) v = sL τ 38 (cdf xs c) (gL τ 38 (cdf xs c) ||| v) := fun τ v => wrO_in (n := 44) rfl r1.1 r1.2
        have hwr : ∀ τ v, wrI τ 39 (cdf xs c * 44 + cdf xs (64 * w + n)) v = sI τ 39 (cdf xs c * 44 + cdf xs (64 * w + n)) v := fun τ v => wrI_in (n := 1936) rfl (by omega) (by omega)
        have hwo : ∀ τ v, wrI τ 40 (cdf xs c * 44 + cdf xs (64 * w + n)) v = sI τ 40 (cdf xs c * 44 + cdf xs (64 * w + n)) v := fun τ v => wrI_in (n := 1936) rfl (by omega) (by omega)
        have g11 : gI σ1 30 11 = r := (fr_I hf _ _ (by omega)).trans h11
        have g12 : gI σ1 30 12 = s := (fr_I hf _ _ (by omega)).trans h12
        rw [if_pos hb] at e9
        simp only [x53_0_30, x53_13_30, x53_34_30, x53_42_30, x53_54_30, x53_64_30, x53_71_30, x53_74_30, x53_88_30, x53_117_30, x53_122_30, x53_125_30, x53_138_30, x53_157_30, x53_176_30, x53_182_30, k173, k96 (show lc 36 = 101 from rfl), k97 (show lc 38 = 102 from rfl), k98 (show lc 39 = 101 from rfl), k98 (show lc 40 = 101 from rfl), k99 (show lc 38 = 102 from rfl), hs6, b2i_0, hb, b2i_t, hcd1, s6, hrL, hwO, hwr, hwo, gI_sI, gL_sI, gD_sI, gI_sL, gL_sL, gD_sL, gI_sD, gL_sD, gD_sD, Nat.reduceEqDiff, Int.reduceEq, reduceCtorEq, false_and, and_false, and_self, if_true, if_false, not_false_eq_true, not_true_eq_false, g11, g12, Bool.true_eq_false, aft_l, aft_r, optL_s, optL_n, xgo_n, xgo_s, List.cons_append, List.nil_append, List.append_nil, true_and, and_true, Nat.sub_zero, Nat.zero_le, true_implies, false_implies, implies_true, not_true_eq_false, not_false_eq_true, true_or, or_true]
        have hf1 : fr (fun c j => c = 30 ∧ (j = 9 ∨ j = 10)) σ1 (sI (sI σ1 30 9 (gI σ1 30 9 + 1)) 30 10 r) := fr_sI (fr_sI fr_refl (by omega)) (by omega)
        have k10 : ∀ j : Nat, j < n + 1 → True := fun _ _ => trivial
        have i44 : ∀ a t, im xs (dlt c w l (n + 1)) a t → t < 44 := fun a t k => (im_44 hx (dlt_ok hc hl) k).2.2
        have iΔ : ∀ a t, im xs (dlt c w l (n + 1)) a t ↔ (im xs (dlt c w l n) a t ∨ im xs (fun c' u' => c' = c ∧ u' = 64 * w + n) a t) := fun a t => by rw [dlt_t hb]; exact im_or
        refine ⟨by decide, ⟨by omega, by omega⟩, ⟨by omega, by omega⟩, b2i_in _, fun hno => ⟨⟨by omega, by omega⟩, ⟨by omega, by omega⟩, ⟨by omega, by omega⟩, ?_⟩, fun hyes => ?_⟩
        · have hne : ¬ Hc 38 (sI (sI σ1 30 9 (gI σ1 30 9 + 1)) 30 10 r) (cdf xs c) (cdf xs (64 * w + n)) := fun k => by
            unfold Hc at k
            rw [gL_sI, gL_sI, hno] at k; cases k
          have one := HW_one (ro := 39) (oo := 40) (r := r) (s := s) hx hc hu (by decide) hne
          simp only [gL_sI] at one
          have one' := HW_trans hH (HW_fr0 one hf1 (fun j => by omega) (fun j => by omega) (fun j => by omega)) iΔ i44
          refine awl_30 hx hc hw hl hD h11 h12 hq d (n + 1) _ _ _ _ _ _ (by omega) one' ?_ (Or.inr ⟨?_, n, by omega, hb⟩) ?_
          · simp only [gI_sI, gL_sI, gD_sI, gI_sL, gL_sL, gD_sL, gI_sD, gL_sD, gD_sD, Nat.reduceEqDiff, Int.reduceEq, reduceCtorEq, false_and, and_false, and_self, if_true, if_false, not_false_eq_true, not_true_eq_false]; rw [h9, e9]; omega
          · simp only [gI_sI, gL_sI, gD_sI, gI_sL, gL_sL, gD_sL, gI_sD, gL_sD, gD_sD, Nat.reduceEqDiff, Int.reduceEq, reduceCtorEq, false_and, and_false, and_self, if_true, if_false, not_false_eq_true, not_true_eq_false]
          · exact fr_sI (fr_sI (fr_sL (fr_sI (fr_sI hf (by omega)) (by omega)) (by omega)) (by omega)) (by omega)
        · have one : HW 38 39 40 xs r s (fun c' u' => c' = c ∧ u' = 64 * w + n) (sI (sI σ1 30 9 (gI σ1 30 9 + 1)) 30 10 r) (sI (sI σ1 30 9 (gI σ1 30 9 + 1)) 30 10 r) := HW_refl (fun a t k => by
            obtain ⟨c', u', ⟨rfl, rfl⟩, rfl, rfl⟩ := k
            unfold Hc
            rw [gL_sI, gL_sI]
            cases q : (gL σ1 38 (cdf xs c')).getLsbD (cdf xs (64 * w + n)).toNat with
            | true => rfl
            | false => exact absurd q hyes)
          have one' := HW_trans hH (HW_fr0 one hf1 (fun j => by omega) (fun j => by omega) (fun j => by omega)) iΔ i44
          refine awl_30 hx hc hw hl hD h11 h12 hq d (n + 1) _ _ _ _ _ _ (by omega) one' ?_ (Or.inr ⟨?_, n, by omega, hb⟩) ?_
          · simp only [gI_sI, gL_sI, gD_sI, gI_sL, gL_sL, gD_sL, gI_sD, gL_sD, gD_sD, Nat.reduceEqDiff, Int.reduceEq, reduceCtorEq, false_and, and_false, and_self, if_true, if_false, not_false_eq_true, not_true_eq_false]; rw [h9, e9]; omega
          · simp only [gI_sI, gL_sI, gD_sI, gI_sL, gL_sL, gD_sL, gI_sD, gL_sD, gD_sD, Nat.reduceEqDiff, Int.reduceEq, reduceCtorEq, false_and, and_false, and_self, if_true, if_false, not_false_eq_true, not_true_eq_false]
          · exact fr_sI (fr_sI hf (by omega)) (by omega)
      · have hb' : l.getLsbD n = false := by
          cases q : l.getLsbD n with
          | false => rfl
          | true => exact absurd q hb
        rw [if_neg hb] at e9
        simp only [x53_64_30, x53_71_30, x53_176_30, k173, hs6, b2i_0, hb', b2i_f, aft_l, aft_r, optL_s, optL_n, xgo_n, xgo_s, List.cons_append, List.nil_append, List.append_nil, true_and, and_true, Nat.sub_zero, Nat.zero_le, true_implies, false_implies, implies_true, not_true_eq_false, not_false_eq_true, true_or, or_true]
        refine ⟨by decide, ?_⟩
        refine awl_30 hx hc hw hl hD h11 h12 hq d (n + 1) _ _ _ _ _ _ (by omega) (by rw [dlt_f hb']; exact hH) (by rw [h9, e9]; omega) ?_ hf
        rcases h10 with ⟨e, h⟩ | ⟨e, j, hj, h⟩
        · refine Or.inl ⟨e, fun j hj => ?_⟩
          by_cases q : j = n
          · rw [q]; exact hb'
          · exact h j (by omega)
        · exact Or.inr ⟨e, j, by omega, h⟩
theorem frs_get (l g : BitVec 64) (j : Nat) : (l &&& (g ^^^ BitVec.ofInt 64 (-1))).getLsbD j = (l.getLsbD j && !g.getLsbD j) := by
  have e : BitVec.ofInt 64 (-1) = BitVec.allOnes 64 := by decide
  rw [BitVec.getLsbD_and, BitVec.getLsbD_xor, e, BitVec.getLsbD_allOnes]
  by_cases h : j < 64
  · simp [h]
  · rw [BitVec.getLsbD_of_ge l j (by omega)]; rfl
theorem AW_word {b g h ro oo cd : Nat} {xs : List Int} {r s c w : Int} {l l' : BitVec 64} {σ σ' : St} (hbg : b ≠ g) (hcr : 0 ≤ c ∧ c < 152) (hw : 0 ≤ w ∧ w < 3) (hWP : WP b g h cd xs r s σ) (hl : ∀ j : Nat, l.getLsbD j = true → vld xs (64 * w + j))
    (hle : l' = l &&& (gL σ g (c * 3 + w) ^^^ BitVec.ofInt 64 (-1))) (hgh : g ≠ h ∧ g ≠ ro ∧ g ≠ oo)
    (h1 : HW h ro oo xs r s (dlt c w l' 64) (sL σ g (c * 3 + w) (gL σ g (c * 3 + w) ||| l')) σ') (h2 : gI σ' b 9 = gI σ b 9 + pw l') (h3 : (gI σ' b 10 = gI σ b 10 ∧ ∀ j : Nat, j < 64 → l'.getLsbD j = false) ∨ (gI σ' b 10 = r ∧ ∃ j : Nat, j < 64 ∧ l'.getLsbD j = true))
    (h4 : fr (fun c j => c = h ∨ c = ro ∨ c = oo ∨ (c = b ∧ (j = 9 ∨ j = 10))) (sL σ g (c * 3 + w) (gL σ g (c * 3 + w) ||| l')) σ') : AW 0 b g h ro oo xs r s (dlt c w l 64) σ σ' := by
  have lg : ∀ j, l'.getLsbD j = (l.getLsbD j && !(gL σ g (c * 3 + w)).getLsbD j) := fun j => by rw [hle]; exact frs_get _ _ _
  have hf0 : fr (fun c _ => c = g) σ (sL σ g (c * 3 + w) (gL σ g (c * 3 + w) ||| l')) := fr_sL fr_refl rfl
  have eg : ∀ i, gL σ' g i = if i = c * 3 + w then gL σ g (c * 3 + w) ||| l' else gL σ g i := fun i => by
    rw [fr_L h4 g i (fun e => by
      rcases e with e | e | e | e
      · exact hgh.1 e
      · exact hgh.2.1 e
      · exact hgh.2.2 e
      · exact hbg e.1.symm), gL_sL]
    by_cases q : i = c * 3 + w
    · rw [if_pos ⟨rfl, q⟩, if_pos q]
    · rw [if_neg (fun k => q k.2), if_neg q]
  have hb : ∀ c' u', 0 ≤ c' → c' < 152 → 0 ≤ u' → u' < 192 → (bt (gL σ' g) c' u' = true ↔ (bt (gL σ g) c' u' = true ∨ dlt c w l' 64 c' u')) := fun c' u' c0 c1 u0 u1 => by
    unfold bt
    rw [eg]
    by_cases q : 3 * c' + u' / 64 = c * 3 + w
    · have e1 : c' = c := by omega
      have e2 : u' / 64 = w := by omega
      rw [if_pos q, BitVec.getLsbD_or, Bool.or_eq_true, q]
      unfold dlt
      rw [show (u' - 64 * w).toNat = (u' % 64).toNat by omega]
      constructor
      · rintro (k | k)
        · exact Or.inl k
        · exact Or.inr ⟨e1, ⟨by omega, by omega⟩, k⟩
      · rintro (k | k)
        · exact Or.inl k
        · exact Or.inr k.2.2
    · rw [if_neg q]
      exact ⟨Or.inl, fun k => k.resolve_right (fun ⟨e1, e2, _⟩ => q (by omega))⟩
  have dsub : ∀ c' u', dlt c w l' 64 c' u' → dlt c w l 64 c' u' := fun c' u' ⟨e, k1, k2⟩ => by
    rw [lg, Bool.and_eq_true] at k2; exact ⟨e, k1, k2.1⟩
  have dsup : ∀ c' u', dlt c w l 64 c' u' → Gc g σ c' u' ∨ dlt c w l' 64 c' u' := fun c' u' ⟨e, k1, k2⟩ => by
    cases q : (gL σ g (c * 3 + w)).getLsbD (u' - 64 * w).toNat with
    | false => exact Or.inr ⟨e, k1, by rw [lg, k2, q]; rfl⟩
    | true =>
      refine Or.inl ⟨by omega, by omega, ?_⟩
      unfold bt
      rw [e, show 3 * c + u' / 64 = c * 3 + w by omega, show (u' % 64).toNat = (u' - 64 * w).toNat by omega]
      exact q
  refine ⟨fun c' u' => ?_, ?_, ?_, ?_, ?_⟩
  · constructor
    · rintro ⟨k1, k2, k3⟩
      rcases (hb c' u' k1.1 k1.2 k2.1 k2.2).mp k3 with q | q
      · exact Or.inl ⟨k1, k2, q⟩
      · exact Or.inr (dsub c' u' q)
    · rintro (⟨k1, k2, k3⟩ | k)
      · exact ⟨k1, k2, (hb c' u' k1.1 k1.2 k2.1 k2.2).mpr (Or.inl k3)⟩
      · have hc' : c' = c := k.1
        have hu' := k.2.1
        have e1 : 0 ≤ c' ∧ c' < 152 := by rw [hc']; exact hcr
        refine ⟨e1, by omega, (hb c' u' e1.1 e1.2 (by omega) (by omega)).mpr ?_⟩
        rcases dsup c' u' k with q | q
        · exact Or.inl q.2.2
        · exact Or.inr q
  · have h5 := HW_fr0 h1 hf0 (fun j => fun e => hgh.1 e.symm) (fun j => fun e => hgh.2.1 e.symm) (fun j => fun e => hgh.2.2 e.symm)
    intro a t a0 a1 t0 t1
    obtain ⟨p1, p2⟩ := h5 a t a0 a1 t0 t1
    refine ⟨p1, fun k => ⟨fun m => ?_, fun m => ?_⟩⟩
    · obtain ⟨c', u', d, e1, e2⟩ := m
      rcases dsup c' u' d with q | q
      · have := (hWP.2.1 c' u' q).2.2
        rw [e1, e2] at this; exact absurd this k
      · exact (p2 k).1 ⟨c', u', q, e1, e2⟩
    · exact (p2 k).2 (fun ⟨c', u', d, e⟩ => m ⟨c', u', dsub c' u' d, e⟩)
  · have e5 : fpop (gL σ' g) = fpop (gL σ g) + pw l' := by
      unfold fpop
      have : pw (gL σ' g (c * 3 + w)) = pw (gL σ g (c * 3 + w)) + pw l' := by
        rw [eg, if_pos rfl]
        exact pw_or (fun j ⟨k1, k2⟩ => by rw [lg, k1, Bool.not_true, Bool.and_false] at k2; cases k2)
      rw [fsum_upd (F := gL σ g) (F' := gL σ' g) (k := c * 3 + w) (n := 456) (by omega) (by omega) (fun j hj => by rw [eg, if_neg hj]), this]
      omega
    omega
  · rcases h3 with ⟨e, k⟩ | ⟨e, j, hj, k⟩
    · refine Or.inl ⟨e, fun c' u' d => ?_⟩
      rcases dsup c' u' d with q | ⟨_, q1, q2⟩
      · exact q
      · rw [k _ (by omega)] at q2; cases q2
    · refine Or.inr ⟨e, c, 64 * w + j, dsub _ _ ⟨rfl, ⟨by omega, by omega⟩, by rw [show (64 * w + (j : Int) - 64 * w).toNat = j by omega]; exact k⟩, fun ⟨_, _, q⟩ => ?_⟩
      unfold bt at q
      rw [show 3 * c + (64 * w + (j : Int)) / 64 = c * 3 + w by omega, show ((64 * w + (j : Int)) % 64).toNat = j by omega] at q
      rw [lg, q, Bool.not_true, Bool.and_false] at k; cases k
  · exact fr_trans (fr_mono hf0 (fun c j e => Or.inl e)) (fr_mono h4 (fun c j e => by omega))
theorem vld_152 {xs : List Int} (hx : xok xs) {c : Int} (h : vld xs c) : 0 ≤ c ∧ c < 152 := by
  have := h.1; have := h.2; have := hx.2; omega
/-- Inclusion.addWord -/
theorem c53_19 {xs : List Int} {r s c w : Int} {l : BitVec 64} (hx : xok xs) (hWP : WP 19 24 27 25 xs r s σ) (hc : vld xs c) (hw : 0 ≤ w ∧ w < 3) (hl : ∀ j : Nat, l.getLsbD j = true → vld xs (64 * w + j))
    (hq : ∀ σ', AW 0 19 24 27 28 29 xs r s (dlt c w l 64) σ σ' → WP 19 24 27 25 xs r s σ' → Q (.inl none) σ') : Call t 53 [vR 19, vI c, vI w, vL l] σ Q := by
  have hc2 := vld_152 hx hc
  have hrL : rdL σ 24 (c * 3 + w) = gL σ 24 (c * 3 + w) := rdL_in (n := 456) rfl (by omega) (by omega)
  have hwO : ∀ v, wrO σ 24 (c * 3 + w) v = sL σ 24 (c * 3 + w) (gL σ 24 (c * 3 + w) ||| v) := fun v => wrO_in (n := 456) rfl (by omega) (by omega)
  have hcd : ∀ v, rdI (sL σ 24 (c * 3 + w) v) 25 c = cdf xs c := fun v => by
    rw [rdI_in (n := 152) rfl hc2.1 hc2.2, gI_sL]; exact hWP.1 c hc
  simp only [x53_0_19, x53_13_19, x53_34_19, x53_42_19, k97 (show lc 24 = 102 from rfl), k99 (show lc 24 = 102 from rfl), k96 (show lc 25 = 101 from rfl), hrL, hwO, hcd, aft_l, aft_r, optL_s, optL_n, xgo_n, xgo_s, List.cons_append, List.nil_append, List.append_nil, true_and, and_true, Nat.sub_zero, Nat.zero_le, true_implies, false_implies, implies_true, not_true_eq_false, not_false_eq_true, true_or, or_true]
  refine ⟨⟨by omega, by omega⟩, ⟨by omega, by omega⟩, ⟨by omega, by omega⟩, ?_⟩
  have hl' : ∀ j : Nat, (l &&& (gL σ 24 (c * 3 + w) ^^^ BitVec.ofInt 64 (-1))).getLsbD j = true → vld xs (64 * w + j) := fun j hj => by
    rw [frs_get, Bool.and_eq_true] at hj; exact hl j hj.1
  have hf0 : fr (fun c _ => c = 24) σ (sL σ 24 (c * 3 + w) (gL σ 24 (c * 3 + w) ||| (l &&& (gL σ 24 (c * 3 + w) ^^^ BitVec.ofInt 64 (-1))))) := fr_sL fr_refl rfl
  refine awl_19 (r := r) (s := s) (σ0 := sL σ 24 (c * 3 + w) (gL σ 24 (c * 3 + w) ||| (l &&& (gL σ 24 (c * 3 + w) ^^^ BitVec.ofInt 64 (-1))))) hx hc hw hl' (fun c' hc' => (fr_I hf0 _ _ (by omega)).trans (hWP.1 c' hc')) ((fr_I hf0 _ _ (by omega)).trans hWP.2.2.1) ((fr_I hf0 _ _ (by omega)).trans hWP.2.2.2) (fun σ' g1 g2 g3 g4 => ?_) 64 0 _ _ _ _ _ _ rfl ?_ ?_ ?_ fr_refl
  · have hA := AW_word (b := 19) (by decide) hc2 hw hWP hl rfl (by decide) g1 g2 g3 g4
    exact hq σ' hA (WP_AW hx (by decide) (by decide) (dlt_ok hc hl) hWP hA)
  · exact HW_refl (fun a t ⟨c', u', ⟨_, k, _⟩, _⟩ => by omega)
  · show _ = _ + 0
    rw [Int.add_zero]
  · exact Or.inl ⟨rfl, fun j hj => absurd hj (Nat.not_lt_zero j)⟩
/-- Inclusion.addWord -/
theorem c53_30 {xs : List Int} {r s c w : Int} {l : BitVec 64} (hx : xok xs) (hWP : WP 30 35 38 36 xs r s σ) (hc : vld xs c) (hw : 0 ≤ w ∧ w < 3) (hl : ∀ j : Nat, l.getLsbD j = true → vld xs (64 * w + j))
    (hq : ∀ σ', AW 0 30 35 38 39 40 xs r s (dlt c w l 64) σ σ' → WP 30 35 38 36 xs r s σ' → Q (.inl none) σ') : Call t 53 [vR 30, vI c, vI w, vL l] σ Q := by
  have hc2 := vld_152 hx hc
  have hrL : rdL σ 35 (c * 3 + w) = gL σ 35 (c * 3 + w) := rdL_in (n := 456) rfl (by omega) (by omega)
  have hwO : ∀ v, wrO σ 35 (c * 3 + w) v = sL σ 35 (c * 3 + w) (gL σ 35 (c * 3 + w) ||| v) := fun v => wrO_in (n := 456) rfl (by omega) (by omega)
  have hcd : ∀ v, rdI (sL σ 35 (c * 3 + w) v) 36 c = cdf xs c := fun v => by
    rw [rdI_in (n := 152) rfl hc2.1 hc2.2, gI_sL]; exact hWP.1 c hc
  simp only [x53_0_30, x53_13_30, x53_34_30, x53_42_30, k97 (show lc 35 = 102 from rfl), k99 (show lc 35 = 102 from rfl), k96 (show lc 36 = 101 from rfl), hrL, hwO, hcd, aft_l, aft_r, optL_s, optL_n, xgo_n, xgo_s, List.cons_append, List.nil_append, List.append_nil, true_and, and_true, Nat.sub_zero, Nat.zero_le, true_implies, false_implies, implies_true, not_true_eq_false, not_false_eq_true, true_or, or_true]
  refine ⟨⟨by omega, by omega⟩, ⟨by omega, by omega⟩, ⟨by omega, by omega⟩, ?_⟩
  have hl' : ∀ j : Nat, (l &&& (gL σ 35 (c * 3 + w) ^^^ BitVec.ofInt 64 (-1))).getLsbD j = true → vld xs (64 * w + j) := fun j hj => by
    rw [frs_get, Bool.and_eq_true] at hj; exact hl j hj.1
  have hf0 : fr (fun c _ => c = 35) σ (sL σ 35 (c * 3 + w) (gL σ 35 (c * 3 + w) ||| (l &&& (gL σ 35 (c * 3 + w) ^^^ BitVec.ofInt 64 (-1))))) := fr_sL fr_refl rfl
  refine awl_30 (r := r) (s := s) (σ0 := sL σ 35 (c * 3 + w) (gL σ 35 (c * 3 + w) ||| (l &&& (gL σ 35 (c * 3 + w) ^^^ BitVec.ofInt 64 (-1))))) hx hc hw hl' (fun c' hc' => (fr_I hf0 _ _ (by omega)).trans (hWP.1 c' hc')) ((fr_I hf0 _ _ (by omega)).trans hWP.2.2.1) ((fr_I hf0 _ _ (by omega)).trans hWP.2.2.2) (fun σ' g1 g2 g3 g4 => ?_) 64 0 _ _ _ _ _ _ rfl ?_ ?_ ?_ fr_refl
  · have hA := AW_word (b := 30) (by decide) hc2 hw hWP hl rfl (by decide) g1 g2 g3 g4
    exact hq σ' hA (WP_AW hx (by decide) (by decide) (dlt_ok hc hl) hWP hA)
  · exact HW_refl (fun a t ⟨c', u', ⟨_, k, _⟩, _⟩ => by omega)
  · show _ = _ + 0
    rw [Int.add_zero]
  · exact Or.inl ⟨rfl, fun j hj => absurd hj (Nat.not_lt_zero j)⟩
end CI2

