/-! the class's inclusion: what a statement brings -/
section CI3
variable {t : Nat} {σ : St} {Q : Res → St → Prop} {P : Pg}
theorem Gc_fr {M : Nat → Int → Prop} {k : Nat} {σ σ' : St} (hf : fr M σ σ') (h : ∀ j, ¬ M k j) : Gc k σ' = Gc k σ := by
  funext c u
  have e : gL σ' k = gL σ k := funext fun j => fr_L hf k j (h j)
  unfold Gc; rw [e]
theorem AW_pt {z b g h ro oo : Nat} {xs : List Int} {r s : Int} {Δ : Fa} {σ σp σ' : St} (hf : fr (fun c _ => c + 1 = h) σ σp) (hd : g + 1 ≠ h ∧ h + 1 ≠ h ∧ ro + 1 ≠ h ∧ oo + 1 ≠ h ∧ b + 1 ≠ h) (h1 : AW z b g h ro oo xs r s Δ σp σ') : AW 1 b g h ro oo xs r s Δ σ σ' := by
  obtain ⟨a1, a2, a3, a4, a5⟩ := h1
  have eG : Gc g σp = Gc g σ := Gc_fr hf (fun j => hd.1)
  have eL : gL σp g = gL σ g := funext fun j => fr_L hf g j hd.1
  rw [eG] at a1 a4
  rw [eL, fr_I hf b 9 hd.2.2.2.2] at a3
  rw [fr_I hf b 10 hd.2.2.2.2] at a4
  exact ⟨a1, HW_fr0 a2 hf (fun j => hd.2.1) (fun j => hd.2.2.1) (fun j => hd.2.2.2.1), a3, a4, fr_trans (fr_mono hf (fun c j e => Or.inr (Or.inl ⟨e, rfl⟩))) (fr_mono a5 (fun c j e => by omega))⟩
theorem WP_fr {b g h cd : Nat} {xs : List Int} {r s : Int} {M : Nat → Int → Prop} {σ σ' : St} (h1 : WP b g h cd xs r s σ) (hf : fr M σ σ') (m1 : ∀ j, ¬ M cd j) (m2 : ∀ j, ¬ M g j) (m3 : ∀ j, ¬ M h j) (m4 : ¬ M b 11) (m5 : ¬ M b 12) : WP b g h cd xs r s σ' :=
  ⟨fun c hc => (fr_I hf _ _ (m1 c)).trans (h1.1 c hc), fun c u k => by
    rw [Gc_fr hf m2] at k
    have := h1.2.1 c u k
    unfold Hc at *
    rw [fr_L hf _ _ (m3 _)]; exact this, (fr_I hf _ _ m4).trans h1.2.2.1, (fr_I hf _ _ m5).trans h1.2.2.2⟩
theorem kw_bt {k : Nat} {x w : Int} {j : Nat} (hj : j < 64) : (gL σ k (x * 3 + w)).getLsbD j = bt (gL σ k) x (64 * w + j) := by
  rw [bt_word hj, show 3 * x + w = x * 3 + w by omega]
theorem dlt_all {k : Nat} {c x w : Int} (hx : 0 ≤ x ∧ x < 152) (hw : 0 ≤ w ∧ w < 3) (c' u' : Int) : dlt c w (gL σ k (x * 3 + w)) 64 c' u' ↔ (c' = c ∧ (Gc k σ x u' ∧ (64 * w ≤ u' ∧ u' < 64 * w + 64))) := by
  unfold dlt Gc
  constructor
  · rintro ⟨e, h1, h2⟩
    rw [kw_bt (by omega), show (64 * w + ((u' - 64 * w).toNat : Int)) = u' by omega] at h2
    exact ⟨e, ⟨hx, ⟨by omega, by omega⟩, h2⟩, ⟨by omega, by omega⟩⟩
  · rintro ⟨e, ⟨_, _, h2⟩, h1⟩
    refine ⟨e, ⟨by omega, by omega⟩, ?_⟩
    rw [kw_bt (by omega), show (64 * w + ((u' - 64 * w).toNat : Int)) = u' by omega]
    exact h2
theorem k46 {x i : Int} (h0 : 0 ≤ x) (h1 : x ≤ 19) : Call t 46 [vI x, vI i] σ Q ↔ Q (.inl (some (vI (clo x i)))) σ := by
  simp only [x46_0, x46_5, x46_9, x46_20, aft_l, aft_r, optL_s, optL_n, xgo_n, xgo_s, List.cons_append, List.nil_append, List.append_nil, true_and, and_true, Nat.sub_zero, Nat.zero_le, true_implies, false_implies, implies_true, not_true_eq_false, not_false_eq_true, true_or, or_true]
  unfold clo
  by_cases c : x < 4
  · rw [if_pos c]; exact ⟨fun h => h.2.1 c, fun h => ⟨⟨by omega, by omega⟩, fun _ => h, fun k => absurd c k⟩⟩
  · rw [if_neg c]; exact ⟨fun h => (h.2.2 c).2, fun h => ⟨⟨by omega, by omega⟩, fun k => absurd k c, fun _ => ⟨⟨by omega, by omega⟩, h⟩⟩⟩
theorem m1_get : ∀ j, j < 64 → (BitVec.ofInt 64 7190235).getLsbD j = decide (j < 24 ∧ j % 3 + 1 ≤ 2) := by decide +kernel
theorem m2_get : ∀ j, j < 64 → (BitVec.ofInt 64 2396745).getLsbD j = decide (j < 24 ∧ j % 3 + 2 ≤ 2) := by decide +kernel
/-- shifted fields -/
theorem dlt_shift {xs : List Int} (hx : xok xs) {k : Nat} {c x o : Int} {m : BitVec 64} (hA : okF xs (Gc k σ)) (hxr : 0 ≤ x ∧ x < 152) (ho : 1 ≤ o ∧ o ≤ 2) (hm : ∀ j, j < 64 → m.getLsbD j = decide (j < 24 ∧ j % 3 + o.toNat ≤ 2)) (c' u' : Int) :
    dlt c 2 ((gL σ k (x * 3 + 2) &&& m) <<< sh6 o) 64 c' u' ↔ (c' = c ∧ ∃ y, Gc k σ x y ∧ (128 ≤ y ∧ ((y - 128) % 3 + o ≤ 2 ∧ u' = y + o))) := by
  have hs : sh6 o = o.toNat := sh6_id (by omega) (by omega)
  unfold dlt
  rw [hs]
  constructor
  · rintro ⟨e, h1, h2⟩
    refine ⟨e, u' - o, ?_⟩
    rw [BitVec.getLsbD_shiftLeft, Bool.and_eq_true, Bool.and_eq_true, decide_eq_true_eq, Bool.not_eq_true', decide_eq_false_iff_not, BitVec.getLsbD_and, Bool.and_eq_true] at h2
    obtain ⟨⟨g1, g2⟩, g3, g4⟩ := h2
    rw [hm _ (by omega), decide_eq_true_eq] at g4
    rw [kw_bt (by omega)] at g3
    have eu : 64 * 2 + (((u' - 64 * 2).toNat - o.toNat : Nat) : Int) = u' - o := by omega
    rw [eu] at g3
    exact ⟨⟨hxr, ⟨by omega, by omega⟩, g3⟩, by omega, by omega, by omega⟩
  · rintro ⟨e, y, hy, y0, y1, rfl⟩
    have hv := (hA _ _ hy).2
    have hv2 := vld_152 hx hv
    refine ⟨e, ⟨by omega, by omega⟩, ?_⟩
    rw [BitVec.getLsbD_shiftLeft, Bool.and_eq_true, Bool.and_eq_true, decide_eq_true_eq, Bool.not_eq_true', decide_eq_false_iff_not, BitVec.getLsbD_and, Bool.and_eq_true]
    refine ⟨⟨by omega, by omega⟩, ?_, ?_⟩
    · rw [kw_bt (by omega)]
      have eu : 64 * 2 + (((y + o - 64 * 2).toNat - o.toNat : Nat) : Int) = y := by omega
      rw [eu]; exact hy.2.2
    · rw [hm _ (by omega), decide_eq_true_eq]; omega
theorem bb_lt {l : BitVec 64} {j : Nat} (h : l.getLsbD j = true) : j < 64 := BitVec.lt_of_getLsbD h
theorem AWok_19 {z : Nat} {xs : List Int} {r s : Int} {Δ : Fa} {σ σ' : St} (hx : xok xs) (o : okF xs Δ) (h1 : WP 19 24 27 25 xs r s σ) (h2 : AW z 19 24 27 28 29 xs r s Δ σ σ') : WP 19 24 27 25 xs r s σ' := WP_AW hx (by decide) (by decide) o h1 h2
theorem AK_19 {z : Nat} {xs : List Int} {r s : Int} {Δ : Fa} {σ σ' : St} (h2 : AW z 19 24 27 28 29 xs r s Δ σ σ') : Gc 23 σ' = Gc 23 σ := Gc_fr h2.2.2.2.2 (fun j => by omega)
/-- Inclusion.add -/
theorem c51_19 {xs : List Int} {r s c u : Int} (hx : xok xs) (hWP : WP 19 24 27 25 xs r s σ) (hc : vld xs c) (hu : vld xs u)
    (hq : ∀ σ', AW 0 19 24 27 28 29 xs r s (fun c' u' => c' = c ∧ u' = u) σ σ' → WP 19 24 27 25 xs r s σ' → Q (.inl none) σ') : Call t 51 [vR 19, vI c, vI u] σ Q := by
  have hu2 := vld_152 hx hu
  have hs : sh6 u = (u % 64).toNat := by unfold sh6; rfl
  rw [x51_0_19, hs]
  refine ⟨⟨by omega, by omega⟩, c53_19 hx hWP hc (by omega) (fun j hj => ?_) (fun σ' h1 h2 => ?_)⟩
  · rw [bb_one (by omega), decide_eq_true_eq] at hj
    rw [hj, show 64 * (u / 64) + ((u % 64).toNat : Int) = u by omega]; exact hu
  · simp only [x51_12_19, aft_l, aft_r, optL_s, optL_n, xgo_n, xgo_s, List.cons_append, List.nil_append, List.append_nil, true_and, and_true, Nat.sub_zero, Nat.zero_le, true_implies, false_implies, implies_true, not_true_eq_false, not_false_eq_true, true_or, or_true]
    refine hq σ' (AW_congr (fun c' u' => ?_) h1) h2
    unfold dlt
    rw [bb_one (by omega), decide_eq_true_eq]
    constructor
    · rintro ⟨e, k1, k2⟩; exact ⟨e, by omega⟩
    · rintro ⟨e, k⟩; exact ⟨e, ⟨by omega, by omega⟩, by omega⟩
theorem aal_19 {xs : List Int} {r s c x : Int} (hx : xok xs) (hA : okF xs (Gc 23 σ)) (hc : vld xs c) (hxr : 0 ≤ x ∧ x < 152)
    (hq : ∀ σ', AW 0 19 24 27 28 29 xs r s (fun c' u' => c' = c ∧ Gc 23 σ x u') σ σ' → WP 19 24 27 25 xs r s σ' → Q (.inl none) σ') :
    ∀ (d : Nat) (w : Int) (σ1 : St), 0 ≤ w → w + d = 3 → AW 0 19 24 27 28 29 xs r s (fun c' u' => c' = c ∧ (Gc 23 σ x u' ∧ u' < 64 * w)) σ σ1 → WP 19 24 27 25 xs r s σ1 → wp t 52 2 [some (vR 19), some (vI c), some (vI x), some (vI w)] [] σ1 Q
  | 0, w, σ1, w0, hd, h1, h2 => by
    rw [x52_2_19]
    refine ⟨⟨by omega, by omega⟩, fun h => by omega, fun _ => ?_⟩
    rw [x52_25_19]
    refine hq σ1 (AW_congr (fun c' u' => ⟨fun k => ⟨k.1, k.2.1⟩, fun k => ⟨k.1, k.2, ?_⟩⟩) h1) h2
    have := k.2.2.1; omega
  | d + 1, w, σ1, w0, hd, h1, h2 => by
    have eK := AK_19 h1
    have eW : gL σ1 23 (x * 3 + w) = gL σ 23 (x * 3 + w) := fr_L h1.2.2.2.2 _ _ (by omega)
    have hr : rdL σ1 23 (x * 3 + w) = gL σ 23 (x * 3 + w) := by rw [rdL_in (n := 456) rfl (by omega) (by omega)]; exact eW
    rw [x52_2_19]
    refine ⟨⟨by omega, by omega⟩, fun _ => ?_, fun h => by omega⟩
    simp only [x52_7_19, k54_19, hr, x52_16_19, aft_l, aft_r, optL_s, optL_n, xgo_n, xgo_s, List.cons_append, List.nil_append, List.append_nil, true_and, and_true, Nat.sub_zero, Nat.zero_le, true_implies, false_implies, implies_true, not_true_eq_false, not_false_eq_true, true_or, or_true]
    refine ⟨⟨by omega, by omega⟩, c53_19 hx h2 hc (by omega) (fun j hj => ?_) (fun σ' g1 g2 => ?_)⟩
    · have hj2 := bb_lt hj
      rw [kw_bt hj2] at hj
      exact (hA x _ ⟨hxr, ⟨by omega, by omega⟩, hj⟩).2
    · simp only [x52_19_19, aft_l, aft_r, optL_s, optL_n, xgo_n, xgo_s, List.cons_append, List.nil_append, List.append_nil, true_and, and_true, Nat.sub_zero, Nat.zero_le, true_implies, false_implies, implies_true, not_true_eq_false, not_false_eq_true, true_or, or_true]
      refine aal_19 hx hA hc hxr hq d (w + 1) σ' (by omega) (by omega) (AW_congr (fun c' u' => ?_) (AW_trans hx ?_ ?_ h1 g1)) g2
      · rw [dlt_all hxr (by omega)]
        constructor
        · rintro (⟨e, k1, k2⟩ | ⟨e, k1, k2⟩)
          · exact ⟨e, k1, by omega⟩
          · exact ⟨e, k1, by omega⟩
        · rintro ⟨e, k1, k2⟩
          by_cases q : u' < 64 * w
          · exact Or.inl ⟨e, k1, q⟩
          · exact Or.inr ⟨e, k1, by omega, by omega⟩
      · exact fun c' u' k => ⟨k.1 ▸ hc, (hA _ _ k.2.1).2⟩
      · intro c' u' k
        rw [dlt_all hxr (by omega)] at k
        exact ⟨k.1 ▸ hc, (hA _ _ k.2.1).2⟩
/-- Inclusion.addAll -/
theorem c52_19 {xs : List Int} {r s c x : Int} (hx : xok xs) (hA : okF xs (Gc 23 σ)) (hWP : WP 19 24 27 25 xs r s σ) (hc : vld xs c) (hxr : 0 ≤ x ∧ x < 152)
    (hq : ∀ σ', AW 0 19 24 27 28 29 xs r s (fun c' u' => c' = c ∧ Gc 23 σ x u') σ σ' → WP 19 24 27 25 xs r s σ' → Q (.inl none) σ') : Call t 52 [vR 19, vI c, vI x] σ Q := by
  rw [x52_0_19]
  exact aal_19 hx hA hc hxr hq 3 0 σ (by omega) (by omega) (AW_refl (fun c' u' k => by have := k.2.1.2.1; omega)) hWP
theorem lpl_19 {c : Int} {xs : List Int} (hx : xok xs) (hA : okF xs (Gc 23 σ)) (hcr : 0 ≤ c ∧ c < 152) (hq : ∀ (σ' : St) (n : Int), 0 ≤ n → n ≤ 152 → fr (fun c' _ => c' = 26) σ σ' → (∀ i : Int, 0 ≤ i → i < n → Gc 23 σ c (gI σ' 26 i)) → (∀ x, Gc 23 σ c x → ∃ i : Int, 0 ≤ i ∧ i < n ∧ gI σ' 26 i = x) → Q (.inl (some (vI n))) σ') :
    ∀ (dw : Nat) (w n : Int) (σ1 : St) (a4 a5 a6 : Option AV), 0 ≤ w → w + dw = 3 → fr (fun c' _ => c' = 26) σ σ1 → 0 ≤ n → (n ≤ 64 * w ∧ n ≤ 152) → (∀ i : Int, 0 ≤ i → i < n → Gc 23 σ c (gI σ1 26 i)) → (∀ x, Gc 23 σ c x → x < 64 * w → ∃ i : Int, 0 ≤ i ∧ i < n ∧ gI σ1 26 i = x) → wp t 49 4 [some (vR 19), some (vI c), some (vI n), some (vI w), a4, a5, a6] [] σ1 Q
  | 0, w, n, σ1, a4, a5, a6, w0, hd, hf, n0, n1, h1, h2 => by
    rw [x49_4_19]
    refine ⟨⟨by omega, by omega⟩, fun h => by omega, fun _ => ?_⟩
    rw [x49_77_19]
    exact hq σ1 n n0 (by omega) hf h1 (fun x k => h2 x k (by have := k.2.1; omega))
  | dw + 1, w, n, σ1, a4, a5, a6, w0, hd, hf, n0, n1, h1, h2 => by
    have hr : ∀ τ, fr (fun c' _ => c' = 26) σ τ → rdL τ 23 (c * 3 + w) = gL σ 23 (c * 3 + w) := fun τ hτ => by rw [rdL_in (n := 456) rfl (by omega) (by omega)]; exact fr_L hτ _ _ (by omega)
    rw [x49_4_19]
    refine ⟨⟨by omega, by omega⟩, fun _ => ?_, fun h => by omega⟩
    simp only [x49_9_19, k54_19, hr σ1 hf, x49_15_19, aft_l, aft_r, optL_s, optL_n, xgo_n, xgo_s, List.cons_append, List.nil_append, List.append_nil, true_and, and_true, Nat.sub_zero, Nat.zero_le, true_implies, false_implies, implies_true, not_true_eq_false, not_false_eq_true, true_or, or_true]
    refine ⟨⟨by omega, by omega⟩, ?_⟩
    have loop : ∀ (d m : Nat) (n : Int) (σ1 : St) (a5 : Option AV), m + d = 64 → fr (fun c' _ => c' = 26) σ σ1 → 0 ≤ n → (n ≤ 64 * w + m ∧ n ≤ 152) → (∀ i : Int, 0 ≤ i → i < n → Gc 23 σ c (gI σ1 26 i)) → (∀ x, Gc 23 σ c x → x < 64 * w + m → ∃ i : Int, 0 ≤ i ∧ i < n ∧ gI σ1 26 i = x) →
        wp t 49 20 [some (vR 19), some (vI c), some (vI n), some (vI w), some (vL (gL σ 23 (c * 3 + w))), a5, some (vI m)] [] σ1 Q := by
      intro d
      induction d with
      | zero =>
        intro m n σ1 a5 hd' hf n0 n1 h1 h2
        rw [x49_20_19]
        refine ⟨⟨by omega, by omega⟩, fun h => by omega, fun _ => ?_⟩
        rw [x49_71_19]
        exact lpl_19 hx hA hcr hq dw (w + 1) n σ1 _ _ _ (by omega) (by omega) hf n0 (by omega) h1 (fun x k k2 => h2 x k (by omega))
      | succ d ih =>
        intro m n σ1 a5 hd' hf n0 n1 h1 h2
        have hs6 : sh6 (m : Int) = m := by rw [sh6_id (by omega) (by omega)]; omega
        have hbit : (gL σ 23 (c * 3 + w)).getLsbD m = true ↔ Gc 23 σ c (64 * w + m) := by
          rw [kw_bt (by omega)]
          exact ⟨fun k => ⟨hcr, ⟨by omega, by omega⟩, k⟩, fun k => k.2.2⟩
        rw [x49_20_19]
        refine ⟨⟨by omega, by omega⟩, fun _ => ?_, fun h => by omega⟩
        rw [x49_27_19]
        refine ⟨lCmp_in, fun h0 => ?_, fun h0 => ?_⟩
        · have hz : ∀ j : Nat, m ≤ j → (gL σ 23 (c * 3 + w)).getLsbD j = false := fun j hj => bb_shr0 (by rw [lCmp_eq, hs6] at h0; exact h0) hj
          rw [x49_71_19]
          refine lpl_19 hx hA hcr hq dw (w + 1) n σ1 _ _ _ (by omega) (by omega) hf n0 (by omega) h1 (fun x k k2 => ?_)
          by_cases q : x < 64 * w + m
          · exact h2 x k q
          · have := hz (x - 64 * w).toNat (by omega)
            rw [kw_bt (by omega), show 64 * w + ((x - 64 * w).toNat : Int) = x by omega, k.2.2] at this
            cases this
        · by_cases hb : (gL σ 23 (c * 3 + w)).getLsbD m = true
          · have hv := vld_152 hx (hA _ _ (hbit.mp hb)).2
            have w1 : ∀ v, wrI σ1 26 n v = sI σ1 26 n v := fun v => wrI_in (n := 152) rfl n0 (by omega)
            simp only [x49_37_19, x49_44_19, x49_47_19, x49_62_19, x49_65_19, k173, hs6, hb, b2i_t, k98 (show lc 26 = 101 from rfl), w1, aft_l, aft_r, optL_s, optL_n, xgo_n, xgo_s, List.cons_append, List.nil_append, List.append_nil, true_and, and_true, Nat.sub_zero, Nat.zero_le, true_implies, false_implies, implies_true, not_true_eq_false, not_false_eq_true, true_or, or_true]
            refine ⟨by decide, fun h => absurd h (by decide), fun _ => ⟨⟨by omega, by omega⟩, ?_⟩⟩
            refine ih (m + 1) (n + 1) _ _ (by omega) (fr_sI hf rfl) (by omega) (by omega) (fun i i0 i1 => ?_) (fun x k k2 => ?_)
            · rw [gI_sI]
              by_cases q : i = n
              · rw [if_pos ⟨rfl, q⟩]; exact hbit.mp hb
              · rw [if_neg (fun g => q g.2)]; exact h1 i i0 (by omega)
            · by_cases q : x = 64 * w + m
              · exact ⟨n, n0, by omega, by rw [gI_sI, if_pos ⟨rfl, rfl⟩, q]⟩
              · obtain ⟨i, i0, i1, e⟩ := h2 x k (by omega)
                exact ⟨i, i0, by omega, by rw [gI_sI, if_neg (by omega)]; exact e⟩
          · have hb' : (gL σ 23 (c * 3 + w)).getLsbD m = false := by
              cases q : (gL σ 23 (c * 3 + w)).getLsbD m with
              | false => rfl
              | true => exact absurd q hb
            simp only [x49_37_19, x49_44_19, x49_65_19, k173, hs6, hb', b2i_f, aft_l, aft_r, optL_s, optL_n, xgo_n, xgo_s, List.cons_append, List.nil_append, List.append_nil, true_and, and_true, Nat.sub_zero, Nat.zero_le, true_implies, false_implies, implies_true, not_true_eq_false, not_false_eq_true, true_or, or_true]
            refine ⟨by decide, ?_⟩
            refine ih (m + 1) n _ _ (by omega) hf n0 (by omega) h1 (fun x k k2 => h2 x k ?_)
            by_cases q : x = 64 * w + m
            · rw [q] at k; exact absurd (hbit.mpr k) hb
            · omega
    exact loop 64 0 n σ1 _ rfl hf n0 (by omega) h1 (fun x k k2 => h2 x k (by omega))
/-- Inclusion.listPointees -/
theorem c49_19 {c : Int} {xs : List Int} (hx : xok xs) (hA : okF xs (Gc 23 σ)) (hcr : 0 ≤ c ∧ c < 152) (hq : ∀ (σ' : St) (n : Int), 0 ≤ n → n ≤ 152 → fr (fun c' _ => c' = 26) σ σ' → (∀ i : Int, 0 ≤ i → i < n → Gc 23 σ c (gI σ' 26 i)) → (∀ x, Gc 23 σ c x → ∃ i : Int, 0 ≤ i ∧ i < n ∧ gI σ' 26 i = x) → Q (.inl (some (vI n))) σ') : Call t 49 [vR 19, vI c] σ Q := by
  rw [x49_0_19]
  exact lpl_19 hx hA hcr hq 3 0 0 σ _ _ _ (by omega) (by omega) fr_refl (by omega) (by omega) (fun i i0 i1 => by omega) (fun x k k2 => by have := k.2.1; omega)
theorem AWok_30 {z : Nat} {xs : List Int} {r s : Int} {Δ : Fa} {σ σ' : St} (hx : xok xs) (o : okF xs Δ) (h1 : WP 30 35 38 36 xs r s σ) (h2 : AW z 30 35 38 39 40 xs r s Δ σ σ') : WP 30 35 38 36 xs r s σ' := WP_AW hx (by decide) (by decide) o h1 h2
theorem AK_30 {z : Nat} {xs : List Int} {r s : Int} {Δ : Fa} {σ σ' : St} (h2 : AW z 30 35 38 39 40 xs r s Δ σ σ') : Gc 34 σ' = Gc 34 σ := Gc_fr h2.2.2.2.2 (fun j => by omega)
/-- Inclusion.add -/
theorem c51_30 {xs : List Int} {r s c u : Int} (hx : xok xs) (hWP : WP 30 35 38 36 xs r s σ) (hc : vld xs c) (hu : vld xs u)
    (hq : ∀ σ', AW 0 30 35 38 39 40 xs r s (fun c' u' => c' = c ∧ u' = u) σ σ' → WP 30 35 38 36 xs r s σ' → Q (.inl none) σ') : Call t 51 [vR 30, vI c, vI u] σ Q := by
  have hu2 := vld_152 hx hu
  have hs : sh6 u = (u % 64).toNat := by unfold sh6; rfl
  rw [x51_0_30, hs]
  refine ⟨⟨by omega, by omega⟩, c53_30 hx hWP hc (by omega) (fun j hj => ?_) (fun σ' h1 h2 => ?_)⟩
  · rw [bb_one (by omega), decide_eq_true_eq] at hj
    rw [hj, show 64 * (u / 64) + ((u % 64).toNat : Int) = u by omega]; exact hu
  · simp only [x51_12_30, aft_l, aft_r, optL_s, optL_n, xgo_n, xgo_s, List.cons_append, List.nil_append, List.append_nil, true_and, and_true, Nat.sub_zero, Nat.zero_le, true_implies, false_implies, implies_true, not_true_eq_false, not_false_eq_true, true_or, or_true]
    refine hq σ' (AW_congr (fun c' u' => ?_) h1) h2
    unfold dlt
    rw [bb_one (by omega), decide_eq_true_eq]
    constructor
    · rintro ⟨e, k1, k2⟩; exact ⟨e, by omega⟩
    · rintro ⟨e, k⟩; exact ⟨e, ⟨by omega, by omega⟩, by omega⟩
theorem aal_30 {xs : List Int} {r s c x : Int} (hx : xok xs) (hA : okF xs (Gc 34 σ)) (hc : vld xs c) (hxr : 0 ≤ x ∧ x < 152)
    (hq : ∀ σ', AW 0 30 35 38 39 40 xs r s (fun c' u' => c' = c ∧ Gc 34 σ x u') σ σ' → WP 30 35 38 36 xs r s σ' → Q (.inl none) σ') :
    ∀ (d : Nat) (w : Int) (σ1 : St), 0 ≤ w → w + d = 3 → AW 0 30 35 38 39 40 xs r s (fun c' u' => c' = c ∧ (Gc 34 σ x u' ∧ u' < 64 * w)) σ σ1 → WP 30 35 38 36 xs r s σ1 → wp t 52 2 [some (vR 30), some (vI c), some (vI x), some (vI w)] [] σ1 Q
  | 0, w, σ1, w0, hd, h1, h2 => by
    rw [x52_2_30]
    refine ⟨⟨by omega, by omega⟩, fun h => by omega, fun _ => ?_⟩
    rw [x52_25_30]
    refine hq σ1 (AW_congr (fun c' u' => ⟨fun k => ⟨k.1, k.2.1⟩, fun k => ⟨k.1, k.2, ?_⟩⟩) h1) h2
    have := k.2.2.1; omega
  | d + 1, w, σ1, w0, hd, h1, h2 => by
    have eK := AK_30 h1
    have eW : gL σ1 34 (x * 3 + w) = gL σ 34 (x * 3 + w) := fr_L h1.2.2.2.2 _ _ (by omega)
    have hr : rdL σ1 34 (x * 3 + w) = gL σ 34 (x * 3 + w) := by rw [rdL_in (n := 456) rfl (by omega) (by omega)]; exact eW
    rw [x52_2_30]
    refine ⟨⟨by omega, by omega⟩, fun _ => ?_, fun h => by omega⟩
    simp only [x52_7_30, k54_30, hr, x52_16_30, aft_l, aft_r, optL_s, optL_n, xgo_n, xgo_s, List.cons_append, List.nil_append, List.append_nil, true_and, and_true, Nat.sub_zero, Nat.zero_le, true_implies, false_implies, implies_true, not_true_eq_false, not_false_eq_true, true_or, or_true]
    refine ⟨⟨by omega, by omega⟩, c53_30 hx h2 hc (by omega) (fun j hj => ?_) (fun σ' g1 g2 => ?_)⟩
    · have hj2 := bb_lt hj
      rw [kw_bt hj2] at hj
      exact (hA x _ ⟨hxr, ⟨by omega, by omega⟩, hj⟩).2
    · simp only [x52_19_30, aft_l, aft_r, optL_s, optL_n, xgo_n, xgo_s, List.cons_append, List.nil_append, List.append_nil, true_and, and_true, Nat.sub_zero, Nat.zero_le, true_implies, false_implies, implies_true, not_true_eq_false, not_false_eq_true, true_or, or_true]
      refine aal_30 hx hA hc hxr hq d (w + 1) σ' (by omega) (by omega) (AW_congr (fun c' u' => ?_) (AW_trans hx ?_ ?_ h1 g1)) g2
      · rw [dlt_all hxr (by omega)]
        constructor
        · rintro (⟨e, k1, k2⟩ | ⟨e, k1, k2⟩)
          · exact ⟨e, k1, by omega⟩
          · exact ⟨e, k1, by omega⟩
        · rintro ⟨e, k1, k2⟩
          by_cases q : u' < 64 * w
          · exact Or.inl ⟨e, k1, q⟩
          · exact Or.inr ⟨e, k1, by omega, by omega⟩
      · exact fun c' u' k => ⟨k.1 ▸ hc, (hA _ _ k.2.1).2⟩
      · intro c' u' k
        rw [dlt_all hxr (by omega)] at k
        exact ⟨k.1 ▸ hc, (hA _ _ k.2.1).2⟩
/-- Inclusion.addAll -/
theorem c52_30 {xs : List Int} {r s c x : Int} (hx : xok xs) (hA : okF xs (Gc 34 σ)) (hWP : WP 30 35 38 36 xs r s σ) (hc : vld xs c) (hxr : 0 ≤ x ∧ x < 152)
    (hq : ∀ σ', AW 0 30 35 38 39 40 xs r s (fun c' u' => c' = c ∧ Gc 34 σ x u') σ σ' → WP 30 35 38 36 xs r s σ' → Q (.inl none) σ') : Call t 52 [vR 30, vI c, vI x] σ Q := by
  rw [x52_0_30]
  exact aal_30 hx hA hc hxr hq 3 0 σ (by omega) (by omega) (AW_refl (fun c' u' k => by have := k.2.1.2.1; omega)) hWP
theorem lpl_30 {c : Int} {xs : List Int} (hx : xok xs) (hA : okF xs (Gc 34 σ)) (hcr : 0 ≤ c ∧ c < 152) (hq : ∀ (σ' : St) (n : Int), 0 ≤ n → n ≤ 152 → fr (fun c' _ => c' = 37) σ σ' → (∀ i : Int, 0 ≤ i → i < n → Gc 34 σ c (gI σ' 37 i)) → (∀ x, Gc 34 σ c x → ∃ i : Int, 0 ≤ i ∧ i < n ∧ gI σ' 37 i = x) → Q (.inl (some (vI n))) σ') :
    ∀ (dw : Nat) (w n : Int) (σ1 : St) (a4 a5 a6 : Option AV), 0 ≤ w → w + dw = 3 → fr (fun c' _ => c' = 37) σ σ1 → 0 ≤ n → (n ≤ 64 * w ∧ n ≤ 152) → (∀ i : Int, 0 ≤ i → i < n → Gc 34 σ c (gI σ1 37 i)) → (∀ x, Gc 34 σ c x → x < 64 * w → ∃ i : Int, 0 ≤ i ∧ i < n ∧ gI σ1 37 i = x) → wp t 49 4 [some (vR 30), some (vI c), some (vI n), some (vI w), a4, a5, a6] [] σ1 Q
  | 0, w, n, σ1, a4, a5, a6, w0, hd, hf, n0, n1, h1, h2 => by
    rw [x49_4_30]
    refine ⟨⟨by omega, by omega⟩, fun h => by omega, fun _ => ?_⟩
    rw [x49_77_30]
    exact hq σ1 n n0 (by omega) hf h1 (fun x k => h2 x k (by have := k.2.1; omega))
  | dw + 1, w, n, σ1, a4, a5, a6, w0, hd, hf, n0, n1, h1, h2 => by
    have hr : ∀ τ, fr (fun c' _ => c' = 37) σ τ → rdL τ 34 (c * 3 + w) = gL σ 34 (c * 3 + w) := fun τ hτ => by rw [rdL_in (n := 456) rfl (by omega) (by omega)]; exact fr_L hτ _ _ (by omega)
    rw [x49_4_30]
    refine ⟨⟨by omega, by omega⟩, fun _ => ?_, fun h => by omega⟩
    simp only [x49_9_30, k54_30, hr σ1 hf, x49_15_30, aft_l, aft_r, optL_s, optL_n, xgo_n, xgo_s, List.cons_append, List.nil_append, List.append_nil, true_and, and_true, Nat.sub_zero, Nat.zero_le, true_implies, false_implies, implies_true, not_true_eq_false, not_false_eq_true, true_or, or_true]
    refine ⟨⟨by omega, by omega⟩, ?_⟩
    have loop : ∀ (d m : Nat) (n : Int) (σ1 : St) (a5 : Option AV), m + d = 64 → fr (fun c' _ => c' = 37) σ σ1 → 0 ≤ n → (n ≤ 64 * w + m ∧ n ≤ 152) → (∀ i : Int, 0 ≤ i → i < n → Gc 34 σ c (gI σ1 37 i)) → (∀ x, Gc 34 σ c x → x < 64 * w + m → ∃ i : Int, 0 ≤ i ∧ i < n ∧ gI σ1 37 i = x) →
        wp t 49 20 [some (vR 30), some (vI c), some (vI n), some (vI w), some (vL (gL σ 34 (c * 3 + w))), a5, some (vI m)] [] σ1 Q := by
      intro d
      induction d with
      | zero =>
        intro m n σ1 a5 hd' hf n0 n1 h1 h2
        rw [x49_20_30]
        refine ⟨⟨by omega, by omega⟩, fun h => by omega, fun _ => ?_⟩
        rw [x49_71_30]
        exact lpl_30 hx hA hcr hq dw (w + 1) n σ1 _ _ _ (by omega) (by omega) hf n0 (by omega) h1 (fun x k k2 => h2 x k (by omega))
      | succ d ih =>
        intro m n σ1 a5 hd' hf n0 n1 h1 h2
        have hs6 : sh6 (m : Int) = m := by rw [sh6_id (by omega) (by omega)]; omega
        have hbit : (gL σ 34 (c * 3 + w)).getLsbD m = true ↔ Gc 34 σ c (64 * w + m) := by
          rw [kw_bt (by omega)]
          exact ⟨fun k => ⟨hcr, ⟨by omega, by omega⟩, k⟩, fun k => k.2.2⟩
        rw [x49_20_30]
        refine ⟨⟨by omega, by omega⟩, fun _ => ?_, fun h => by omega⟩
        rw [x49_27_30]
        refine ⟨lCmp_in, fun h0 => ?_, fun h0 => ?_⟩
        · have hz : ∀ j : Nat, m ≤ j → (gL σ 34 (c * 3 + w)).getLsbD j = false := fun j hj => bb_shr0 (by rw [lCmp_eq, hs6] at h0; exact h0) hj
          rw [x49_71_30]
          refine lpl_30 hx hA hcr hq dw (w + 1) n σ1 _ _ _ (by omega) (by omega) hf n0 (by omega) h1 (fun x k k2 => ?_)
          by_cases q : x < 64 * w + m
          · exact h2 x k q
          · have := hz (x - 64 * w).toNat (by omega)
            rw [kw_bt (by omega), show 64 * w + ((x - 64 * w).toNat : Int) = x by omega, k.2.2] at this
            cases this
        · by_cases hb : (gL σ 34 (c * 3 + w)).getLsbD m = true
          · have hv := vld_152 hx (hA _ _ (hbit.mp hb)).2
            have w1 : ∀ v, wrI σ1 37 n v = sI σ1 37 n v := fun v => wrI_in (n := 152) rfl n0 (by omega)
            simp only [x49_37_30, x49_44_30, x49_47_30, x49_62_30, x49_65_30, k173, hs6, hb, b2i_t, k98 (show lc 37 = 101 from rfl), w1, aft_l, aft_r, optL_s, optL_n, xgo_n, xgo_s, List.cons_append, List.nil_append, List.append_nil, true_and, and_true, Nat.sub_zero, Nat.zero_le, true_implies, false_implies, implies_true, not_true_eq_false, not_false_eq_true, true_or, or_true]
            refine ⟨by decide, fun h => absurd h (by decide), fun _ => ⟨⟨by omega, by omega⟩, ?_⟩⟩
            refine ih (m + 1) (n + 1) _ _ (by omega) (fr_sI hf rfl) (by omega) (by omega) (fun i i0 i1 => ?_) (fun x k k2 => ?_)
            · rw [gI_sI]
              by_cases q : i = n
              · rw [if_pos ⟨rfl, q⟩]; exact hbit.mp hb
              · rw [if_neg (fun g => q g.2)]; exact h1 i i0 (by omega)
            · by_cases q : x = 64 * w + m
              · exact ⟨n, n0, by omega, by rw [gI_sI, if_pos ⟨rfl, rfl⟩, q]⟩
              · obtain ⟨i, i0, i1, e⟩ := h2 x k (by omega)
                exact ⟨i, i0, by omega, by rw [gI_sI, if_neg (by omega)]; exact e⟩
          · have hb' : (gL σ 34 (c * 3 + w)).getLsbD m = false := by
              cases q : (gL σ 34 (c * 3 + w)).getLsbD m with
              | false => rfl
              | true => exact absurd q hb
            simp only [x49_37_30, x49_44_30, x49_65_30, k173, hs6, hb', b2i_f, aft_l, aft_r, optL_s, optL_n, xgo_n, xgo_s, List.cons_append, List.nil_append, List.append_nil, true_and, and_true, Nat.sub_zero, Nat.zero_le, true_implies, false_implies, implies_true, not_true_eq_false, not_false_eq_true, true_or, or_true]
            refine ⟨by decide, ?_⟩
            refine ih (m + 1) n _ _ (by omega) hf n0 (by omega) h1 (fun x k k2 => h2 x k ?_)
            by_cases q : x = 64 * w + m
            · rw [q] at k; exact absurd (hbit.mpr k) hb
            · omega
    exact loop 64 0 n σ1 _ rfl hf n0 (by omega) h1 (fun x k k2 => h2 x k (by omega))
/-- Inclusion.listPointees -/
theorem c49_30 {c : Int} {xs : List Int} (hx : xok xs) (hA : okF xs (Gc 34 σ)) (hcr : 0 ≤ c ∧ c < 152) (hq : ∀ (σ' : St) (n : Int), 0 ≤ n → n ≤ 152 → fr (fun c' _ => c' = 37) σ σ' → (∀ i : Int, 0 ≤ i → i < n → Gc 34 σ c (gI σ' 37 i)) → (∀ x, Gc 34 σ c x → ∃ i : Int, 0 ≤ i ∧ i < n ∧ gI σ' 37 i = x) → Q (.inl (some (vI n))) σ') : Call t 49 [vR 30, vI c] σ Q := by
  rw [x49_0_30]
  exact lpl_30 hx hA hcr hq 3 0 0 σ _ _ _ (by omega) (by omega) fr_refl (by omega) (by omega) (fun i i0 i1 => by omega) (fun x k k2 => by have := k.2.1; omega)
end CI3

