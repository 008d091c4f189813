/-! the class's inclusion: solve, its contract -/
theorem Gc_le {g : Nat} {σ σ' : St} (h : ∀ c u, Gc g σ c u → Gc g σ' c u) : ∀ c u, 0 ≤ c → c < 152 → 0 ≤ u → u < 192 → bt (gL σ g) c u = true → bt (gL σ' g) c u = true := fun c u c0 c1 u0 u1 k => (h c u ⟨⟨c0, c1⟩, ⟨u0, u1⟩, k⟩).2.2
theorem Gc_words {g : Nat} {σ σ' : St} (h : ∀ k : Int, 0 ≤ k → k < 456 → gL σ g k = gL σ' g k) (c u : Int) : Gc g σ c u ↔ Gc g σ' c u := by
  unfold Gc bt
  constructor
  · rintro ⟨h1, h2, h3⟩
    rw [h _ (by omega) (by omega)] at h3; exact ⟨h1, h2, h3⟩
  · rintro ⟨h1, h2, h3⟩
    rw [← h _ (by omega) (by omega)] at h3; exact ⟨h1, h2, h3⟩
theorem Gc_bound {g : Nat} {σ : St} {xs : List Int} (hx : xok xs) (h : okF xs (Gc g σ)) : fpop (gL σ g) ≤ 23104 := fpop_bound (fun c u c0 c1 u0 u1 k => (vld_152 hx (h c u ⟨⟨c0, c1⟩, ⟨u0, u1⟩, k⟩).2).2)
section CI8
variable {t : Nat} {σ : St} {Q : Res → St → Prop} {P : Pg}
theorem slv_19 {xs : List Int} {lim : Int} (hP : okP P) (hl0 : 0 ≤ lim ∧ lim ≤ 2) (hX : isC P lim xs)
    (hq : ∀ σ', INr 19 σ' P lim xs → fr (fun c j => c = 23 ∨ c = 24 ∨ c = 26 ∨ c = 27 ∨ c = 28 ∨ c = 29 ∨ (c = 19 ∧ (j = 9 ∨ j = 10 ∨ j = 11 ∨ j = 12))) σ σ' → Q (.inl none) σ') :
    ∀ (d j : Nat) (σ1 : St) (fb : Int) (a2 a5 a6 a7 : Option AV), 23104 - gI σ1 19 9 < d → SR 19 P xs lim j σ1 → inR fb → fb < gI σ1 19 9 → (j : Int) ≤ gI σ1 19 9 → fr (fun c j => c = 23 ∨ c = 24 ∨ c = 26 ∨ c = 27 ∨ c = 28 ∨ c = 29 ∨ (c = 19 ∧ (j = 9 ∨ j = 10 ∨ j = 11 ∨ j = 12))) σ σ1 →
    wp t 42 31 [some (vR 19), some (vR 5), a2, some (vI fb), some (vI (j + 1)), a5, a6, a7] [] σ1 Q
  | 0, j, σ1, fb, a2, a5, a6, a7, hd, h, hfb, hlt, hj, hf => by
    have hx := xok_of hP hX
    have hb := Gc_bound hx (by
      have e : Gc (19 + 5) σ1 = Gr P xs lim j := iff_fun h.2.2.2.2.1
      rw [e]; exact Gr_ok hP hX j)
    have e9 := h.2.2.2.2.2.2.2.1
    rw [e9] at hd
    omega
  | d + 1, j, σ1, fb, a2, a5, a6, a7, hd, h, hfb, hlt, hj, hf => by
    have hx := xok_of hP hX
    obtain ⟨h1, h2, h3, h4, h5, h6, h7, h8, h9, h10⟩ := h
    have eG : Gc (19 + 5) σ1 = Gr P xs lim j := iff_fun h5
    have hb := Gc_bound hx (by rw [eG]; exact Gr_ok hP hX j)
    have hb0 := fpop_nn (gL σ1 (19 + 5))
    rw [x42_31_19]
    refine ⟨⟨by omega, by omega⟩, fun g => by omega, fun _ => ?_⟩
    rw [x42_39_19]
    refine ⟨⟨⟨by omega, by omega⟩, hfb⟩, fun _ => ?_, fun g => absurd hlt g⟩
    rw [x42_47_19]
    refine k102 (show lc 24 = 102 from rfl) (show lc 23 = 102 from rfl) rfl (by decide) ?_
    simp only [x42_69_19, aft_l, aft_r, optL_s, optL_n, xgo_n, xgo_s, List.cons_append, List.nil_append, List.append_nil, true_and, and_true, Nat.sub_zero, Nat.zero_le, true_implies, false_implies, implies_true, not_true_eq_false, not_false_eq_true, true_or, or_true]
    have eln : (ln 23 : Int) = 456 := rfl
    have hf0 : fr (fun c j => c = 23 ∨ (c = 19 ∧ j = 11)) σ1 (upL (sI σ1 19 11 ((j : Int) + 1)) 23 (fun q => if 0 ≤ q ∧ q < (ln 23 : Int) then gL (sI σ1 19 11 ((j : Int) + 1)) 24 q else gL (sI σ1 19 11 ((j : Int) + 1)) 23 q)) := fr_upL (fr_sI fr_refl (by omega)) (fun q => by omega)
    have hRW : RW 19 P xs lim j (lo 0) (upL (sI σ1 19 11 ((j : Int) + 1)) 23 (fun q => if 0 ≤ q ∧ q < (ln 23 : Int) then gL (sI σ1 19 11 ((j : Int) + 1)) 24 q else gL (sI σ1 19 11 ((j : Int) + 1)) 23 q)) := by
      have eg : ∀ q, gL (upL (sI σ1 19 11 ((j : Int) + 1)) 23 (fun q => if 0 ≤ q ∧ q < (ln 23 : Int) then gL (sI σ1 19 11 ((j : Int) + 1)) 24 q else gL (sI σ1 19 11 ((j : Int) + 1)) 23 q)) 24 q = gL σ1 24 q := fun q => fr_L hf0 _ _ (by omega)
      refine ⟨CXr_fr_20 h1 hf0 (fun j => by omega) (fun j => by omega) (by omega) (by omega), RN_fr h2 hf0 (fun j => by omega) (fun j => by omega) (fun j => by omega) (fun j => by omega) (by omega), fun c hc => (fr_I hf0 _ _ (by omega)).trans (h3 c hc), ⟨(fr_I hf0 _ _ (by omega)).trans h4, ?_⟩, fun c u => ?_, fun c u => ?_, fun a t a0 a1 t0 t1 => ?_, fun a t a0 a1 t0 t1 k => ?_, ?_, Or.inl ⟨?_, fun c u k => by rw [GB_0] at k; exact k⟩⟩
      · rw [gI_upL, gI_sI, if_pos ⟨rfl, rfl⟩]
      · rw [← h5 c u]
        unfold Gc bt
        show _ ∧ _ ∧ BitVec.getLsbD (gL _ 23 _) _ = true ↔ _ ∧ _ ∧ BitVec.getLsbD (gL σ1 24 _) _ = true
        constructor
        · rintro ⟨k1, k2, k3⟩
          rw [gL_upL, if_pos rfl, if_pos ⟨by omega, by omega⟩, gL_sI] at k3
          exact ⟨k1, k2, k3⟩
        · rintro ⟨k1, k2, k3⟩
          rw [gL_upL, if_pos rfl, if_pos ⟨by omega, by omega⟩, gL_sI]
          exact ⟨k1, k2, k3⟩
      · rw [show Gc (19 + 5) _ = Gc (19 + 5) σ1 from Gc_fr hf0 (fun j => by omega), GB_0]; exact h5 c u
      · have := h6 a t a0 a1 t0 t1
        unfold Hc at *
        rw [fr_L hf0 (19 + 8) a (by omega), GB_0]; exact this
      · rw [GB_0] at k
        rw [fr_I hf0 (19 + 9) _ (by omega), fr_I hf0 (19 + 10) _ (by omega)]; exact h7 a t a0 a1 t0 t1 k
      · rw [fr_I hf0 19 9 (by omega), show gL _ (19 + 5) = gL σ1 (19 + 5) from funext eg]; exact h8
      · rw [fr_I hf0 19 10 (by omega)]; exact h9
    refine rdi_19 hP hl0 (fun σ' a2 a5 a6 a7 g1 g2 => ?_) xs.length 0 _ _ _ _ (by omega) (by omega) hRW fr_refl
    rw [x42_139_19, show ((j : Int) + 1 + 1) = ((j + 1 : Nat) : Int) + 1 by omega]
    have hf' : fr (fun c j => c = 23 ∨ c = 24 ∨ c = 26 ∨ c = 27 ∨ c = 28 ∨ c = 29 ∨ (c = 19 ∧ (j = 9 ∨ j = 10 ∨ j = 11 ∨ j = 12))) σ σ' := fr_trans hf (fr_trans (fr_mono hf0 (fun c j k => by omega)) (fr_mono g2 (fun c j k => by omega)))
    unfold RW at g1
    rw [GB_all] at g1
    obtain ⟨k1, k2, k3, ⟨k4, -⟩, k6, k7, k8, k9, k10, k11⟩ := g1
    have eG' : Gc (19 + 5) σ' = Gr P xs lim (j + 1) := iff_fun k7
    have hb' := Gc_bound hx (by rw [eG']; exact Gr_ok hP hX (j + 1))
    have hsub : ∀ c u, Gc (19 + 5) σ1 c u → Gc (19 + 5) σ' c u := fun c u k => by rw [eG']; rw [eG] at k; exact Or.inl k
    have hle := fpop_le (Gc_le hsub)
    by_cases hgt : gI σ1 19 9 < gI σ' 19 9
    · refine slv_19 hP hl0 hX hq d (j + 1) σ' _ _ _ _ _ (by omega) ⟨k1, k2, k3, k4, k7, k8, k9, k10, ?_, ?_⟩ ⟨by omega, by omega⟩ hgt (by omega) hf'
      · rcases k11 with ⟨e, k⟩ | ⟨e, -⟩
        · exfalso
          have e2 : ∀ c u, Gc (19 + 5) σ' c u → Gc (19 + 5) σ1 c u := fun c u q => by rw [eG]; exact k c u ((k7 c u).mp q)
          have := fpop_le (Gc_le e2)
          omega
        · rw [e]; omega
      · intro i hi
        by_cases q : i = j
        · rw [q]
          rcases k11 with ⟨e, k⟩ | ⟨_, c, u, e1, e2⟩
          · exfalso
            have e2 : ∀ c u, Gc (19 + 5) σ' c u → Gc (19 + 5) σ1 c u := fun c u q => by rw [eG]; exact k c u ((k7 c u).mp q)
            have := fpop_le (Gc_le e2)
            omega
          · exact ⟨c, u, e1, e2⟩
        · exact h10 i (by omega)
    · have ew := fun k (q0 : (0 : Int) ≤ k) (q1 : k < 456) => fpop_eq (Gc_le hsub) (by omega) q0 q1
      have hback : ∀ c u, Gr P xs lim (j + 1) c u → Gr P xs lim j c u := fun c u q => (h5 c u).mp ((Gc_words ew c u).mpr ((k7 c u).mpr q))
      have e10 : gI σ' 19 10 = j := by
        rcases k11 with ⟨e, _⟩ | ⟨_, c, u, e1, e2⟩
        · exact e
        · exact absurd (hback c u e1) e2
      have hL : ∀ c u, Lf P xs lim c u ↔ Gr P xs lim j c u := fun c u => LF_Gr hback
      have hL1 : Lf P xs lim = Gr P xs lim (j + 1) := iff_fun (fun c u => (hL c u).trans ⟨Or.inl, hback c u⟩)
      have hIN : INr 19 σ' P lim xs := ⟨k1, k4, k3, fun c u => by rw [hL1]; exact k7 c u, fun c u => (k6 c u).trans (hL c u).symm, fun a t a0 a1 t0 t1 => by rw [hL1]; exact k8 a t a0 a1 t0 t1, fun a t a0 a1 t0 t1 q => by rw [hL1] at q; exact k9 a t a0 a1 t0 t1 q, k10, j, e10, hback, h10⟩
      have out : wp t 42 145 [some (vR 19), some (vR 5), a2, some (vI (gI σ1 19 9)), some (vI (((j + 1 : Nat) : Int) + 1)), a5, a6, a7] [] σ' Q := by
        rw [x42_145_19]; exact hq σ' hIN hf'
      rw [x42_31_19]
      refine ⟨⟨by omega, by omega⟩, fun _ => out, fun _ => ?_⟩
      rw [x42_39_19]
      exact ⟨⟨⟨by omega, by omega⟩, ⟨by omega, by omega⟩⟩, fun g => absurd g hgt, fun _ => out⟩
/-- Inclusion.solve -/
theorem c42_19 {lim : Int} (hP : okP P) (hl0 : 0 ≤ lim ∧ lim ≤ 2) (hN : RN 5 σ P) (hG : GE 20 σ) (h8 : gI σ 19 8 = 0 ∨ gI σ 19 8 = 1) (h0 : gI σ 19 8 = 0 → Q (.inl none) σ)
    (h1 : gI σ 19 8 = 1 → ∀ σ' xs, INr 19 σ' P lim xs → fr (fun c j => c = 21 ∨ c = 22 ∨ (c = 20 ∧ (j = 2 ∨ j = 3)) ∨ c = 23 ∨ c = 24 ∨ c = 25 ∨ c = 26 ∨ c = 27 ∨ c = 28 ∨ c = 29 ∨ (c = 19 ∧ (j = 8 ∨ j = 9 ∨ j = 10 ∨ j = 11 ∨ j = 12))) σ σ' → Q (.inl none) σ') : Call t 42 [vR 19, vR 5, vI lim] σ Q := by
  rw [x42_0_19]
  refine ⟨⟨by omega, by omega⟩, fun e => ?_, fun e => ?_⟩
  · rw [x42_7_19]; exact h0 e
  · have e1 : gI σ 19 8 = 1 := by omega
    rw [x42_8_19]
    have hf0 : fr (fun c j => c = 19 ∧ j = 8) σ (sI σ 19 8 0) := fr_sI fr_refl ⟨rfl, rfl⟩
    have hN0 := RN_fr hN hf0 (fun j => by omega) (fun j => by omega) (fun j => by omega) (fun j => by omega) (by omega)
    have hG0 : GE 20 (sI σ 19 8 0) := fun i i0 i1 => by
      have e2 : gI (sI σ 19 8 0) (20 + 1) i = gI σ (20 + 1) i := fr_I hf0 _ _ (by omega)
      rw [e2]; exact hG i i0 i1
    refine c14_20 hP hl0 hN0 hG0 (fun σ2 xs hX hf2 => ?_)
    simp only [x42_22_19, aft_l, aft_r, optL_s, optL_n, xgo_n, xgo_s, List.cons_append, List.nil_append, List.append_nil, true_and, and_true, Nat.sub_zero, Nat.zero_le, true_implies, false_implies, implies_true, not_true_eq_false, not_false_eq_true, true_or, or_true]
    refine c43_19 hP hX (fun σ3 q1 q2 q3 q4 q5 hf3 => ?_)
    simp only [x42_26_19, aft_l, aft_r, optL_s, optL_n, xgo_n, xgo_s, List.cons_append, List.nil_append, List.append_nil, true_and, and_true, Nat.sub_zero, Nat.zero_le, true_implies, false_implies, implies_true, not_true_eq_false, not_false_eq_true, true_or, or_true]
    have hE : ∀ c u, ¬ Gc 24 σ3 c u := fun c u k => by
      have k3 := k.2.2
      unfold bt at k3
      rw [q4 _ (by have := k.1; have := k.2.1; omega) (by have := k.1; have := k.2.1; omega)] at k3
      simp at k3
    have hH : ∀ a t, 0 ≤ a → a < 44 → ¬ Hc 27 σ3 a t := fun a t a0 a1 k => by
      unfold Hc at k
      rw [q5 a a0 a1] at k
      simp at k
    have hfp : fpop (gL σ3 24) = 0 := by
      have : ∀ n : Nat, n ≤ 456 → fsum (gL σ3 24) n = 0 := by
        intro n
        induction n with
        | zero => intro _; rfl
        | succ n ih =>
          intro hn
          rw [fsum_succ, ih (by omega), q4 n (by omega) (by omega)]
          decide
      exact this 456 (Nat.le_refl _)
    have hSR : SR 19 P xs lim 0 σ3 := ⟨CXr_fr_20 hX hf3 (fun j => by omega) (fun j => by omega) (by omega) (by omega), RN_fr hN0 (fr_trans (fr_mono hf2 (fun c j k => Or.inl k)) (fr_mono hf3 (fun c j k => Or.inr k))) (fun j => by omega) (fun j => by omega) (fun j => by omega) (fun j => by omega) (by omega), q1, ((fr_I hf3 _ _ (by omega)).trans (fr_I hf2 _ _ (by omega))).trans (by rw [gI_sI, if_pos ⟨rfl, rfl⟩]), fun c u => ⟨fun k => absurd k (hE c u), fun k => k.elim⟩, fun a t a0 a1 t0 t1 => ⟨fun k => absurd k (hH a t a0 a1), fun ⟨c, u, k, _⟩ => k.elim⟩, fun a t a0 a1 t0 t1 ⟨c, u, k, _⟩ => k.elim, q2.trans hfp.symm, q3, fun i hi => absurd hi (Nat.not_lt_zero i)⟩
    refine slv_19 hP hl0 hX.1 (fun σ' g1 g2 => h1 e1 σ' xs g1 (fr_trans (fr_trans (fr_mono hf0 (fun c j k => by omega)) (fr_trans (fr_mono hf2 (fun c j k => by omega)) (fr_mono hf3 (fun c j k => by omega)))) (fr_mono g2 (fun c j k => by omega)))) 23105 0 σ3 (-1) _ _ _ _ (by omega) hSR (by decide) (by omega) (by omega) fr_refl
theorem slv_30 {xs : List Int} {lim : Int} (hP : okP P) (hl0 : 0 ≤ lim ∧ lim ≤ 2) (hX : isC P lim xs)
    (hq : ∀ σ', INr 30 σ' P lim xs → fr (fun c j => c = 34 ∨ c = 35 ∨ c = 37 ∨ c = 38 ∨ c = 39 ∨ c = 40 ∨ (c = 30 ∧ (j = 9 ∨ j = 10 ∨ j = 11 ∨ j = 12))) σ σ' → Q (.inl none) σ') :
    ∀ (d j : Nat) (σ1 : St) (fb : Int) (a2 a5 a6 a7 : Option AV), 23104 - gI σ1 30 9 < d → SR 30 P xs lim j σ1 → inR fb → fb < gI σ1 30 9 → (j : Int) ≤ gI σ1 30 9 → fr (fun c j => c = 34 ∨ c = 35 ∨ c = 37 ∨ c = 38 ∨ c = 39 ∨ c = 40 ∨ (c = 30 ∧ (j = 9 ∨ j = 10 ∨ j = 11 ∨ j = 12))) σ σ1 →
    wp t 42 31 [some (vR 30), some (vR 5), a2, some (vI fb), some (vI (j + 1)), a5, a6, a7] [] σ1 Q
  | 0, j, σ1, fb, a2, a5, a6, a7, hd, h, hfb, hlt, hj, hf => by
    have hx := xok_of hP hX
    have hb := Gc_bound hx (by
      have e : Gc (30 + 5) σ1 = Gr P xs lim j := iff_fun h.2.2.2.2.1
      rw [e]; exact Gr_ok hP hX j)
    have e9 := h.2.2.2.2.2.2.2.1
    rw [e9] at hd
    omega
  | d + 1, j, σ1, fb, a2, a5, a6, a7, hd, h, hfb, hlt, hj, hf => by
    have hx := xok_of hP hX
    obtain ⟨h1, h2, h3, h4, h5, h6, h7, h8, h9, h10⟩ := h
    have eG : Gc (30 + 5) σ1 = Gr P xs lim j := iff_fun h5
    have hb := Gc_bound hx (by rw [eG]; exact Gr_ok hP hX j)
    have hb0 := fpop_nn (gL σ1 (30 + 5))
    rw [x42_31_30]
    refine ⟨⟨by omega, by omega⟩, fun g => by omega, fun _ => ?_⟩
    rw [x42_39_30]
    refine ⟨⟨⟨by omega, by omega⟩, hfb⟩, fun _ => ?_, fun g => absurd hlt g⟩
    rw [x42_47_30]
    refine k102 (show lc 35 = 102 from rfl) (show lc 34 = 102 from rfl) rfl (by decide) ?_
    simp only [x42_69_30, aft_l, aft_r, optL_s, optL_n, xgo_n, xgo_s, List.cons_append, List.nil_append, List.append_nil, true_and, and_true, Nat.sub_zero, Nat.zero_le, true_implies, false_implies, implies_true, not_true_eq_false, not_false_eq_true, true_or, or_true]
    have eln : (ln 34 : Int) = 456 := rfl
    have hf0 : fr (fun c j => c = 34 ∨ (c = 30 ∧ j = 11)) σ1 (upL (sI σ1 30 11 ((j : Int) + 1)) 34 (fun q => if 0 ≤ q ∧ q < (ln 34 : Int) then gL (sI σ1 30 11 ((j : Int) + 1)) 35 q else gL (sI σ1 30 11 ((j : Int) + 1)) 34 q)) := fr_upL (fr_sI fr_refl (by omega)) (fun q => by omega)
    have hRW : RW 30 P xs lim j (lo 0) (upL (sI σ1 30 11 ((j : Int) + 1)) 34 (fun q => if 0 ≤ q ∧ q < (ln 34 : Int) then gL (sI σ1 30 11 ((j : Int) + 1)) 35 q else gL (sI σ1 30 11 ((j : Int) + 1)) 34 q)) := by
      have eg : ∀ q, gL (upL (sI σ1 30 11 ((j : Int) + 1)) 34 (fun q => if 0 ≤ q ∧ q < (ln 34 : Int) then gL (sI σ1 30 11 ((j : Int) + 1)) 35 q else gL (sI σ1 30 11 ((j : Int) + 1)) 34 q)) 35 q = gL σ1 35 q := fun q => fr_L hf0 _ _ (by omega)
      refine ⟨CXr_fr_31 h1 hf0 (fun j => by omega) (fun j => by omega) (by omega) (by omega), RN_fr h2 hf0 (fun j => by omega) (fun j => by omega) (fun j => by omega) (fun j => by omega) (by omega), fun c hc => (fr_I hf0 _ _ (by omega)).trans (h3 c hc), ⟨(fr_I hf0 _ _ (by omega)).trans h4, ?_⟩, fun c u => ?_, fun c u => ?_, fun a t a0 a1 t0 t1 => ?_, fun a t a0 a1 t0 t1 k => ?_, ?_, Or.inl ⟨?_, fun c u k => by rw [GB_0] at k; exact k⟩⟩
      · rw [gI_upL, gI_sI, if_pos ⟨rfl, rfl⟩]
      · rw [← h5 c u]
        unfold Gc bt
        show _ ∧ _ ∧ BitVec.getLsbD (gL _ 34 _) _ = true ↔ _ ∧ _ ∧ BitVec.getLsbD (gL σ1 35 _) _ = true
        constructor
        · rintro ⟨k1, k2, k3⟩
          rw [gL_upL, if_pos rfl, if_pos ⟨by omega, by omega⟩, gL_sI] at k3
          exact ⟨k1, k2, k3⟩
        · rintro ⟨k1, k2, k3⟩
          rw [gL_upL, if_pos rfl, if_pos ⟨by omega, by omega⟩, gL_sI]
          exact ⟨k1, k2, k3⟩
      · rw [show Gc (30 + 5) _ = Gc (30 + 5) σ1 from Gc_fr hf0 (fun j => by omega), GB_0]; exact h5 c u
      · have := h6 a t a0 a1 t0 t1
        unfold Hc at *
        rw [fr_L hf0 (30 + 8) a (by omega), GB_0]; exact this
      · rw [GB_0] at k
        rw [fr_I hf0 (30 + 9) _ (by omega), fr_I hf0 (30 + 10) _ (by omega)]; exact h7 a t a0 a1 t0 t1 k
      · rw [fr_I hf0 30 9 (by omega), show gL _ (30 + 5) = gL σ1 (30 + 5) from funext eg]; exact h8
      · rw [fr_I hf0 30 10 (by omega)]; exact h9
    refine rdi_30 hP hl0 (fun σ' a2 a5 a6 a7 g1 g2 => ?_) xs.length 0 _ _ _ _ (by omega) (by omega) hRW fr_refl
    rw [x42_139_30, show ((j : Int) + 1 + 1) = ((j + 1 : Nat) : Int) + 1 by omega]
    have hf' : fr (fun c j => c = 34 ∨ c = 35 ∨ c = 37 ∨ c = 38 ∨ c = 39 ∨ c = 40 ∨ (c = 30 ∧ (j = 9 ∨ j = 10 ∨ j = 11 ∨ j = 12))) σ σ' := fr_trans hf (fr_trans (fr_mono hf0 (fun c j k => by omega)) (fr_mono g2 (fun c j k => by omega)))
    unfold RW at g1
    rw [GB_all] at g1
    obtain ⟨k1, k2, k3, ⟨k4, -⟩, k6, k7, k8, k9, k10, k11⟩ := g1
    have eG' : Gc (30 + 5) σ' = Gr P xs lim (j + 1) := iff_fun k7
    have hb' := Gc_bound hx (by rw [eG']; exact Gr_ok hP hX (j + 1))
    have hsub : ∀ c u, Gc (30 + 5) σ1 c u → Gc (30 + 5) σ' c u := fun c u k => by rw [eG']; rw [eG] at k; exact Or.inl k
    have hle := fpop_le (Gc_le hsub)
    by_cases hgt : gI σ1 30 9 < gI σ' 30 9
    · refine slv_30 hP hl0 hX hq d (j + 1) σ' _ _ _ _ _ (by omega) ⟨k1, k2, k3, k4, k7, k8, k9, k10, ?_, ?_⟩ ⟨by omega, by omega⟩ hgt (by omega) hf'
      · rcases k11 with ⟨e, k⟩ | ⟨e, -⟩
        · exfalso
          have e2 : ∀ c u, Gc (30 + 5) σ' c u → Gc (30 + 5) σ1 c u := fun c u q => by rw [eG]; exact k c u ((k7 c u).mp q)
          have := fpop_le (Gc_le e2)
          omega
        · rw [e]; omega
      · intro i hi
        by_cases q : i = j
        · rw [q]
          rcases k11 with ⟨e, k⟩ | ⟨_, c, u, e1, e2⟩
          · exfalso
            have e2 : ∀ c u, Gc (30 + 5) σ' c u → Gc (30 + 5) σ1 c u := fun c u q => by rw [eG]; exact k c u ((k7 c u).mp q)
            have := fpop_le (Gc_le e2)
            omega
          · exact ⟨c, u, e1, e2⟩
        · exact h10 i (by omega)
    · have ew := fun k (q0 : (0 : Int) ≤ k) (q1 : k < 456) => fpop_eq (Gc_le hsub) (by omega) q0 q1
      have hback : ∀ c u, Gr P xs lim (j + 1) c u → Gr P xs lim j c u := fun c u q => (h5 c u).mp ((Gc_words ew c u).mpr ((k7 c u).mpr q))
      have e10 : gI σ' 30 10 = j := by
        rcases k11 with ⟨e, _⟩ | ⟨_, c, u, e1, e2⟩
        · exact e
        · exact absurd (hback c u e1) e2
      have hL : ∀ c u, Lf P xs lim c u ↔ Gr P xs lim j c u := fun c u => LF_Gr hback
      have hL1 : Lf P xs lim = Gr P xs lim (j + 1) := iff_fun (fun c u => (hL c u).trans ⟨Or.inl, hback c u⟩)
      have hIN : INr 30 σ' P lim xs := ⟨k1, k4, k3, fun c u => by rw [hL1]; exact k7 c u, fun c u => (k6 c u).trans (hL c u).symm, fun a t a0 a1 t0 t1 => by rw [hL1]; exact k8 a t a0 a1 t0 t1, fun a t a0 a1 t0 t1 q => by rw [hL1] at q; exact k9 a t a0 a1 t0 t1 q, k10, j, e10, hback, h10⟩
      have out : wp t 42 145 [some (vR 30), some (vR 5), a2, some (vI (gI σ1 30 9)), some (vI (((j + 1 : Nat) : Int) + 1)), a5, a6, a7] [] σ' Q := by
        rw [x42_145_30]; exact hq σ' hIN hf'
      rw [x42_31_30]
      refine ⟨⟨by omega, by omega⟩, fun _ => out, fun _ => ?_⟩
      rw [x42_39_30]
      exact ⟨⟨⟨by omega, by omega⟩, ⟨by omega, by omega⟩⟩, fun g => absurd g hgt, fun _ => out⟩
/-- Inclusion.solve -/
theorem c42_30 {lim : Int} (hP : okP P) (hl0 : 0 ≤ lim ∧ lim ≤ 2) (hN : RN 5 σ P) (hG : GE 31 σ) (h8 : gI σ 30 8 = 0 ∨ gI σ 30 8 = 1) (h0 : gI σ 30 8 = 0 → Q (.inl none) σ)
    (h1 : gI σ 30 8 = 1 → ∀ σ' xs, INr 30 σ' P lim xs → fr (fun c j => c = 32 ∨ c = 33 ∨ (c = 31 ∧ (j = 2 ∨ j = 3)) ∨ c = 34 ∨ c = 35 ∨ c = 36 ∨ c = 37 ∨ c = 38 ∨ c = 39 ∨ c = 40 ∨ (c = 30 ∧ (j = 8 ∨ j = 9 ∨ j = 10 ∨ j = 11 ∨ j = 12))) σ σ' → Q (.inl none) σ') : Call t 42 [vR 30, vR 5, vI lim] σ Q := by
  rw [x42_0_30]
  refine ⟨⟨by omega, by omega⟩, fun e => ?_, fun e => ?_⟩
  · rw [x42_7_30]; exact h0 e
  · have e1 : gI σ 30 8 = 1 := by omega
    rw [x42_8_30]
    have hf0 : fr (fun c j => c = 30 ∧ j = 8) σ (sI σ 30 8 0) := fr_sI fr_refl ⟨rfl, rfl⟩
    have hN0 := RN_fr hN hf0 (fun j => by omega) (fun j => by omega) (fun j => by omega) (fun j => by omega) (by omega)
    have hG0 : GE 31 (sI σ 30 8 0) := fun i i0 i1 => by
      have e2 : gI (sI σ 30 8 0) (31 + 1) i = gI σ (31 + 1) i := fr_I hf0 _ _ (by omega)
      rw [e2]; exact hG i i0 i1
    refine c14_31 hP hl0 hN0 hG0 (fun σ2 xs hX hf2 => ?_)
    simp only [x42_22_30, aft_l, aft_r, optL_s, optL_n, xgo_n, xgo_s, List.cons_append, List.nil_append, List.append_nil, true_and, and_true, Nat.sub_zero, Nat.zero_le, true_implies, false_implies, implies_true, not_true_eq_false, not_false_eq_true, true_or, or_true]
    refine c43_30 hP hX (fun σ3 q1 q2 q3 q4 q5 hf3 => ?_)
    simp only [x42_26_30, aft_l, aft_r, optL_s, optL_n, xgo_n, xgo_s, List.cons_append, List.nil_append, List.append_nil, true_and, and_true, Nat.sub_zero, Nat.zero_le, true_implies, false_implies, implies_true, not_true_eq_false, not_false_eq_true, true_or, or_true]
    have hE : ∀ c u, ¬ Gc 35 σ3 c u := fun c u k => by
      have k3 := k.2.2
      unfold bt at k3
      rw [q4 _ (by have := k.1; have := k.2.1; omega) (by have := k.1; have := k.2.1; omega)] at k3
      simp at k3
    have hH : ∀ a t, 0 ≤ a → a < 44 → ¬ Hc 38 σ3 a t := fun a t a0 a1 k => by
      unfold Hc at k
      rw [q5 a a0 a1] at k
      simp at k
    have hfp : fpop (gL σ3 35) = 0 := by
      have : ∀ n : Nat, n ≤ 456 → fsum (gL σ3 35) n = 0 := by
        intro n
        induction n with
        | zero => intro _; rfl
        | succ n ih =>
          intro hn
          rw [fsum_succ, ih (by omega), q4 n (by omega) (by omega)]
          decide
      exact this 456 (Nat.le_refl _)
    have hSR : SR 30 P xs lim 0 σ3 := ⟨CXr_fr_31 hX hf3 (fun j => by omega) (fun j => by omega) (by omega) (by omega), RN_fr hN0 (fr_trans (fr_mono hf2 (fun c j k => Or.inl k)) (fr_mono hf3 (fun c j k => Or.inr k))) (fun j => by omega) (fun j => by omega) (fun j => by omega) (fun j => by omega) (by omega), q1, ((fr_I hf3 _ _ (by omega)).trans (fr_I hf2 _ _ (by omega))).trans (by rw [gI_sI, if_pos ⟨rfl, rfl⟩]), fun c u => ⟨fun k => absurd k (hE c u), fun k => k.elim⟩, fun a t a0 a1 t0 t1 => ⟨fun k => absurd k (hH a t a0 a1), fun ⟨c, u, k, _⟩ => k.elim⟩, fun a t a0 a1 t0 t1 ⟨c, u, k, _⟩ => k.elim, q2.trans hfp.symm, q3, fun i hi => absurd hi (Nat.not_lt_zero i)⟩
    refine slv_30 hP hl0 hX.1 (fun σ' g1 g2 => h1 e1 σ' xs g1 (fr_trans (fr_trans (fr_mono hf0 (fun c j k => by omega)) (fr_trans (fr_mono hf2 (fun c j k => by omega)) (fr_mono hf3 (fun c j k => by omega)))) (fr_mono g2 (fun c j k => by omega)))) 23105 0 σ3 (-1) _ _ _ _ (by omega) hSR (by decide) (by omega) (by omega) fr_refl
end CI8

