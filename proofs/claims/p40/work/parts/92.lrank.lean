/-! ranks -/
section LR
variable {t : Nat} {σ : St} {Q : Res → St → Prop} {P : Pg} {lim : Int} {ys : List Int}
def rkM : Nat → Int → Prop := fun c j => clq c j ∨ (c = 53 ∧ 0 ≤ j)
def rkD (P : Pg) (ys : List Int) (v i : Int) : Prop := ∃ v' t', (0 ≤ v' ∧ (v' < v ∨ (v' = v ∧ t' < i))) ∧ ((0 ≤ t' ∧ t' < 20 + 3 * mny P 4 (-1)) ∧ (im ys (Lf P ys 0) v' t' ∧ ∀ k s, RKp P ys 0 v' t' k s → k = 1))
def rkI (P : Pg) (ys : List Int) (v i : Int) (σ : St) : Prop := gI σ 53 (-1) = 60 ∧ ((0 ≤ (gL σ 53 1).toInt ∧ (gL σ 53 1).toInt ≤ 44 * v + i) ∧ (rkD P ys v i → 0 < (gL σ 53 1).toInt))
theorem rkI_fr {v i : Int} {σ' : St} (h : rkI P ys v i σ) (g : fr clq σ σ') : rkI P ys v i σ' := by
  unfold rkI
  rw [fr_I g 53 (-1) (by unfold clq; omega), fr_L g 53 1 (by unfold clq; omega)]
  exact h
theorem s20 {k : Int} (k0 : 0 ≤ k) (k1 : k ≤ 8) : (BitVec.ofInt 64 20 + BitVec.ofInt 64 3 * BitVec.ofInt 64 k).toInt = 20 + 3 * k := by
  rcases (show k = 0 ∨ k = 1 ∨ k = 2 ∨ k = 3 ∨ k = 4 ∨ k = 5 ∨ k = 6 ∨ k = 7 ∨ k = 8 by omega) with rfl | rfl | rfl | rfl | rfl | rfl | rfl | rfl | rfl <;> decide
theorem add1 {x : BitVec 64} (h0 : 0 ≤ x.toInt) (h1 : x.toInt ≤ 100000) : (x + BitVec.ofNat 64 1).toInt = x.toInt + 1 := by
  rw [BitVec.toInt_add, show (BitVec.ofNat 64 1).toInt = 1 by decide]
  exact Int.bmod_eq_of_le (by omega) (by omega)
theorem lmin59 {r : Int} (h : 1 ≤ r ∧ r ≤ 100000) : (1 ≤ (lMin (BitVec.ofInt 64 59) (BitVec.ofInt 64 r)).toInt ∧ (lMin (BitVec.ofInt 64 59) (BitVec.ofInt 64 r)).toInt ≤ 59) ∧ ((lMin (BitVec.ofInt 64 59) (BitVec.ofInt 64 r)).toInt = 1 ↔ r = 1) := by
  unfold lMin
  have e : (BitVec.ofInt 64 r).slt (BitVec.ofInt 64 59) = decide (r < 59) := by
    show decide ((BitVec.ofInt 64 r).toInt < (BitVec.ofInt 64 59).toInt) = _
    rw [oI ⟨by omega, by omega⟩, oI ⟨by omega, by omega⟩]
  rw [e]
  by_cases q : r < 59
  · rw [if_pos (decide_eq_true q), oI ⟨by omega, by omega⟩]; omega
  · rw [if_neg (by rw [decide_eq_false q]; decide), oI ⟨by omega, by omega⟩]; omega
theorem neg2 {r : Int} (h : 0 ≤ r ∧ r ≤ 100000) : ¬ 0 < lCmp (BitVec.ofInt 64 (-4000000000000000002)) (BitVec.ofInt 64 r) := by
  rw [lCmp_gt, oI ⟨by omega, by omega⟩, show (BitVec.ofInt 64 (-4000000000000000002)).toInt = -4000000000000000002 by decide]; omega
theorem rk2 (hP : okP P) (hY : isC P 0 ys) {σ0 : St} {R : Nat} {v rr : Int} (v0 : 0 ≤ v) (v1 : v < 20) (hr : RDn P ys 0 rr) (hk : ∀ (t : Nat) (σ' : St) (a2 a5 a6 a7 a8 a9 a10 a11 a12 a13 : Option AV), R ≤ t → CI P 0 σ' → fr rkM σ0 σ' → rkI P ys (v + 1) 0 σ' → wp t 211 270 [some (vR 0), some (vL (BitVec.ofInt 64 rr)), a2, some (vR 53), some (vI v), a5, a6, a7, a8, a9, a10, a11, a12, a13] [] σ' Q) :
    ∀ (d : Nat) (i : Int) (t : Nat) (σ1 : St) (a2 a6 a7 a8 a9 a10 a11 a12 a13 : Option AV), 0 ≤ i → i + d = 20 + 3 * mny P 4 (-1) → R + 10 * d ≤ t → CI P 0 σ1 → fr rkM σ0 σ1 → rkI P ys v i σ1 → wp t 211 29 [some (vR 0), some (vL (BitVec.ofInt 64 rr)), a2, some (vR 53), some (vI v), some (vI i), a6, a7, a8, a9, a10, a11, a12, a13] [] σ1 Q
  | 0, i, t, σ1, a2, a6, a7, a8, a9, a10, a11, a12, a13, i0, hd, ht, h, g, hI => by
    have hm := m8_rng hP
    rw [x211_29]
    refine ⟨⟨by omega, by omega⟩, k183 hP h ?_⟩
    show wp _ 211 42 _ [vL _, vL _, vL _, vL _] _ _
    rw [x211_42]
    refine ⟨lCmp_in, fun k => ?_, fun _ => ?_⟩
    · rw [lCmp_lt, s20 (by omega) (by omega), oI ⟨by omega, by omega⟩] at k; omega
    · refine hk t σ1 _ _ _ _ _ _ _ _ _ _ (by omega) h g ⟨hI.1, ⟨hI.2.1.1, by have := hI.2.1.2; omega⟩, fun hD => hI.2.2 ?_⟩
      obtain ⟨v', t', ⟨h1, h2⟩, h3, h4⟩ := hD
      exact ⟨v', t', ⟨h1, by omega⟩, h3, h4⟩
  | d + 1, i, t, σ1, a2, a6, a7, a8, a9, a10, a11, a12, a13, i0, hd, ht, h, g, hI => by
    have hl : (0 : Int) ≤ 0 ∧ (0 : Int) ≤ 2 := by omega
    have hm := m8_rng hP
    have hrr := RDn_rng hP hY hr
    have i1 : i < 20 + 3 * mny P 4 (-1) := by omega
    have next : ∀ (t2 : Nat) (σ2 : St) (a2 a6 a7 a8 a9 a10 a11 a12 a13 : Option AV), R + 10 * d ≤ t2 → CI P 0 σ2 → fr rkM σ0 σ2 → rkI P ys v (i + 1) σ2 → wp t2 211 264 [some (vR 0), some (vL (BitVec.ofInt 64 rr)), a2, some (vR 53), some (vI v), some (vI i), a6, a7, a8, a9, a10, a11, a12, a13] [] σ2 Q := fun t2 σ2 a2 a6 a7 a8 a9 a10 a11 a12 a13 h1 h2 h3 h4 => by
      rw [x211_264]
      exact rk2 hP hY v0 v1 hr hk d (i + 1) t2 σ2 _ _ _ _ _ _ _ _ _ (by omega) (by omega) h1 h2 h3 h4
    have fc : ∀ {σa σb : St}, fr rkM σ0 σa → fr clq σa σb → fr rkM σ0 σb := fun ga gb => fr_trans ga (fr_mono gb (fun c j k => Or.inl k))
    rw [x211_29]
    refine ⟨⟨by omega, by omega⟩, k183 hP h ?_⟩
    show wp _ 211 42 _ [vL _, vL _, vL _, vL _] _ _
    rw [x211_42]
    refine ⟨lCmp_in, fun _ => ?_, fun k => ?_⟩
    · rw [x211_48]
      refine ⟨by omega, k192 hP hY h ⟨⟨v0, v1⟩, i0, i1⟩ (fun hn σ2 c2 f2 => ?_) (fun hy σ2 r s hk2 c2 f2 => ?_)⟩
      · show wp _ 211 56 _ [vL _] _ _
        rw [x211_56]
        refine ⟨lCmp_in, fun k => absurd k (by rw [z64]; exact neg2 (by omega)), fun _ => ?_⟩
        rw [x211_69, x211_70]
        refine ⟨by omega, k186 hP hl hY c2 v0 v1 (fun σ3 c3 f3 => ?_)⟩
        show wp _ 211 76 _ [vL _, vI _] _ _
        rw [x211_76]
        refine ⟨lCmp_in, fun k => ?_, fun _ => ?_⟩
        · rw [bit1 i0 (by omega)] at k
          have := (SW_wS _ _ (by omega)).mp k
          rw [show ((i.toNat : Nat) : Int) = i by omega] at this
          exact absurd this hn
        · rw [x211_90, x211_91]
          refine ⟨⟨by decide, by decide⟩, fun _ => ?_, fun k => absurd rfl k⟩
          rw [x211_94]
          refine ⟨lCmp_in, fun k => absurd k (neg2 (by omega)), fun _ => ?_⟩
          rw [x211_103]
          refine ⟨lCmp_in, fun _ => ?_, fun k => absurd (show lCmp _ _ < 0 by rw [lCmp_lt]; decide) k⟩
          rw [x211_110]
          have hI3 := rkI_fr (rkI_fr hI f2) f3
          refine next _ _ _ _ _ _ _ _ _ _ _ (by omega) c3 (fc (fc g f2) f3) ⟨hI3.1, ⟨hI3.2.1.1, by have := hI3.2.1.2; omega⟩, fun hD => hI3.2.2 ?_⟩
          obtain ⟨v', t', ⟨h1, h2⟩, h3, h4, h5⟩ := hD
          refine ⟨v', t', ⟨h1, ?_⟩, h3, h4, h5⟩
          rcases h2 with h2 | ⟨h2, h6⟩
          · exact Or.inl h2
          · refine Or.inr ⟨h2, ?_⟩
            by_cases e : t' = i
            · rw [h2, e] at h4; exact absurd h4 hn
            · omega
      · have hle := RK_le hr hk2
        obtain ⟨⟨s0, s1⟩, ⟨pi, pi0, pi1, pie⟩, w1, w4, w3⟩ := RK_kind hP hY hk2
        have hrg := RKp_rng hP hY hk2
        have hmin := lmin59 (r := r) (by omega)
        show wp _ 211 56 _ [vL _] _ _
        rw [x211_56]
        refine ⟨lCmp_in, fun _ => ?_, fun k => absurd (show 0 < lCmp _ _ by rw [z64, lCmp_gt, oI ⟨by omega, by omega⟩, oI ⟨by omega, by omega⟩]; omega) k⟩
        rw [x211_65, x211_70]
        refine ⟨by omega, k186 hP hl hY c2 v0 v1 (fun σ3 c3 f3 => ?_)⟩
        show wp _ 211 76 _ [vL _, vI _] _ _
        rw [x211_76]
        refine ⟨lCmp_in, fun _ => ?_, fun k => ?_⟩
        · rw [x211_86, x211_91]
          refine ⟨⟨by decide, by decide⟩, fun _ => ?_, fun k => absurd rfl k⟩
          rw [x211_94]
          refine ⟨lCmp_in, fun k => ?_, fun _ => ?_⟩
          · rw [lCmp_gt, oI ⟨by omega, by omega⟩, oI ⟨by omega, by omega⟩] at k; omega
          rw [x211_103]
          refine ⟨lCmp_in, fun k => ?_, fun _ => ?_⟩
          · rw [o64, lCmp_lt, oI ⟨by omega, by omega⟩, oI ⟨by omega, by omega⟩] at k; omega
          have hI3 := rkI_fr (rkI_fr hI f2) f3
          rw [x211_113, x211_122]
          generalize hmm : (lMin (BitVec.ofInt 64 59) (BitVec.ofInt 64 r)).toInt = mm at hmin ⊢
          have hb := hI3.1
          have fs : fr rkM σ3 (sL σ3 53 mm (gL σ3 53 mm + BitVec.ofNat 64 1)) := fr_sL fr_refl (Or.inr ⟨rfl, by omega⟩)
          have cs : CI P 0 (sL σ3 53 mm (gL σ3 53 mm + BitVec.ofNat 64 1)) := CI_fr c3 (M := fun c _ => c = 53) (fr_sL fr_refl rfl) (fun c j k => by omega)
          have hI4 : rkI P ys v (i + 1) (sL σ3 53 mm (gL σ3 53 mm + BitVec.ofNat 64 1)) := by
            refine ⟨hb, ?_⟩
            rw [gL_sL]
            by_cases e1 : r = 1
            · have e2 := hmin.2.mpr e1
              rw [if_pos ⟨rfl, e2.symm⟩, e2, add1 hI3.2.1.1 (by have := hI3.2.1.2; omega)]
              have := hI3.2.1
              exact ⟨⟨by omega, by omega⟩, fun _ => by omega⟩
            · have e2 : ¬ mm = 1 := fun q => e1 (hmin.2.mp q)
              rw [if_neg (by omega)]
              have := hI3.2.1
              refine ⟨⟨by omega, by omega⟩, fun hD => hI3.2.2 ?_⟩
              obtain ⟨v', t', ⟨h1, h2⟩, h3, h4, h5⟩ := hD
              refine ⟨v', t', ⟨h1, ?_⟩, h3, h4, h5⟩
              rcases h2 with h2 | ⟨h2, h6⟩
              · exact Or.inl h2
              · refine Or.inr ⟨h2, ?_⟩
                by_cases e : t' = i
                · rw [h2, e] at h5; exact absurd (h5 _ _ hk2) e1
                · omega
          refine ⟨⟨by omega, by omega⟩, ⟨by omega, by omega⟩, by omega, k193 hP hY cs ⟨⟨v0, v1⟩, i0, i1⟩ (fun hn => absurd hy hn) (fun _ σ4 r2 s2 hk3 c4 f4 => ?_)⟩
          obtain ⟨-, es⟩ := RKp_uniq hk2 hk3
          subst es
          have hI5 := rkI_fr hI4 f4
          have g4 : fr rkM σ0 σ4 := fc (fr_trans (fc (fc g f2) f3) fs) f4
          show wp _ 211 136 _ [vL _] _ _
          rw [x211_136]
          refine ⟨lCmp_in, fun k => ?_, fun _ => ?_⟩
          · rw [z64, lCmp_lt, oI ⟨by omega, by omega⟩, oI ⟨by omega, by omega⟩] at k; omega
          rw [x211_145]
          refine k180 hP c4 ?_
          show wp _ 211 151 _ [vL _, vL _] _ _
          rw [x211_151]
          refine ⟨lCmp_in, fun _ => ?_, fun k => ?_⟩
          · rw [x211_157, oI ⟨by omega, by omega⟩]
            refine ⟨by omega, k181 hP c4 s0 s1 ?_⟩
            have hkd := (st_at hP s0 s1).1
            have how := (own_spec hP.1 s0 s1).1
            show wp _ 211 164 _ [vL _] _ _
            rw [x211_164, oI ⟨by omega, by omega⟩]
            refine ⟨by omega, k182 hP c4 s0 s1 ?_⟩
            show wp _ 211 173 _ [vL _] _ _
            rw [x211_173, oI ⟨by omega, by omega⟩]
            refine ⟨by omega, k199 hP hl hY c4 how.1 (by omega) (fun σ5 c5 f5 => ?_)⟩
            have hI6 := rkI_fr hI5 f5
            have g5 : fr rkM σ0 σ5 := fc g4 f5
            have hnc : 0 < nc ys (own P s) := (nc_pos hY).mpr ⟨pi, pi0, pi1, pie⟩
            show wp _ 211 182 _ [vL _] _ _
            rw [bL_t hnc, x211_182]
            refine ⟨lCmp_in, fun _ => ?_, fun k => absurd (lCmp_eq.mpr rfl) k⟩
            rw [x211_187]
            have p234 : ∀ (b2 b6 b7 b8 b9 b11 b13 : Option AV), wp (t - 3 - 1 - 3 - 1 - 1 - 1) 211 234 [some (vR 0), some (vL (BitVec.ofInt 64 rr)), b2, some (vR 53), some (vI v), some (vI i), b6, b7, b8, b9, some (vL (BitVec.ofInt 64 (kd P s))), b11, some (vL (BitVec.ofInt 64 (own P s))), b13] [] σ5 Q := fun b2 b6 b7 b8 b9 b11 b13 => by
              rw [x211_234]
              refine ⟨lCmp_in, fun k3 => ?_, fun _ => next _ _ _ _ _ _ _ _ _ _ _ (by omega) c5 g5 hI6⟩
              rw [lCmp_lt, oI ⟨by omega, by omega⟩, oI ⟨by omega, by omega⟩] at k3
              have hw := w3 k3
              rw [x211_243]
              refine ⟨⟨by omega, by omega⟩, fun _ => next _ _ _ _ _ _ _ _ _ _ _ (by omega) c5 g5 hI6, fun q4 => ?_⟩
              rw [x211_249]
              have e4 : (v - 4) / 4 = own P s := by omega
              refine ⟨⟨by omega, by omega⟩, ⟨by omega, by omega⟩, lCmp_in, fun _ => next _ _ _ _ _ _ _ _ _ _ _ (by omega) c5 g5 hI6, fun k => ?_⟩
              rw [e4] at k
              exact absurd (lCmp_eq.mpr rfl) k
            have p210 : ∀ (b2 b6 b7 b8 b9 b11 b13 : Option AV), wp (t - 3 - 1 - 3 - 1 - 1 - 1) 211 210 [some (vR 0), some (vL (BitVec.ofInt 64 rr)), b2, some (vR 53), some (vI v), some (vI i), b6, b7, b8, b9, some (vL (BitVec.ofInt 64 (kd P s))), b11, some (vL (BitVec.ofInt 64 (own P s))), b13] [] σ5 Q := fun b2 b6 b7 b8 b9 b11 b13 => by
              rw [x211_210]
              refine ⟨lCmp_in, fun k4 => ?_, fun _ => p234 _ _ _ _ _ _ _⟩
              rw [lCmp_eq, oI_inj ⟨by omega, by omega⟩ ⟨by omega, by omega⟩] at k4
              have hw := w4 k4
              rw [x211_219]
              refine ⟨⟨by omega, by omega⟩, fun k => absurd k (by omega), fun _ => ?_⟩
              rw [x211_226]
              exact ⟨⟨by omega, by omega⟩, ⟨by omega, by omega⟩, fun _ => p234 _ _ _ _ _ _ _, fun k => absurd hw.2 k⟩
            refine ⟨lCmp_in, fun k1 => ?_, fun _ => p210 _ _ _ _ _ _ _⟩
            rw [lCmp_eq, o64, oI_inj ⟨by omega, by omega⟩ ⟨by omega, by omega⟩] at k1
            have hw := w1 k1
            rw [x211_194]
            refine ⟨lCmp_in, fun _ => p210 _ _ _ _ _ _ _, fun k2 => ?_⟩
            rw [x211_201]
            refine ⟨lCmp_in, fun _ => p210 _ _ _ _ _ _ _, fun k3 => ?_⟩
            rcases hw with e | e
            · rw [e, ← z64] at k2; exact absurd (lCmp_eq.mpr rfl) k2
            · rw [e] at k3; exact absurd (lCmp_eq.mpr rfl) k3
          · rw [lCmp_lt, oI ⟨by omega, by omega⟩, oI (tot_in hP)] at k; omega
        · rw [bit1 i0 (by omega)] at k
          have := (SW_wS (im ys (Lf P ys 0) v) i.toNat (by omega)).mpr (by rw [show ((i.toNat : Nat) : Int) = i by omega]; exact hy)
          exact absurd this k
    · rw [lCmp_lt, s20 (by omega) (by omega), oI ⟨by omega, by omega⟩] at k; omega
theorem rk1 (hP : okP P) (hY : isC P 0 ys) {σ0 : St} {R : Nat} {rr : Int} (hr : RDn P ys 0 rr) (hk : ∀ (t : Nat) (σ' : St) (a2 a4 a5 a6 a7 a8 a9 a10 a11 a12 a13 : Option AV), R ≤ t → CI P 0 σ' → fr rkM σ0 σ' → rkI P ys 20 0 σ' → wp t 211 276 [some (vR 0), some (vL (BitVec.ofInt 64 rr)), a2, some (vR 53), a4, a5, a6, a7, a8, a9, a10, a11, a12, a13] [] σ' Q) :
    ∀ (d : Nat) (v : Int) (t : Nat) (σ1 : St) (a2 a5 a6 a7 a8 a9 a10 a11 a12 a13 : Option AV), 0 ≤ v → v + d = 20 → R + 440 * d ≤ t → CI P 0 σ1 → fr rkM σ0 σ1 → rkI P ys v 0 σ1 → wp t 211 19 [some (vR 0), some (vL (BitVec.ofInt 64 rr)), a2, some (vR 53), some (vI v), a5, a6, a7, a8, a9, a10, a11, a12, a13] [] σ1 Q
  | 0, v, t, σ1, a2, a5, a6, a7, a8, a9, a10, a11, a12, a13, v0, hd, ht, h, g, hI => by
    have e : v = 20 := by omega
    subst e
    rw [x211_19]
    exact ⟨⟨by omega, by omega⟩, fun k => absurd k (by omega), fun _ => hk t σ1 _ _ _ _ _ _ _ _ _ _ _ (by omega) h g hI⟩
  | d + 1, v, t, σ1, a2, a5, a6, a7, a8, a9, a10, a11, a12, a13, v0, hd, ht, h, g, hI => by
    have hm := m8_rng hP
    rw [x211_19]
    refine ⟨⟨by omega, by omega⟩, fun _ => ?_, fun k => absurd (show v < 20 by omega) k⟩
    rw [x211_26]
    refine rk2 hP hY v0 (by omega) hr (σ0 := σ0) (R := R + 440 * d) (fun t3 σ3 b2 b5 b6 b7 b8 b9 b10 b11 b12 b13 h1 h2 h3 h4 => ?_) (20 + 3 * mny P 4 (-1)).toNat 0 t σ1 _ _ _ _ _ _ _ _ _ (by omega) (by omega) (by omega) h g hI
    rw [x211_270]
    exact rk1 hP hY hr hk d (v + 1) t3 σ3 _ _ _ _ _ _ _ _ _ _ (by omega) (by omega) h1 h2 h3 h4
/-- ranks, behind its making of the row -/
theorem k211 (hP : okP P) (hY : isC P 0 ys) {rr : Int} (hr : RDn P ys 0 rr) (hN : inR (FN P ys 0)) (ht : 9000 ≤ t) (h : CI P 0 σ) (h53 : gI σ 53 (-1) = 60) (h1 : gL σ 53 1 = BitVec.ofNat 64 0) {a2 a4 a5 a6 a7 a8 a9 a10 a11 a12 a13 : Option AV} (hq : ∀ σ', CI P 0 σ' → fr rkM σ σ' → Q (.inl (some (vI 1))) σ') :
    wp t 211 16 [some (vR 0), some (vL (BitVec.ofInt 64 rr)), a2, some (vR 53), a4, a5, a6, a7, a8, a9, a10, a11, a12, a13] [] σ Q := by
  have hrr := RDn_rng hP hY hr
  have hl : (0 : Int) ≤ 0 ∧ (0 : Int) ≤ 2 := by omega
  rw [x211_16]
  refine rk1 hP hY hr (σ0 := σ) (R := 100) (fun t3 σ3 b2 b4 b5 b6 b7 b8 b9 b10 b11 b12 b13 g1 c3 f3 hI => ?_) 20 0 t σ _ _ _ _ _ _ _ _ _ _ (by omega) (by omega) (by omega) h fr_refl ⟨h53, ?_⟩
  · have hF := FN_0 hP hY
    have hR := RD_0 hr
    have hFR : FN P ys 0 = 0 ↔ rr = 0 := hF.2.trans hR.2.symm
    have fin : ∀ (z : Int) (b0 b1 b2 b4 b5 b6 b7 b8 b9 b10 b11 b12 b13 : Option AV) (σ4 : St), CI P 0 σ4 → fr rkM σ σ4 → wp t3 211 318 [b0, b1, b2, some (vR 53), b4, b5, b6, b7, b8, b9, b10, b11, b12, b13] [] σ4 Q := fun z b0 b1 b2 b4 b5 b6 b7 b8 b9 b10 b11 b12 b13 σ4 c4 f4 => by
      rw [x211_318, x211_323]; exact ⟨Or.inr rfl, hq σ4 c4 f4⟩
    rw [x211_276]
    have both : ∀ (z : Int), (z = if rr = 0 then 0 else 1) → ∀ (b2 b4 b5 b6 b7 b8 b9 b10 b11 b12 b13 : Option AV), wp t3 211 287 [some (vR 0), some (vL (BitVec.ofInt 64 rr)), b2, some (vR 53), b4, b5, b6, b7, b8, b9, b10, b11, b12, b13] [vI z] σ3 Q := fun z hz b2 b4 b5 b6 b7 b8 b9 b10 b11 b12 b13 => by
      rw [x211_287]
      refine k188 hP hl hY c3 hN (fun σ4 c4 f4 => ?_)
      have hI4 := rkI_fr hI f4
      have f5 : fr rkM σ σ4 := fr_trans f3 (fr_mono f4 (fun c j k => Or.inl k))
      show wp _ 211 291 _ [vL _, vI _] _ _
      rw [x211_291]
      by_cases e : rr = 0
      · rw [if_pos e] at hz
        subst hz
        refine ⟨lCmp_in, fun k => ?_, fun _ => ?_⟩
        · rw [z64, lCmp_gt, oI hN, oI ⟨by omega, by omega⟩, hFR.mpr e] at k; omega
        rw [x211_300, x211_301]
        refine ⟨⟨by decide, by decide⟩, fun _ => ?_, fun k => absurd rfl k⟩
        rw [x211_304]
        refine ⟨lCmp_in, fun _ => fin 0 _ _ _ _ _ _ _ _ _ _ _ _ _ σ4 c4 f5, fun k => ?_⟩
        rw [e, ← z64] at k
        exact absurd (lCmp_eq.mpr rfl) k
      · rw [if_neg e] at hz
        subst hz
        refine ⟨lCmp_in, fun _ => ?_, fun k => ?_⟩
        · rw [x211_296, x211_301]
          refine ⟨⟨by decide, by decide⟩, fun _ => ?_, fun k => absurd rfl k⟩
          rw [x211_304]
          refine ⟨lCmp_in, fun _ => fin 0 _ _ _ _ _ _ _ _ _ _ _ _ _ σ4 c4 f5, fun k => ?_⟩
          rw [x211_310]
          refine ⟨⟨by omega, by rw [hI4.1]; omega⟩, lCmp_in, fun _ => fin 0 _ _ _ _ _ _ _ _ _ _ _ _ _ σ4 c4 f5, fun k2 => ?_⟩
          obtain ⟨v', t', q1, q2, q3, q4⟩ := RK_one hP hY hr (by omega)
          have := hI4.2.2 ⟨v', t', ⟨q1.1, Or.inl q1.2⟩, q2, q3, q4⟩
          rw [z64, lCmp_gt, oI ⟨by omega, by omega⟩] at k2
          exact absurd this k2
        · have hne : FN P ys 0 ≠ 0 := fun q => e (hFR.mp q)
          rw [z64, lCmp_gt, oI hN, oI ⟨by omega, by omega⟩] at k
          have := hF.1
          omega
    refine ⟨lCmp_in, fun k => ?_, fun k => ?_⟩
    · rw [z64, lCmp_gt, oI ⟨by omega, by omega⟩, oI ⟨by omega, by omega⟩] at k
      rw [x211_282]; exact both 1 (by rw [if_neg (by omega)]) _ _ _ _ _ _ _ _ _ _ _
    · rw [z64, lCmp_gt, oI ⟨by omega, by omega⟩, oI ⟨by omega, by omega⟩] at k
      rw [x211_286]; exact both 0 (by rw [if_pos (by omega)]) _ _ _ _ _ _ _ _ _ _ _
  · rw [h1]
    refine ⟨by decide, fun hD => ?_⟩
    obtain ⟨v', t', ⟨q1, q2⟩, _, q3, _⟩ := hD
    have := (im_rng hP hY q3).2.1
    omega
end LR
