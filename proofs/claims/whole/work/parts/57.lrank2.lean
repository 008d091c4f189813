/-! the law's ranks: rounds -/
def ltS (s : Int) : Int → Int → Prop := fun _ n => n < s
/-- in an arrangement with the limit 0 a function has one context at most, and the places go with the functions -/
theorem cx0 {P : Pg} (hP : okP P) {xs : List Int} (hC : isC P 0 xs) {e : Int} (he : e ∈ xs) : e % 2353 = 0 := by
  have h := RS_VE hP ((hC.2 e).mp he)
  rcases VE_cases hP h with ⟨h1, _⟩ | ⟨h1, _⟩
  · exact h1
  · exact absurd rfl h1
theorem own_lt {P : Pg} (hz : okZ P) {m n : Int} (m0 : 0 ≤ m) (n1 : n < tot P) (h : m ≤ n) : own P m ≤ own P n := by
  obtain ⟨g0, g1, g2, g3⟩ := hz
  unfold own
  repeat' split
  all_goals omega
theorem itm_lx {P : Pg} (hP : okP P) {xs : List Int} (hC : isC P 0 xs) {i s i' n' : Int} (h : itm P xs i s) (h' : itm P xs i' n') : lx i s i' n' ↔ n' < s := by
  have k1 := cx0 hP hC (la_mem h.1.1 h.1.2)
  have k2 := cx0 hP hC (la_mem h'.1.1 h'.1.2)
  have o1 := h.2.2
  have o2 := h'.2.2
  unfold lx
  constructor
  · rintro (a | ⟨rfl, a⟩)
    · have hl := asc_la hC.1 h'.1.1 a h.1.2
      by_cases q : n' < s
      · exact q
      · have := own_lt hP.1 h.2.1.1 h'.2.1.2 (show s ≤ n' by omega)
        omega
    · exact a
  · intro a
    have := own_lt hP.1 h'.2.1.1 h.2.1.2 (show n' ≤ s by omega)
    by_cases q : i' < i
    · exact Or.inl q
    · by_cases q2 : i' = i
      · exact Or.inr ⟨q2, a⟩
      · have hl := asc_la hC.1 h.1.1 (show i < i' by omega) h'.1.2
        omega
theorem GB_ltS {P : Pg} (hP : okP P) {xs : List Int} (hC : isC P 0 xs) {i s : Int} (h : itm P xs i s) (j : Nat) : GB P xs 0 j (lx i s) = GB P xs 0 j (ltS s) := iff_fun (fun c u => by
  unfold GB
  constructor
  · rintro (k | ⟨i', n', ⟨k1, k2⟩, k3⟩)
    · exact Or.inl k
    · exact Or.inr ⟨i', n', ⟨k1, (itm_lx hP hC h k1).mp k2⟩, k3⟩
  · rintro (k | ⟨i', n', ⟨k1, k2⟩, k3⟩)
    · exact Or.inl k
    · exact Or.inr ⟨i', n', ⟨k1, (itm_lx hP hC h k1).mpr k2⟩, k3⟩)
theorem GB_ltS1 {P : Pg} (hP : okP P) {xs : List Int} (hC : isC P 0 xs) {i s : Int} (h : itm P xs i s) (j : Nat) : GB P xs 0 j (lx i (s + 1)) = GB P xs 0 j (ltS (s + 1)) := iff_fun (fun c u => by
  rw [GB_step h, GB_ltS hP hC h]
  unfold GB
  constructor
  · rintro ((k | ⟨i', n', ⟨k1, k2⟩, k3⟩) | k)
    · exact Or.inl k
    · exact Or.inr ⟨i', n', ⟨k1, by unfold ltS at *; omega⟩, k3⟩
    · exact Or.inr ⟨i, s, ⟨h, by unfold ltS; omega⟩, k⟩
  · rintro (k | ⟨i', n', ⟨k1, k2⟩, k3⟩)
    · exact Or.inl (Or.inl k)
    · unfold ltS at k2
      by_cases q : n' < s
      · exact Or.inl (Or.inr ⟨i', n', ⟨k1, q⟩, k3⟩)
      · have e : n' = s := by omega
        have k4 := k1.2.2
        have k5 := h.2.2
        have k6 := cx0 hP hC (la_mem h.1.1 h.1.2)
        have k7 := cx0 hP hC (la_mem k1.1.1 k1.1.2)
        rw [e] at k4
        have e2 : i' = i := nd_la (asc_nd hC.1) k1.1.1 k1.1.2 h.1.1 h.1.2 (by omega)
        rw [e, e2] at k3
        exact Or.inr k3)
theorem GB_ltSn {P : Pg} {xs : List Int} {lim s : Int} {j : Nat} (h : ∀ i, ¬ itm P xs i s) : GB P xs lim j (ltS (s + 1)) = GB P xs lim j (ltS s) := iff_fun (fun c u => by
  unfold GB
  constructor
  · rintro (k | ⟨i', n', ⟨k1, k2⟩, k3⟩)
    · exact Or.inl k
    · unfold ltS at k2
      by_cases q : n' < s
      · exact Or.inr ⟨i', n', ⟨k1, q⟩, k3⟩
      · have e : n' = s := by omega
        rw [e] at k1; exact absurd k1 (h i')
  · rintro (k | ⟨i', n', ⟨k1, k2⟩, k3⟩)
    · exact Or.inl k
    · exact Or.inr ⟨i', n', ⟨k1, by unfold ltS at *; omega⟩, k3⟩)
theorem GB_lt0 {P : Pg} {xs : List Int} {lim : Int} {j : Nat} : GB P xs lim j (ltS 0) = Gr P xs lim j := iff_fun (fun c u => by
  unfold GB
  constructor
  · rintro (k | ⟨i', n', ⟨k1, k2⟩, k3⟩)
    · exact k
    · have := k1.2.1.1; unfold ltS at k2; omega
  · exact Or.inl)
theorem GB_ltt {P : Pg} {xs : List Int} {lim : Int} {j : Nat} : GB P xs lim j (ltS (tot P)) = Gr P xs lim (j + 1) := iff_fun (fun c u => by
  constructor
  · exact GB_Gr
  · rintro (k | ⟨i', n', k1, k3⟩)
    · exact Or.inl k
    · exact Or.inr ⟨i', n', ⟨k1, k1.2.1.2⟩, k3⟩)
/-- ranks of the facts that F holds -/
def RKS (P : Pg) (xs : List Int) (F : Fa) (σ : St) : Prop := (∀ k, 0 ≤ k → k < 1936 → inR (gI σ 64 k)) ∧ ∀ a b, 0 ≤ a → a < 44 → 0 ≤ b → b < 44 → (0 < gI σ 64 (44 * a + b) ↔ im xs F a b) ∧ (im xs F a b → RKp P xs 0 a b (gI σ 64 (44 * a + b)) (gI σ 65 (44 * a + b))) ∧ 0 ≤ gI σ 64 (44 * a + b)
theorem RKS_fr {M : Nat → Int → Prop} {P : Pg} {xs : List Int} {F : Fa} {σ σ' : St} (h : RKS P xs F σ) (g : fr M σ σ') (h1 : ∀ j, ¬ M 64 j) (h2 : ∀ j, ¬ M 65 j) : RKS P xs F σ' :=
  ⟨fun k k0 k1 => by rw [fr_I g _ _ (h1 k)]; exact h.1 k k0 k1, fun a b a0 a1 b0 b1 => by rw [fr_I g _ _ (h1 _), fr_I g _ _ (h2 _)]; exact h.2 a b a0 a1 b0 b1⟩
def kM : Nat → Int → Prop := fun c j => c = 62 ∨ c = 64 ∨ c = 65 ∨ (c = 53 ∧ j = 20)
section LR2
variable {t : Nat} {σ : St} {Q : Res → St → Prop} {P : Pg} {xs : List Int}
/-- inside a round -/
def RI (P : Pg) (xs : List Int) (j : Nat) (s : Int) (more : Int) (σ : St) : Prop :=
  LPr σ P ∧ (LX σ xs ∧ ((∀ c u, Gc 63 σ c u ↔ Gr P xs 0 j c u) ∧ ((∀ c u, Gc 62 σ c u ↔ GB P xs 0 j (ltS s) c u) ∧ (RKS P xs (GB P xs 0 j (ltS s)) σ ∧ (gI σ 53 23 = j ∧ ((more = 0 ∧ ∀ c u, GB P xs 0 j (ltS s) c u → Gr P xs 0 j c u) ∨ (more = 1 ∧ ∃ c u, GB P xs 0 j (ltS s) c u ∧ ¬ Gr P xs 0 j c u)))))))
theorem rki (hP : okP P) (hC : isC P 0 xs) {j : Nat} (hj : j ≤ 23104) (hq : ∀ σ' more a3 a4, RI P xs j (tot P) more σ' → fr kM σ σ' → wp t 218 156 [some (vR 53), some (vI more), some (vI (tot P)), a3, a4] [] σ' Q) :
    ∀ (d : Nat) (s : Int) (σ1 : St) (more : Int) (a3 a4 : Option AV), 0 ≤ s → s + d = tot P → RI P xs j s more σ1 → fr kM σ σ1 → wp t 218 77 [some (vR 53), some (vI more), some (vI s), a3, a4] [] σ1 Q
  | 0, s, σ1, more, a3, a4, s0, hd, h, hf => by
    have ht := tot_rng hP.1
    have e : s = tot P := by omega
    simp only [x218_77, e181 h.1, x218_82, aft_l, aft_r, optL_s, optL_n, xgo_n, xgo_s, List.cons_append, List.nil_append, List.append_nil, true_and, and_true, Nat.sub_zero, Nat.zero_le, true_implies, false_implies, implies_true, not_true_eq_false, not_false_eq_true, true_or, or_true]
    refine ⟨⟨⟨by omega, by omega⟩, ⟨by omega, by omega⟩⟩, fun h => by omega, fun _ => ?_⟩
    rw [e] at h ⊢
    exact hq σ1 more _ _ h hf
  | d + 1, s, σ1, more, a3, a4, s0, hd, h, hf => by
    have ht := tot_rng hP.1
    have hx := xok_of hP hC
    obtain ⟨h1, h2, h3, h4, h5, h6, h7⟩ := h
    have n1 : s < tot P := by omega
    have hp := plc_rng hP.1 s0 n1
    have ho := plc_div hP.1 s0 n1
    have hor := (own_spec hP.1 s0 n1).1
    simp only [x218_77, e181 h1, x218_82, x218_85, e182 h1 hP.1 s0 n1, x218_90, ho, aft_l, aft_r, optL_s, optL_n, xgo_n, xgo_s, List.cons_append, List.nil_append, List.append_nil, true_and, and_true, Nat.sub_zero, Nat.zero_le, true_implies, false_implies, implies_true, not_true_eq_false, not_false_eq_true, true_or, or_true]
    refine ⟨⟨⟨by omega, by omega⟩, ⟨by omega, by omega⟩⟩, fun _ => ⟨⟨hp.1, by omega⟩, ?_⟩, fun h => by omega⟩
    have c206' := fun Q h1 h2 => c206 (t := 0) (σ := σ1) (zs := xs) (f := own P s) (k := 0) (Q := Q) h2 hor.1 hor.2 (by omega) (by omega) h1
    rw [cod_0] at c206'
    refine c206' _ (fun i i0 i1 hm => ?_) h2 (fun hm => ?_)
    · have hl := h2.1.2
      have hi : itm P xs i s := ⟨⟨i0, i1⟩, ⟨s0, n1⟩, by rw [hm]; omega⟩
      have e63 : Gc 63 σ1 = Gr P xs 0 j := iff_fun h3
      have e62 : Gc 62 σ1 = GB P xs 0 j (ltS s) := iff_fun h4
      have hf20 : fr fM σ1 (sI σ1 53 20 0) := fr_sI fr_refl (by unfold fM; omega)
      have e63' : Gc 63 (sI σ1 53 20 0) = Gr P xs 0 j := by rw [Gc_fr hf20 (fun j => by unfold fM; omega)]; exact e63
      have e62' : Gc 62 (sI σ1 53 20 0) = GB P xs 0 j (ltS s) := by rw [← e62]; rfl
      simp only [x218_100, x218_110, aft_l, aft_r, optL_s, optL_n, xgo_n, xgo_s, List.cons_append, List.nil_append, List.append_nil, true_and, and_true, Nat.sub_zero, Nat.zero_le, true_implies, false_implies, implies_true, not_true_eq_false, not_false_eq_true, true_or, or_true]
      refine ⟨⟨by omega, by omega⟩, fun h => by omega, fun _ => ?_⟩
      refine c215 (r1 := 63) (Or.inr rfl) hP ⟨by omega, by omega⟩ (LPr_f h1 hf20) (LX_f h2 hf20) hC hi (by rw [e63']; exact Gr_ok hP hC j) (fun σ2 g => ?_)
      obtain ⟨g1, g2, g3, g4, g5⟩ := g
      rw [e63'] at g2 g3
      rw [e62'] at g1 g3 g4
      have f12 : fr fM σ1 σ2 := fr_trans hf20 g5
      have k12 : fr kM σ σ2 := fr_trans hf (fr_mono f12 (fun c j k => by unfold fM at k; unfold kM; omega))
      -- what is there now
      have G2 : ∀ c u, Gc 62 σ2 c u ↔ GB P xs 0 j (ltS (s + 1)) c u := fun c u => by
        rw [← GB_ltS1 hP hC hi, GB_step hi, GB_ltS hP hC hi]
        constructor
        · intro k
          exact g3 (fun c u => GB P xs 0 j (ltS s) c u ∨ DD P xs 0 (Gr P xs 0 j) i s c u) (Gr P xs 0 j) (fun c u k => Or.inl k) (fun c u k => k) (fun e => absurd e (by decide)) (fun c u k => Or.inr k) c u k
        · rintro (k | k)
          · exact g1 c u k
          · exact g2 c u k
      have sub : ∀ c u, GB P xs 0 j (ltS s) c u → GB P xs 0 j (ltS (s + 1)) c u := fun c u k => (G2 c u).mp (g1 c u k)
      have q63 : ∀ c u, Gc 63 σ2 c u ↔ Gr P xs 0 j c u := fun c u => by rw [Gc_fr f12 (fun j => by unfold fM; omega)]; exact h3 c u
      have q23 : gI σ2 53 23 = j := (fr_I f12 _ _ (by unfold fM; omega)).trans h6
      have f20 : gI (sI σ1 53 20 0) 53 20 = 0 := by rw [gI_sI, if_pos ⟨rfl, rfl⟩]
      rw [f20] at g4
      simp only [x218_127, aft_l, aft_r, optL_s, optL_n, xgo_n, xgo_s, List.cons_append, List.nil_append, List.append_nil, true_and, and_true, Nat.sub_zero, Nat.zero_le, true_implies, false_implies, implies_true, not_true_eq_false, not_false_eq_true, true_or, or_true]
      rcases g4 with ⟨e2, n2⟩ | ⟨e2, n2⟩
      · obtain ⟨c, u, n2, n3⟩ := n2.resolve_left (by omega)
        rw [e2]
        refine ⟨by decide, fun k => absurd k (by decide), fun _ => ?_⟩
        rw [x218_137, q23]
        have hok2 : okF xs (Gc 62 σ2) := by
          have : Gc 62 σ2 = GB P xs 0 j (ltS (s + 1)) := iff_fun G2
          rw [this]; exact GB_ok hP hC j _
        have hR2 := RKS_fr h5 f12 (fun j => by unfold fM; omega) (fun j => by unfold fM; omega)
        refine c217 hx (LX_f h2 f12) hok2 (r := (j : Int) + 1) (s := s) (by omega) hR2.1 ⟨by omega, by omega⟩ (fun σ3 w1 w2 w3 => ?_)
        have e62b : Gc 62 σ2 = GB P xs 0 j (ltS (s + 1)) := iff_fun G2
        rw [e62b] at w1
        have im_sub : ∀ a b, im xs (GB P xs 0 j (ltS s)) a b → im xs (GB P xs 0 j (ltS (s + 1))) a b := fun a b k => im_mono sub k
        simp only [x218_150, aft_l, aft_r, optL_s, optL_n, xgo_n, xgo_s, List.cons_append, List.nil_append, List.append_nil, true_and, and_true, Nat.sub_zero, Nat.zero_le, true_implies, false_implies, implies_true, not_true_eq_false, not_false_eq_true, true_or, or_true]
        refine rki hP hC hj hq d (s + 1) σ3 1 _ _ (by omega) (by omega) ⟨LP_fr (LPr_f h1 f12) w3 (fun c j k => by unfold nM at k; omega), LX_fr (LX_f h2 f12) w3 (by unfold nM; omega) (fun j => by unfold nM; omega) (fun j => by unfold nM; omega), fun c u => by rw [Gc_fr w3 (fun j => by unfold nM; omega)]; exact q63 c u, fun c u => by rw [Gc_fr w3 (fun j => by unfold nM; omega)]; exact G2 c u, ⟨w2, fun a b a0 a1 b0 b1 => ?_⟩, (fr_I w3 _ _ (by unfold nM; omega)).trans q23, Or.inr ⟨rfl, ?_⟩⟩ (fr_trans k12 (fr_mono w3 (fun c j k => by unfold nM at k; unfold kM; omega)))
        · obtain ⟨p1, p2, p3⟩ := hR2.2 a b a0 a1 b0 b1
          obtain ⟨u1, u2⟩ := w1 a b a0 a1 b0 b1
          by_cases q : 0 < gI σ2 64 (44 * a + b)
          · obtain ⟨v1, v2⟩ := u1 q
            have im1 := p1.mp q
            rw [v1, v2]
            exact ⟨⟨fun _ => im_sub a b im1, fun _ => q⟩, fun _ => p2 im1, p3⟩
          · have im1 : ¬ im xs (GB P xs 0 j (ltS s)) a b := fun k => q (p1.mpr k)
            by_cases z : im xs (GB P xs 0 j (ltS (s + 1))) a b
            · obtain ⟨v1, v2⟩ := (u2 q).1 z
              rw [v1, v2]
              refine ⟨⟨fun _ => z, fun _ => by omega⟩, fun _ => ⟨j, i, rfl, hi, ?_, ?_⟩, by omega⟩
              · rw [GB_ltS hP hC hi]; exact im1
              · rw [GB_ltS1 hP hC hi]; exact z
            · obtain ⟨v1, v2⟩ := (u2 q).2 z
              rw [v1, v2]
              exact ⟨⟨fun k => absurd k q, fun k => absurd k z⟩, fun k => absurd k z, p3⟩
        · rcases h7 with ⟨_, k⟩ | ⟨_, c2, u2, k1, k2⟩
          · exact ⟨c, u, (G2 c u).mp n2, fun k2 => n3 (Or.inl k2)⟩
          · exact ⟨c2, u2, sub c2 u2 k1, k2⟩
      · rw [e2]
        refine ⟨by decide, fun _ => ?_, fun k => absurd rfl k⟩
        rw [x218_134, x218_150]
        have eB : GB P xs 0 j (ltS (s + 1)) = GB P xs 0 j (ltS s) := iff_fun (fun c u => ⟨fun k => n2 c u ((G2 c u).mpr k), sub c u⟩)
        refine rki hP hC hj hq d (s + 1) σ2 more _ _ (by omega) (by omega) ⟨LPr_f h1 f12, LX_f h2 f12, q63, G2, by rw [eB]; exact RKS_fr h5 f12 (fun j => by unfold fM; omega) (fun j => by unfold fM; omega), q23, by rw [eB]; exact h7⟩ k12
    · have hno : ∀ i, ¬ itm P xs i s := fun i k => by
        have k1 := cx0 hP hC (la_mem k.1.1 k.1.2)
        have k2 := k.2.2
        apply hm
        rw [show own P s * 2353 + 0 = la xs i by omega]
        exact la_mem k.1.1 k.1.2
      have eB := GB_ltSn (P := P) (xs := xs) (lim := 0) (j := j) hno
      simp only [x218_100, (show inR (-1 : Int) = True from eq_true ⟨by decide, by decide⟩), Int.reduceLT, Int.reduceNeg, x218_107, x218_150, aft_l, aft_r, optL_s, optL_n, xgo_n, xgo_s, List.cons_append, List.nil_append, List.append_nil, true_and, and_true, Nat.sub_zero, Nat.zero_le, true_implies, false_implies, implies_true, not_true_eq_false, not_false_eq_true, true_or, or_true]
      exact rki hP hC hj hq d (s + 1) σ1 more _ _ (by omega) (by omega) ⟨h1, h2, h3, by rw [eB]; exact h4, by rw [eB]; exact h5, h6, by rw [eB]; exact h7⟩ hf
def FRK (P : Pg) (σ : St) : Prop := ∃ xs, isC P 0 xs ∧ (RKS P xs (Lf P xs 0) σ ∧ ∃ j : Nat, gI σ 53 23 = j ∧ ((∀ c u, Gr P xs 0 (j + 1) c u → Gr P xs 0 j c u) ∧ ∀ i, i < j → ∃ c u, Gr P xs 0 (i + 1) c u ∧ ¬ Gr P xs 0 i c u))
theorem FRK_fr {M : Nat → Int → Prop} {σ σ' : St} (h : FRK P σ) (g : fr M σ σ') (h1 : ∀ j, ¬ M 64 j) (h2 : ∀ j, ¬ M 65 j) (h3 : ¬ M 53 23) : FRK P σ' := by
  obtain ⟨xs, k1, k2, j, k3, k4⟩ := h
  exact ⟨xs, k1, RKS_fr k2 g h1 h2, j, (fr_I g _ _ h3).trans k3, k4⟩
def rkM : Nat → Int → Prop := fun c j => (60 ≤ c ∧ c ≤ 65) ∨ (c = 53 ∧ (j = 16 ∨ j = 20 ∨ j = 23))
end LR2
