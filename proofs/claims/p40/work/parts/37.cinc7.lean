/-! the class's inclusion: rounds -/
def RW (b : Nat) (P : Pg) (xs : List Int) (lim : Int) (j : Nat) (B : Int → Int → Prop) (σ : St) : Prop :=
  CXr (b + 1) σ P lim xs ∧ (RN 5 σ P ∧ (CD (b + 6) σ xs ∧ ((gI σ b 8 = 0 ∧ gI σ b 11 = j + 1) ∧ ((∀ c u, Gc (b + 4) σ c u ↔ Gr P xs lim j c u) ∧ ((∀ c u, Gc (b + 5) σ c u ↔ GB P xs lim j B c u) ∧
  ((∀ a t, 0 ≤ a → a < 44 → 0 ≤ t → t < 64 → (Hc (b + 8) σ a t ↔ im xs (GB P xs lim j B) a t)) ∧
  ((∀ a t, 0 ≤ a → a < 44 → 0 ≤ t → t < 44 → im xs (GB P xs lim j B) a t → RKp P xs lim a t (gI σ (b + 9) (a * 44 + t)) (gI σ (b + 10) (a * 44 + t))) ∧
  (gI σ b 9 = fpop (gL σ (b + 5)) ∧ ((gI σ b 10 = j ∧ ∀ c u, GB P xs lim j B c u → Gr P xs lim j c u) ∨ (gI σ b 10 = j + 1 ∧ ∃ c u, GB P xs lim j B c u ∧ ¬ Gr P xs lim j c u))))))))))
def SR (b : Nat) (P : Pg) (xs : List Int) (lim : Int) (j : Nat) (σ : St) : Prop :=
  CXr (b + 1) σ P lim xs ∧ (RN 5 σ P ∧ (CD (b + 6) σ xs ∧ (gI σ b 8 = 0 ∧ ((∀ c u, Gc (b + 5) σ c u ↔ Gr P xs lim j c u) ∧
  ((∀ a t, 0 ≤ a → a < 44 → 0 ≤ t → t < 64 → (Hc (b + 8) σ a t ↔ im xs (Gr P xs lim j) a t)) ∧
  ((∀ a t, 0 ≤ a → a < 44 → 0 ≤ t → t < 44 → im xs (Gr P xs lim j) a t → RKp P xs lim a t (gI σ (b + 9) (a * 44 + t)) (gI σ (b + 10) (a * 44 + t))) ∧
  (gI σ b 9 = fpop (gL σ (b + 5)) ∧ (gI σ b 10 = j ∧ ∀ i, i < j → ∃ c u, Gr P xs lim (i + 1) c u ∧ ¬ Gr P xs lim i c u))))))))
theorem iff_fun {A B : Fa} (h : ∀ c u, A c u ↔ B c u) : A = B := funext fun c => funext fun u => propext (h c u)
section CI7
variable {t : Nat} {σ : St} {Q : Res → St → Prop} {P : Pg}
theorem RW_WP_19 {xs : List Int} {lim n : Int} {j : Nat} {B : Int → Int → Prop} {σ : St} (hP : okP P) (hX : isC P lim xs) (h : RW 19 P xs lim j B σ) (h12 : gI σ 19 12 = n) : WP 19 24 27 25 xs (j + 1) n σ := by
  have hx := xok_of hP hX
  obtain ⟨_, _, h3, ⟨_, h5⟩, _, h7, h8, _⟩ := h
  refine ⟨h3, fun c u k => ?_, h5, h12⟩
  have k2 : GB P xs lim j B c u := (h7 c u).mp k
  obtain ⟨v1, v2⟩ := GB_ok hP hX j B c u k2
  have r1 := cdf_rng hx v1
  have r2 := cdf_rng hx v2
  exact ⟨v1, v2, (h8 _ _ r1.1 r1.2 r2.1 (by omega)).mpr ⟨c, u, k2, rfl, rfl⟩⟩
/-- a statement more -/
theorem RW_step_19 {xs : List Int} {lim i n : Int} {j : Nat} {σ σ' : St} (hP : okP P) (hi : itm P xs i n) (h : RW 19 P xs lim j (lx i n) σ) (hA : AW 1 19 24 27 28 29 xs (j + 1) n (DD P xs lim (Gc 23 σ) i n) σ σ') : RW 19 P xs lim j (lx i (n + 1)) σ' := by
  obtain ⟨h1, h2, h3, ⟨h4, h5⟩, h6, h7, h8, h9, h10, h11⟩ := h
  have hx := xok_of hP h1.1
  have eK : Gc 23 σ = Gr P xs lim j := iff_fun h6
  obtain ⟨a1, a2, a3, a4, a5⟩ := hA
  rw [eK] at a1 a2 a4
  have hG : ∀ c u, Gc 24 σ' c u ↔ GB P xs lim j (lx i (n + 1)) c u := fun c u => by
    rw [a1, GB_step hi]
    exact ⟨fun k => k.elim (fun q => Or.inl ((h7 c u).mp q)) Or.inr, fun k => k.elim (fun q => Or.inl ((h7 c u).mpr q)) Or.inr⟩
  have eB : GB P xs lim j (lx i (n + 1)) = fun c u => GB P xs lim j (lx i n) c u ∨ DD P xs lim (Gr P xs lim j) i n c u := iff_fun (fun c u => GB_step hi c u)
  have him : ∀ a t, im xs (GB P xs lim j (lx i (n + 1))) a t ↔ (im xs (GB P xs lim j (lx i n)) a t ∨ im xs (DD P xs lim (Gr P xs lim j) i n) a t) := fun a t => by rw [eB]; exact im_or
  refine ⟨CXr_fr_20 h1 a5 (fun j => by omega) (fun j => by omega) (by omega) (by omega), RN_fr h2 a5 (fun j => by omega) (fun j => by omega) (fun j => by omega) (fun j => by omega) (by omega), fun c hc => (fr_I a5 _ _ (by omega)).trans (h3 c hc), ⟨(fr_I a5 _ _ (by omega)).trans h4, (fr_I a5 _ _ (by omega)).trans h5⟩, fun c u => ?_, hG, fun a t a0 a1 t0 t1 => ?_, fun a t a0 a1 t0 t1 k => ?_, ?_, ?_⟩
  · rw [show Gc (19 + 4) σ' = Gc (19 + 4) σ from Gc_fr a5 (fun j => by omega)]; exact h6 c u
  · rw [him]
    obtain ⟨p1, p2⟩ := a2 a t a0 a1 t0 t1
    have q := h8 a t a0 a1 t0 t1
    by_cases d : Hc 27 σ a t
    · exact ⟨fun _ => Or.inl (q.mp d), fun _ => (p1 d).1⟩
    · have d' : ¬ im xs (GB P xs lim j (lx i n)) a t := fun k => d (q.mpr k)
      by_cases e : im xs (DD P xs lim (Gr P xs lim j) i n) a t
      · exact ⟨fun _ => Or.inr e, fun _ => ((p2 d).1 e).1⟩
      · exact ⟨fun k => absurd k ((p2 d).2 e), fun k => by
          rcases k with k | k
          · exact absurd k d'
          · exact absurd k e⟩
  · obtain ⟨p1, p2⟩ := a2 a t a0 a1 t0 (by omega)
    have q := h8 a t a0 a1 t0 (by omega)
    by_cases d : im xs (GB P xs lim j (lx i n)) a t
    · have d1 : Hc 27 σ a t := q.mpr d
      have e := (p1 d1).2 t1
      have e1 : gI σ' (19 + 9) (a * 44 + t) = gI σ (19 + 9) (a * 44 + t) := e.1
      have e2 : gI σ' (19 + 10) (a * 44 + t) = gI σ (19 + 10) (a * 44 + t) := e.2
      rw [e1, e2]; exact h9 a t a0 a1 t0 t1 d
    · have d1 : ¬ Hc 27 σ a t := fun k => d (q.mp k)
      have e : im xs (DD P xs lim (Gr P xs lim j) i n) a t := by
        rcases (him a t).mp k with k | k
        · exact absurd k d
        · exact k
      obtain ⟨_, e1, e2⟩ := (p2 d1).1 e
      have e1 : gI σ' (19 + 9) (a * 44 + t) = j + 1 := e1
      have e2 : gI σ' (19 + 10) (a * 44 + t) = n := e2
      rw [e1, e2]
      exact ⟨j, i, rfl, hi, d, k⟩
  · have : gI σ 19 9 = fpop (gL σ 24) := h10
    show gI σ' 19 9 = fpop (gL σ' 24)
    omega
  · rcases a4 with ⟨e, k⟩ | ⟨e, c, u, k1, k2⟩
    · rw [e]
      rcases h11 with ⟨e2, k2⟩ | ⟨e2, c, u, k2, k3⟩
      · refine Or.inl ⟨e2, fun c u q => ?_⟩
        rcases (GB_step hi c u).mp q with q | q
        · exact k2 c u q
        · exact k2 c u ((h7 c u).mp (k c u q))
      · exact Or.inr ⟨e2, c, u, (GB_step hi c u).mpr (Or.inl k2), k3⟩
    · refine Or.inr ⟨e, c, u, (GB_step hi c u).mpr (Or.inr k1), fun q => k2 ((h7 c u).mpr (Or.inl q))⟩
theorem RW_fr_19 {M : Nat → Int → Prop} {xs : List Int} {lim : Int} {j : Nat} {B : Int → Int → Prop} {σ σ' : St} (h : RW 19 P xs lim j B σ) (hf : fr M σ σ') (hM : ∀ c j, M c j → c = 19 ∧ j = 12) : RW 19 P xs lim j B σ' := by
  have n1 : ∀ c j, c ≠ 19 → ¬ M c j := fun c j k q => k (hM c j q).1
  have n2 : ∀ j, j ≠ 12 → ¬ M 19 j := fun j k q => k (hM _ j q).2
  obtain ⟨h1, h2, h3, ⟨h4, h5⟩, h6, h7, h8, h9, h10, h11⟩ := h
  have e5 : gL σ' (19 + 5) = gL σ (19 + 5) := funext fun j => fr_L hf _ _ (n1 _ _ (by decide))
  refine ⟨CXr_fr_20 h1 hf (fun j => n1 _ _ (by decide)) (fun j => n1 _ _ (by decide)) (n1 _ _ (by decide)) (n1 _ _ (by decide)), RN_fr h2 hf (fun j => n1 _ _ (by decide)) (fun j => n1 _ _ (by decide)) (fun j => n1 _ _ (by decide)) (fun j => n1 _ _ (by decide)) (n1 _ _ (by decide)), fun c hc => (fr_I hf _ _ (n1 _ _ (by decide))).trans (h3 c hc), ⟨(fr_I hf _ _ (n2 _ (by decide))).trans h4, (fr_I hf _ _ (n2 _ (by decide))).trans h5⟩, fun c u => ?_, fun c u => ?_, fun a t a0 a1 t0 t1 => ?_, fun a t a0 a1 t0 t1 k => ?_, ?_, ?_⟩
  · rw [show Gc (19 + 4) σ' = Gc (19 + 4) σ from Gc_fr hf (fun j => n1 _ _ (by decide))]; exact h6 c u
  · rw [show Gc (19 + 5) σ' = Gc (19 + 5) σ from Gc_fr hf (fun j => n1 _ _ (by decide))]; exact h7 c u
  · have := h8 a t a0 a1 t0 t1
    unfold Hc at *
    rw [fr_L hf (19 + 8) a (n1 _ _ (by decide))]; exact this
  · rw [fr_I hf (19 + 9) _ (n1 _ _ (by decide)), fr_I hf (19 + 10) _ (n1 _ _ (by decide))]; exact h9 a t a0 a1 t0 t1 k
  · rw [e5, fr_I hf 19 9 (n2 _ (by decide))]; exact h10
  · rw [fr_I hf 19 10 (n2 _ (by decide))]; exact h11
theorem rdn_19 {xs : List Int} {lim i f : Int} {j : Nat} (hP : okP P) (hl0 : 0 ≤ lim ∧ lim ≤ 2) (i0 : 0 ≤ i) (i1 : i < xs.length) (hf : la xs i / 2353 = f) (f0 : 0 ≤ f) (f1 : f ≤ 3) {fb nx : Int}
    (hq : ∀ σ' a2, RW 19 P xs lim j (lo (i + 1)) σ' → fr (fun c j => c = 24 ∨ c = 26 ∨ c = 27 ∨ c = 28 ∨ c = 29 ∨ (c = 19 ∧ (j = 9 ∨ j = 10 ∨ j = 12))) σ σ' → wp t 42 133 [some (vR 19), some (vR 5), a2, some (vI fb), some (vI nx), some (vI i), some (vI f), some (vI (stt P (f + 1)))] [] σ' Q) :
    ∀ (d : Nat) (n : Int) (σ1 : St) (a2 : Option AV), stt P f ≤ n → n + d = stt P (f + 1) → RW 19 P xs lim j (lx i n) σ1 → fr (fun c j => c = 24 ∨ c = 26 ∨ c = 27 ∨ c = 28 ∨ c = 29 ∨ (c = 19 ∧ (j = 9 ∨ j = 10 ∨ j = 12))) σ σ1 → wp t 42 103 [some (vR 19), some (vR 5), a2, some (vI fb), some (vI nx), some (vI i), some (vI f), some (vI n)] [] σ1 Q
  | 0, n, σ1, a2, n0, hd, h, hfr => by
    have hs := stt_rng hP.1 f0 f1
    have hs1 := stt_succ P f0 f1
    have ht := tot_rng hP.1
    have hz := okZ_at hP.1 f0 f1
    rw [x42_103_19, e89 h.2.1 f0 f1]
    simp only [x42_111_19, aft_l, aft_r, optL_s, optL_n, xgo_n, xgo_s, List.cons_append, List.nil_append, List.append_nil, true_and, and_true, Nat.sub_zero, Nat.zero_le, true_implies, false_implies, implies_true, not_true_eq_false, not_false_eq_true, true_or, or_true]
    refine ⟨⟨⟨by omega, by omega⟩, ⟨by omega, by omega⟩⟩, fun g => by omega, fun _ => ?_⟩
    have e : n = stt P (f + 1) := by omega
    rw [e] at h ⊢
    exact hq σ1 a2 (by unfold RW at *; rw [← GB_out hP.1 hf f0 f1]; exact h) hfr
  | d + 1, n, σ1, a2, n0, hd, h, hfr => by
    have hs := stt_rng hP.1 f0 f1
    have hs1 := stt_succ P f0 f1
    have ht := tot_rng hP.1
    have hz := okZ_at hP.1 f0 f1
    have hX := h.1
    have hi : itm P xs i n := ⟨⟨i0, i1⟩, ⟨by omega, by omega⟩, by
      have := own_of hP.1 f0 f1 (k := n - stt P f) (by omega) (by omega)
      rw [show stt P f + (n - stt P f) = n by omega] at this
      rw [this, hf]⟩
    rw [x42_103_19, e89 h.2.1 f0 f1]
    simp only [x42_111_19, aft_l, aft_r, optL_s, optL_n, xgo_n, xgo_s, List.cons_append, List.nil_append, List.append_nil, true_and, and_true, Nat.sub_zero, Nat.zero_le, true_implies, false_implies, implies_true, not_true_eq_false, not_false_eq_true, true_or, or_true]
    refine ⟨⟨⟨by omega, by omega⟩, ⟨by omega, by omega⟩⟩, fun g => ?_, fun g => by omega⟩
    rw [x42_114_19]
    have hf1 : fr (fun c j => c = 19 ∧ j = 12) σ1 (sI σ1 19 12 n) := fr_sI fr_refl ⟨rfl, rfl⟩
    have h' := RW_fr_19 h hf1 (fun c j k => k)
    have hK : okF xs (Gc 23 (sI σ1 19 12 n)) := by
      have e : Gc 23 (sI σ1 19 12 n) = Gr P xs lim j := iff_fun h'.2.2.2.2.1
      rw [e]; exact Gr_ok hP hX.1 j
    refine c45_19 hP hl0 h'.2.1 h'.1 hi hK (RW_WP_19 hP hX.1 h' (by rw [gI_sI, if_pos ⟨rfl, rfl⟩])) (fun σ' g1 g2 => ?_)
    simp only [x42_127_19, aft_l, aft_r, optL_s, optL_n, xgo_n, xgo_s, List.cons_append, List.nil_append, List.append_nil, true_and, and_true, Nat.sub_zero, Nat.zero_le, true_implies, false_implies, implies_true, not_true_eq_false, not_false_eq_true, true_or, or_true]
    refine rdn_19 hP hl0 i0 i1 hf f0 f1 hq d (n + 1) σ' _ (by omega) (by omega) (RW_step_19 hP hi h' g1) (fr_trans hfr (fr_trans (fr_mono hf1 (fun c j k => by omega)) (fr_mono g1.2.2.2.2 (fun c j k => by omega))))
theorem rdi_19 {xs : List Int} {lim : Int} {j : Nat} (hP : okP P) (hl0 : 0 ≤ lim ∧ lim ≤ 2) {fb nx : Int}
    (hq : ∀ σ' a2 a5 a6 a7, RW 19 P xs lim j (lo xs.length) σ' → fr (fun c j => c = 24 ∨ c = 26 ∨ c = 27 ∨ c = 28 ∨ c = 29 ∨ (c = 19 ∧ (j = 9 ∨ j = 10 ∨ j = 12))) σ σ' → wp t 42 139 [some (vR 19), some (vR 5), a2, some (vI fb), some (vI nx), a5, a6, a7] [] σ' Q) :
    ∀ (d : Nat) (i : Int) (σ1 : St) (a2 a6 a7 : Option AV), 0 ≤ i → i + d = xs.length → RW 19 P xs lim j (lo i) σ1 → fr (fun c j => c = 24 ∨ c = 26 ∨ c = 27 ∨ c = 28 ∨ c = 29 ∨ (c = 19 ∧ (j = 9 ∨ j = 10 ∨ j = 12))) σ σ1 → wp t 42 72 [some (vR 19), some (vR 5), a2, some (vI fb), some (vI nx), some (vI i), a6, a7] [] σ1 Q
  | 0, i, σ1, a2, a6, a7, i0, hd, h, hfr => by
    have hx := xok_of hP h.1.1
    have hl := hx.2
    rw [x42_72_19, e22_20 h.1]
    simp only [x42_81_19, aft_l, aft_r, optL_s, optL_n, xgo_n, xgo_s, List.cons_append, List.nil_append, List.append_nil, true_and, and_true, Nat.sub_zero, Nat.zero_le, true_implies, false_implies, implies_true, not_true_eq_false, not_false_eq_true, true_or, or_true]
    refine ⟨⟨⟨by omega, by omega⟩, ⟨by omega, by omega⟩⟩, fun g => by omega, fun _ => ?_⟩
    have e : i = xs.length := by omega
    rw [e] at h ⊢
    exact hq σ1 _ _ _ _ h hfr
  | d + 1, i, σ1, a2, a6, a7, i0, hd, h, hfr => by
    have hx := xok_of hP h.1.1
    have hl := hx.2
    have hk := RS_key hP ((h.1.1.2 _).mp (la_mem i0 (show i < xs.length by omega)))
    have hs := stt_rng hP.1 hk.2.1.1 hk.2.1.2
    have hs1 := stt_succ P hk.2.1.1 hk.2.1.2
    have hz := okZ_at hP.1 hk.2.1.1 hk.2.1.2
    rw [x42_72_19, e22_20 h.1]
    simp only [x42_81_19, aft_l, aft_r, optL_s, optL_n, xgo_n, xgo_s, List.cons_append, List.nil_append, List.append_nil, true_and, and_true, Nat.sub_zero, Nat.zero_le, true_implies, false_implies, implies_true, not_true_eq_false, not_false_eq_true, true_or, or_true]
    refine ⟨⟨⟨by omega, by omega⟩, ⟨by omega, by omega⟩⟩, fun g => ?_, fun g => by omega⟩
    simp only [x42_84_19, e25_20 hP h.1 i0 (show i < xs.length by omega), x42_93_19, e88 h.2.1 hk.2.1.1 (show la xs i / 2353 ≤ 4 by omega), x42_101_19, aft_l, aft_r, optL_s, optL_n, xgo_n, xgo_s, List.cons_append, List.nil_append, List.append_nil, true_and, and_true, Nat.sub_zero, Nat.zero_le, true_implies, false_implies, implies_true, not_true_eq_false, not_false_eq_true, true_or, or_true]
    refine rdn_19 hP hl0 i0 (by omega) rfl hk.2.1.1 hk.2.1.2 (fun σ' a2 g1 g2 => ?_) (P 58 (la xs i / 2353)).toNat _ σ1 _ (by omega) (by omega) (by unfold RW at *; rw [← GB_in hP.1 rfl]; exact h) hfr
    rw [x42_133_19]
    exact rdi_19 hP hl0 hq d (i + 1) σ' _ _ _ (by omega) (by omega) g1 g2
theorem RW_WP_30 {xs : List Int} {lim n : Int} {j : Nat} {B : Int → Int → Prop} {σ : St} (hP : okP P) (hX : isC P lim xs) (h : RW 30 P xs lim j B σ) (h12 : gI σ 30 12 = n) : WP 30 35 38 36 xs (j + 1) n σ := by
  have hx := xok_of hP hX
  obtain ⟨_, _, h3, ⟨_, h5⟩, _, h7, h8, _⟩ := h
  refine ⟨h3, fun c u k => ?_, h5, h12⟩
  have k2 : GB P xs lim j B c u := (h7 c u).mp k
  obtain ⟨v1, v2⟩ := GB_ok hP hX j B c u k2
  have r1 := cdf_rng hx v1
  have r2 := cdf_rng hx v2
  exact ⟨v1, v2, (h8 _ _ r1.1 r1.2 r2.1 (by omega)).mpr ⟨c, u, k2, rfl, rfl⟩⟩
/-- a statement more -/
theorem RW_step_30 {xs : List Int} {lim i n : Int} {j : Nat} {σ σ' : St} (hP : okP P) (hi : itm P xs i n) (h : RW 30 P xs lim j (lx i n) σ) (hA : AW 1 30 35 38 39 40 xs (j + 1) n (DD P xs lim (Gc 34 σ) i n) σ σ') : RW 30 P xs lim j (lx i (n + 1)) σ' := by
  obtain ⟨h1, h2, h3, ⟨h4, h5⟩, h6, h7, h8, h9, h10, h11⟩ := h
  have hx := xok_of hP h1.1
  have eK : Gc 34 σ = Gr P xs lim j := iff_fun h6
  obtain ⟨a1, a2, a3, a4, a5⟩ := hA
  rw [eK] at a1 a2 a4
  have hG : ∀ c u, Gc 35 σ' c u ↔ GB P xs lim j (lx i (n + 1)) c u := fun c u => by
    rw [a1, GB_step hi]
    exact ⟨fun k => k.elim (fun q => Or.inl ((h7 c u).mp q)) Or.inr, fun k => k.elim (fun q => Or.inl ((h7 c u).mpr q)) Or.inr⟩
  have eB : GB P xs lim j (lx i (n + 1)) = fun c u => GB P xs lim j (lx i n) c u ∨ DD P xs lim (Gr P xs lim j) i n c u := iff_fun (fun c u => GB_step hi c u)
  have him : ∀ a t, im xs (GB P xs lim j (lx i (n + 1))) a t ↔ (im xs (GB P xs lim j (lx i n)) a t ∨ im xs (DD P xs lim (Gr P xs lim j) i n) a t) := fun a t => by rw [eB]; exact im_or
  refine ⟨CXr_fr_31 h1 a5 (fun j => by omega) (fun j => by omega) (by omega) (by omega), RN_fr h2 a5 (fun j => by omega) (fun j => by omega) (fun j => by omega) (fun j => by omega) (by omega), fun c hc => (fr_I a5 _ _ (by omega)).trans (h3 c hc), ⟨(fr_I a5 _ _ (by omega)).trans h4, (fr_I a5 _ _ (by omega)).trans h5⟩, fun c u => ?_, hG, fun a t a0 a1 t0 t1 => ?_, fun a t a0 a1 t0 t1 k => ?_, ?_, ?_⟩
  · rw [show Gc (30 + 4) σ' = Gc (30 + 4) σ from Gc_fr a5 (fun j => by omega)]; exact h6 c u
  · rw [him]
    obtain ⟨p1, p2⟩ := a2 a t a0 a1 t0 t1
    have q := h8 a t a0 a1 t0 t1
    by_cases d : Hc 38 σ a t
    · exact ⟨fun _ => Or.inl (q.mp d), fun _ => (p1 d).1⟩
    · have d' : ¬ im xs (GB P xs lim j (lx i n)) a t := fun k => d (q.mpr k)
      by_cases e : im xs (DD P xs lim (Gr P xs lim j) i n) a t
      · exact ⟨fun _ => Or.inr e, fun _ => ((p2 d).1 e).1⟩
      · exact ⟨fun k => absurd k ((p2 d).2 e), fun k => by
          rcases k with k | k
          · exact absurd k d'
          · exact absurd k e⟩
  · obtain ⟨p1, p2⟩ := a2 a t a0 a1 t0 (by omega)
    have q := h8 a t a0 a1 t0 (by omega)
    by_cases d : im xs (GB P xs lim j (lx i n)) a t
    · have d1 : Hc 38 σ a t := q.mpr d
      have e := (p1 d1).2 t1
      have e1 : gI σ' (30 + 9) (a * 44 + t) = gI σ (30 + 9) (a * 44 + t) := e.1
      have e2 : gI σ' (30 + 10) (a * 44 + t) = gI σ (30 + 10) (a * 44 + t) := e.2
      rw [e1, e2]; exact h9 a t a0 a1 t0 t1 d
    · have d1 : ¬ Hc 38 σ a t := fun k => d (q.mp k)
      have e : im xs (DD P xs lim (Gr P xs lim j) i n) a t := by
        rcases (him a t).mp k with k | k
        · exact absurd k d
        · exact k
      obtain ⟨_, e1, e2⟩ := (p2 d1).1 e
      have e1 : gI σ' (30 + 9) (a * 44 + t) = j + 1 := e1
      have e2 : gI σ' (30 + 10) (a * 44 + t) = n := e2
      rw [e1, e2]
      exact ⟨j, i, rfl, hi, d, k⟩
  · have : gI σ 30 9 = fpop (gL σ 35) := h10
    show gI σ' 30 9 = fpop (gL σ' 35)
    omega
  · rcases a4 with ⟨e, k⟩ | ⟨e, c, u, k1, k2⟩
    · rw [e]
      rcases h11 with ⟨e2, k2⟩ | ⟨e2, c, u, k2, k3⟩
      · refine Or.inl ⟨e2, fun c u q => ?_⟩
        rcases (GB_step hi c u).mp q with q | q
        · exact k2 c u q
        · exact k2 c u ((h7 c u).mp (k c u q))
      · exact Or.inr ⟨e2, c, u, (GB_step hi c u).mpr (Or.inl k2), k3⟩
    · refine Or.inr ⟨e, c, u, (GB_step hi c u).mpr (Or.inr k1), fun q => k2 ((h7 c u).mpr (Or.inl q))⟩
theorem RW_fr_30 {M : Nat → Int → Prop} {xs : List Int} {lim : Int} {j : Nat} {B : Int → Int → Prop} {σ σ' : St} (h : RW 30 P xs lim j B σ) (hf : fr M σ σ') (hM : ∀ c j, M c j → c = 30 ∧ j = 12) : RW 30 P xs lim j B σ' := by
  have n1 : ∀ c j, c ≠ 30 → ¬ M c j := fun c j k q => k (hM c j q).1
  have n2 : ∀ j, j ≠ 12 → ¬ M 30 j := fun j k q => k (hM _ j q).2
  obtain ⟨h1, h2, h3, ⟨h4, h5⟩, h6, h7, h8, h9, h10, h11⟩ := h
  have e5 : gL σ' (30 + 5) = gL σ (30 + 5) := funext fun j => fr_L hf _ _ (n1 _ _ (by decide))
  refine ⟨CXr_fr_31 h1 hf (fun j => n1 _ _ (by decide)) (fun j => n1 _ _ (by decide)) (n1 _ _ (by decide)) (n1 _ _ (by decide)), RN_fr h2 hf (fun j => n1 _ _ (by decide)) (fun j => n1 _ _ (by decide)) (fun j => n1 _ _ (by decide)) (fun j => n1 _ _ (by decide)) (n1 _ _ (by decide)), fun c hc => (fr_I hf _ _ (n1 _ _ (by decide))).trans (h3 c hc), ⟨(fr_I hf _ _ (n2 _ (by decide))).trans h4, (fr_I hf _ _ (n2 _ (by decide))).trans h5⟩, fun c u => ?_, fun c u => ?_, fun a t a0 a1 t0 t1 => ?_, fun a t a0 a1 t0 t1 k => ?_, ?_, ?_⟩
  · rw [show Gc (30 + 4) σ' = Gc (30 + 4) σ from Gc_fr hf (fun j => n1 _ _ (by decide))]; exact h6 c u
  · rw [show Gc (30 + 5) σ' = Gc (30 + 5) σ from Gc_fr hf (fun j => n1 _ _ (by decide))]; exact h7 c u
  · have := h8 a t a0 a1 t0 t1
    unfold Hc at *
    rw [fr_L hf (30 + 8) a (n1 _ _ (by decide))]; exact this
  · rw [fr_I hf (30 + 9) _ (n1 _ _ (by decide)), fr_I hf (30 + 10) _ (n1 _ _ (by decide))]; exact h9 a t a0 a1 t0 t1 k
  · rw [e5, fr_I hf 30 9 (n2 _ (by decide))]; exact h10
  · rw [fr_I hf 30 10 (n2 _ (by decide))]; exact h11
theorem rdn_30 {xs : List Int} {lim i f : Int} {j : Nat} (hP : okP P) (hl0 : 0 ≤ lim ∧ lim ≤ 2) (i0 : 0 ≤ i) (i1 : i < xs.length) (hf : la xs i / 2353 = f) (f0 : 0 ≤ f) (f1 : f ≤ 3) {fb nx : Int}
    (hq : ∀ σ' a2, RW 30 P xs lim j (lo (i + 1)) σ' → fr (fun c j => c = 35 ∨ c = 37 ∨ c = 38 ∨ c = 39 ∨ c = 40 ∨ (c = 30 ∧ (j = 9 ∨ j = 10 ∨ j = 12))) σ σ' → wp t 42 133 [some (vR 30), some (vR 5), a2, some (vI fb), some (vI nx), some (vI i), some (vI f), some (vI (stt P (f + 1)))] [] σ' Q) :
    ∀ (d : Nat) (n : Int) (σ1 : St) (a2 : Option AV), stt P f ≤ n → n + d = stt P (f + 1) → RW 30 P xs lim j (lx i n) σ1 → fr (fun c j => c = 35 ∨ c = 37 ∨ c = 38 ∨ c = 39 ∨ c = 40 ∨ (c = 30 ∧ (j = 9 ∨ j = 10 ∨ j = 12))) σ σ1 → wp t 42 103 [some (vR 30), some (vR 5), a2, some (vI fb), some (vI nx), some (vI i), some (vI f), some (vI n)] [] σ1 Q
  | 0, n, σ1, a2, n0, hd, h, hfr => by
    have hs := stt_rng hP.1 f0 f1
    have hs1 := stt_succ P f0 f1
    have ht := tot_rng hP.1
    have hz := okZ_at hP.1 f0 f1
    rw [x42_103_30, e89 h.2.1 f0 f1]
    simp only [x42_111_30, aft_l, aft_r, optL_s, optL_n, xgo_n, xgo_s, List.cons_append, List.nil_append, List.append_nil, true_and, and_true, Nat.sub_zero, Nat.zero_le, true_implies, false_implies, implies_true, not_true_eq_false, not_false_eq_true, true_or, or_true]
    refine ⟨⟨⟨by omega, by omega⟩, ⟨by omega, by omega⟩⟩, fun g => by omega, fun _ => ?_⟩
    have e : n = stt P (f + 1) := by omega
    rw [e] at h ⊢
    exact hq σ1 a2 (by unfold RW at *; rw [← GB_out hP.1 hf f0 f1]; exact h) hfr
  | d + 1, n, σ1, a2, n0, hd, h, hfr => by
    have hs := stt_rng hP.1 f0 f1
    have hs1 := stt_succ P f0 f1
    have ht := tot_rng hP.1
    have hz := okZ_at hP.1 f0 f1
    have hX := h.1
    have hi : itm P xs i n := ⟨⟨i0, i1⟩, ⟨by omega, by omega⟩, by
      have := own_of hP.1 f0 f1 (k := n - stt P f) (by omega) (by omega)
      rw [show stt P f + (n - stt P f) = n by omega] at this
      rw [this, hf]⟩
    rw [x42_103_30, e89 h.2.1 f0 f1]
    simp only [x42_111_30, aft_l, aft_r, optL_s, optL_n, xgo_n, xgo_s, List.cons_append, List.nil_append, List.append_nil, true_and, and_true, Nat.sub_zero, Nat.zero_le, true_implies, false_implies, implies_true, not_true_eq_false, not_false_eq_true, true_or, or_true]
    refine ⟨⟨⟨by omega, by omega⟩, ⟨by omega, by omega⟩⟩, fun g => ?_, fun g => by omega⟩
    rw [x42_114_30]
    have hf1 : fr (fun c j => c = 30 ∧ j = 12) σ1 (sI σ1 30 12 n) := fr_sI fr_refl ⟨rfl, rfl⟩
    have h' := RW_fr_30 h hf1 (fun c j k => k)
    have hK : okF xs (Gc 34 (sI σ1 30 12 n)) := by
      have e : Gc 34 (sI σ1 30 12 n) = Gr P xs lim j := iff_fun h'.2.2.2.2.1
      rw [e]; exact Gr_ok hP hX.1 j
    refine c45_30 hP hl0 h'.2.1 h'.1 hi hK (RW_WP_30 hP hX.1 h' (by rw [gI_sI, if_pos ⟨rfl, rfl⟩])) (fun σ' g1 g2 => ?_)
    simp only [x42_127_30, aft_l, aft_r, optL_s, optL_n, xgo_n, xgo_s, List.cons_append, List.nil_append, List.append_nil, true_and, and_true, Nat.sub_zero, Nat.zero_le, true_implies, false_implies, implies_true, not_true_eq_false, not_false_eq_true, true_or, or_true]
    refine rdn_30 hP hl0 i0 i1 hf f0 f1 hq d (n + 1) σ' _ (by omega) (by omega) (RW_step_30 hP hi h' g1) (fr_trans hfr (fr_trans (fr_mono hf1 (fun c j k => by omega)) (fr_mono g1.2.2.2.2 (fun c j k => by omega))))
theorem rdi_30 {xs : List Int} {lim : Int} {j : Nat} (hP : okP P) (hl0 : 0 ≤ lim ∧ lim ≤ 2) {fb nx : Int}
    (hq : ∀ σ' a2 a5 a6 a7, RW 30 P xs lim j (lo xs.length) σ' → fr (fun c j => c = 35 ∨ c = 37 ∨ c = 38 ∨ c = 39 ∨ c = 40 ∨ (c = 30 ∧ (j = 9 ∨ j = 10 ∨ j = 12))) σ σ' → wp t 42 139 [some (vR 30), some (vR 5), a2, some (vI fb), some (vI nx), a5, a6, a7] [] σ' Q) :
    ∀ (d : Nat) (i : Int) (σ1 : St) (a2 a6 a7 : Option AV), 0 ≤ i → i + d = xs.length → RW 30 P xs lim j (lo i) σ1 → fr (fun c j => c = 35 ∨ c = 37 ∨ c = 38 ∨ c = 39 ∨ c = 40 ∨ (c = 30 ∧ (j = 9 ∨ j = 10 ∨ j = 12))) σ σ1 → wp t 42 72 [some (vR 30), some (vR 5), a2, some (vI fb), some (vI nx), some (vI i), a6, a7] [] σ1 Q
  | 0, i, σ1, a2, a6, a7, i0, hd, h, hfr => by
    have hx := xok_of hP h.1.1
    have hl := hx.2
    rw [x42_72_30, e22_31 h.1]
    simp only [x42_81_30, aft_l, aft_r, optL_s, optL_n, xgo_n, xgo_s, List.cons_append, List.nil_append, List.append_nil, true_and, and_true, Nat.sub_zero, Nat.zero_le, true_implies, false_implies, implies_true, not_true_eq_false, not_false_eq_true, true_or, or_true]
    refine ⟨⟨⟨by omega, by omega⟩, ⟨by omega, by omega⟩⟩, fun g => by omega, fun _ => ?_⟩
    have e : i = xs.length := by omega
    rw [e] at h ⊢
    exact hq σ1 _ _ _ _ h hfr
  | d + 1, i, σ1, a2, a6, a7, i0, hd, h, hfr => by
    have hx := xok_of hP h.1.1
    have hl := hx.2
    have hk := RS_key hP ((h.1.1.2 _).mp (la_mem i0 (show i < xs.length by omega)))
    have hs := stt_rng hP.1 hk.2.1.1 hk.2.1.2
    have hs1 := stt_succ P hk.2.1.1 hk.2.1.2
    have hz := okZ_at hP.1 hk.2.1.1 hk.2.1.2
    rw [x42_72_30, e22_31 h.1]
    simp only [x42_81_30, aft_l, aft_r, optL_s, optL_n, xgo_n, xgo_s, List.cons_append, List.nil_append, List.append_nil, true_and, and_true, Nat.sub_zero, Nat.zero_le, true_implies, false_implies, implies_true, not_true_eq_false, not_false_eq_true, true_or, or_true]
    refine ⟨⟨⟨by omega, by omega⟩, ⟨by omega, by omega⟩⟩, fun g => ?_, fun g => by omega⟩
    simp only [x42_84_30, e25_31 hP h.1 i0 (show i < xs.length by omega), x42_93_30, e88 h.2.1 hk.2.1.1 (show la xs i / 2353 ≤ 4 by omega), x42_101_30, aft_l, aft_r, optL_s, optL_n, xgo_n, xgo_s, List.cons_append, List.nil_append, List.append_nil, true_and, and_true, Nat.sub_zero, Nat.zero_le, true_implies, false_implies, implies_true, not_true_eq_false, not_false_eq_true, true_or, or_true]
    refine rdn_30 hP hl0 i0 (by omega) rfl hk.2.1.1 hk.2.1.2 (fun σ' a2 g1 g2 => ?_) (P 58 (la xs i / 2353)).toNat _ σ1 _ (by omega) (by omega) (by unfold RW at *; rw [← GB_in hP.1 rfl]; exact h) hfr
    rw [x42_133_30]
    exact rdi_30 hP hl0 hq d (i + 1) σ' _ _ _ (by omega) (by omega) g1 g2
end CI7

