/-! the law's refresh -/
/-- what a fresh law holds -/
def FRr (P : Pg) (lim : Int) (xs : List Int) (σ : St) : Prop := isC P lim xs ∧ (LX σ xs ∧ ((∀ c u, Gc 62 σ c u ↔ Lf P xs lim c u) ∧ (FRK P σ ∧ LUr σ P)))
def vM : Nat → Int → Prop := fun c j => (60 ≤ c ∧ c ≤ 69) ∨ (c = 53 ∧ (j = 16 ∨ (19 ≤ j ∧ j ≤ 29)))
section LF
variable {t : Nat} {σ : St} {Q : Res → St → Prop} {P : Pg} {xs : List Int} {lim : Int}
/-- within a pass from σ0: the statements that B tells are done -/
def PW (P : Pg) (xs : List Int) (lim : Int) (B : Int → Int → Prop) (σ0 σ1 : St) : Prop :=
  (∀ c u, Gc 62 σ0 c u → Gc 62 σ1 c u) ∧ ((∀ c u, Gc 62 σ1 c u → Lf P xs lim c u) ∧ (((gI σ1 53 20 = 1 ∧ ∃ c u, Gc 62 σ1 c u ∧ ¬ Gc 62 σ0 c u) ∨ (gI σ1 53 20 = 0 ∧ ((∀ c u, Gc 62 σ1 c u → Gc 62 σ0 c u) ∧ ∀ i n, itm P xs i n → B i n → ∀ c u, DD P xs lim (Gc 62 σ0) i n c u → Gc 62 σ0 c u))) ∧ fr fM σ0 σ1))
theorem PW_step {B : Int → Int → Prop} {σ0 σ1 σ2 : St} {i n : Int} (hi : itm P xs i n) (h : PW P xs lim B σ0 σ1) (g : FW 62 (fun A => DD P xs lim A i n) σ1 σ2) : PW P xs lim (fun i' n' => B i' n' ∨ (i' = i ∧ n' = n)) σ0 σ2 := by
  obtain ⟨h1, h2, h3, h4⟩ := h
  obtain ⟨g1, g2, g3, g4, g5⟩ := g
  refine ⟨fun c u k => g1 c u (h1 c u k), fun c u k => g3 (Lf P xs lim) (Lf P xs lim) h2 h2 (fun _ _ _ k => k) (fun c u k => LF_closed hi k) c u k, ?_, fr_trans h4 g5⟩
  rcases g4 with ⟨e, n2⟩ | ⟨e, n2⟩
  · refine Or.inl ⟨e, ?_⟩
    rcases n2 with n2 | ⟨c, u, n2, n3⟩
    · rcases h3 with ⟨_, c, u, k1, k2⟩ | ⟨z, _⟩
      · exact ⟨c, u, g1 c u k1, k2⟩
      · omega
    · exact ⟨c, u, n2, fun k => n3 (h1 c u k)⟩
  · rcases h3 with ⟨z, c, u, k1, k2⟩ | ⟨z, k1, k2⟩
    · exact Or.inl ⟨e.trans z, c, u, g1 c u k1, k2⟩
    · refine Or.inr ⟨e.trans z, fun c u k => k1 c u (n2 c u k), fun i' n' hi' hB c u k => ?_⟩
      rcases hB with hB | ⟨e1, e2⟩
      · exact k2 i' n' hi' hB c u k
      · rw [e1, e2] at k
        exact k1 c u (n2 c u (g2 c u (DD_mono h1 k)))
theorem PW_sub {B B' : Int → Int → Prop} {σ0 σ1 : St} (hB : ∀ i n, itm P xs i n → B' i n → B i n) (h : PW P xs lim B σ0 σ1) : PW P xs lim B' σ0 σ1 := by
  obtain ⟨h1, h2, h3, h4⟩ := h
  refine ⟨h1, h2, ?_, h4⟩
  rcases h3 with h3 | ⟨z, k1, k2⟩
  · exact Or.inl h3
  · exact Or.inr ⟨z, k1, fun i n hi hb => k2 i n hi (hB i n hi hb)⟩
theorem rf2 (hP : okP P) (hl : 0 ≤ lim ∧ lim ≤ 2) (hC : isC P lim xs) {σ0 : St} (hLP : LPr σ0 P) (hX : LX σ0 xs) (h6 : gI σ0 53 6 = lim) {i : Int} (i0 : 0 ≤ i) (i1 : i < xs.length)
    (hq : ∀ σ' a3, PW P xs lim (lo (i + 1)) σ0 σ' → wp t 219 95 [some (vR 53), some (vI i), some (vI (la xs i / 2353)), a3] [] σ' Q) :
    ∀ (d : Nat) (k : Int) (σ1 : St), 0 ≤ k → k + d = P 58 (la xs i / 2353) → PW P xs lim (lx i (stt P (la xs i / 2353) + k)) σ0 σ1 → wp t 219 60 [some (vR 53), some (vI i), some (vI (la xs i / 2353)), some (vI k)] [] σ1 Q
  | 0, k, σ1, k0, hd, h => by
    have hk := RS_key hP ((hC.2 _).mp (la_mem i0 i1))
    have hz0 := okZ_at hP.1 hk.2.1.1 hk.2.1.2
    have hs1 := stt_succ P hk.2.1.1 hk.2.1.2
    have hL1 := LPr_f hLP h.2.2.2
    rw [x219_60, LP_z hL1 hk.2.1.1 hk.2.1.2]
    refine ⟨⟨by omega, by omega⟩, ⟨⟨by omega, by omega⟩, ⟨by omega, by omega⟩⟩, fun h => by omega, fun _ => hq σ1 _ (PW_sub (fun i' n' hi' hb => ?_) h)⟩
    unfold lo at hb
    unfold lx
    by_cases q : i' = i
    · have h5 := own_spec hP.1 hi'.2.1.1 hi'.2.1.2
      rw [hi'.2.2, q] at h5
      exact Or.inr ⟨q, by omega⟩
    · exact Or.inl (by omega)
  | d + 1, k, σ1, k0, hd, h => by
    have hx := xok_of hP hC
    have hk := RS_key hP ((hC.2 _).mp (la_mem i0 i1))
    have hz0 := okZ_at hP.1 hk.2.1.1 hk.2.1.2
    have hs := stt_rng hP.1 hk.2.1.1 hk.2.1.2
    have hL1 := LPr_f hLP h.2.2.2
    have hX1 := LX_f hX h.2.2.2
    have hpl := plc_of hP.1 hk.2.1.1 hk.2.1.2 k0 (show k < P 58 (la xs i / 2353) by omega)
    have how := own_of hP.1 hk.2.1.1 hk.2.1.2 k0 (show k < P 58 (la xs i / 2353) by omega)
    have hi : itm P xs i (stt P (la xs i / 2353) + k) := ⟨⟨i0, i1⟩, ⟨by omega, by omega⟩, how⟩
    have e6 : gI σ1 53 6 = lim := (fr_I h.2.2.2 _ _ (by unfold fM; omega)).trans h6
    have hok : okF xs (Gc 62 σ1) := fun c u k => Lf_okF hP hC c u (h.2.1 c u k)
    rw [x219_60, LP_z hL1 hk.2.1.1 hk.2.1.2]
    refine ⟨⟨by omega, by omega⟩, ⟨⟨by omega, by omega⟩, ⟨by omega, by omega⟩⟩, fun _ => ?_, fun h => by omega⟩
    rw [x219_70, ← hpl, e6]
    refine c215 (r1 := 62) (Or.inl rfl) hP hl hL1 hX1 hC hi hok (fun σ2 g => ?_)
    simp only [x219_89, aft_l, aft_r, optL_s, optL_n, xgo_n, xgo_s, List.cons_append, List.nil_append, List.append_nil, true_and, and_true, Nat.sub_zero, Nat.zero_le, true_implies, false_implies, implies_true, not_true_eq_false, not_false_eq_true, true_or, or_true]
    refine rf2 hP hl hC hLP hX h6 i0 i1 hq d (k + 1) σ2 (by omega) (by omega) (PW_sub (fun i' n' hi' hb => ?_) (PW_step hi h g))
    unfold lx at *
    omega
theorem rf1 (hP : okP P) (hl : 0 ≤ lim ∧ lim ≤ 2) (hC : isC P lim xs) {σ0 : St} (hLP : LPr σ0 P) (hX : LX σ0 xs) (h6 : gI σ0 53 6 = lim)
    (hq : ∀ σ' a1 a2 a3, PW P xs lim (fun _ _ => True) σ0 σ' → wp t 219 101 [some (vR 53), a1, a2, a3] [] σ' Q) :
    ∀ (d : Nat) (i : Int) (σ1 : St) (a2 a3 : Option AV), 0 ≤ i → i + d = xs.length → PW P xs lim (lo i) σ0 σ1 → wp t 219 43 [some (vR 53), some (vI i), a2, a3] [] σ1 Q
  | 0, i, σ1, a2, a3, i0, hd, h => by
    have hX1 := LX_f hX h.2.2.2
    have hl31 := hX1.1.2
    rw [x219_43, hX1.1.1]
    refine ⟨⟨⟨by omega, by omega⟩, ⟨by omega, by omega⟩⟩, fun h => by omega, fun _ => hq σ1 _ _ _ (PW_sub (fun i' n' hi' _ => ?_) h)⟩
    have := hi'.1.2
    unfold lo
    omega
  | d + 1, i, σ1, a2, a3, i0, hd, h => by
    have hX1 := LX_f hX h.2.2.2
    have hl31 := hX1.1.2
    have hk := RS_key hP ((hC.2 _).mp (la_mem i0 (show i < xs.length by omega)))
    have hz0 := okZ_at hP.1 hk.2.1.1 hk.2.1.2
    have hs := stt_rng hP.1 hk.2.1.1 hk.2.1.2
    obtain ⟨g1, g2⟩ := hX1.2.1 i i0 (by omega)
    rw [x219_43, hX1.1.1]
    refine ⟨⟨⟨by omega, by omega⟩, ⟨by omega, by omega⟩⟩, fun _ => ?_, fun h => by omega⟩
    rw [x219_51, g1]
    refine ⟨⟨i0, by omega⟩, ?_⟩
    refine rf2 hP hl hC hLP hX h6 i0 (by omega) (fun σ' a3 k => ?_) (P 58 (la xs i / 2353)).toNat 0 σ1 (by omega) (by omega) (PW_sub (fun i' n' hi' hb => ?_) h)
    · rw [x219_95]
      exact rf1 hP hl hC hLP hX h6 hq d (i + 1) σ' _ _ (by omega) (by omega) k
    · unfold lx at hb
      unfold lo
      rcases hb with hb | ⟨e, hb⟩
      · exact hb
      · have h5 := own_spec hP.1 hi'.2.1.1 hi'.2.1.2
        rw [hi'.2.2, e] at h5
        omega
theorem rf0 (hP : okP P) (hl : 0 ≤ lim ∧ lim ≤ 2) (hC : isC P lim xs) (hq : ∀ σ' a1 a2 a3, LPr σ' P → LX σ' xs → (∀ c u, Gc 62 σ' c u ↔ Lf P xs lim c u) → fr fM σ σ' → wp t 219 104 [some (vR 53), a1, a2, a3] [] σ' Q) :
    ∀ (d : Nat) (σ1 : St) (N : Int) (a1 a2 a3 : Option AV), N = fpop (gL σ1 62) → 23104 - N < d → LPr σ1 P → LX σ1 xs → gI σ1 53 6 = lim → gI σ1 53 20 = 1 → (∀ c u, Gc 62 σ1 c u → Lf P xs lim c u) → fr fM σ σ1 → wp t 219 29 [some (vR 53), a1, a2, a3] [] σ1 Q
  | 0, σ1, N, a1, a2, a3, hN, hd, hLP, hX, h6, h20, hs, hf => by
    have hx := xok_of hP hC
    have hb := Gc_bound (g := 62) (σ := σ1) hx (fun c u k => Lf_okF hP hC c u (hs c u k))
    rw [← hN] at hb
    omega
  | d + 1, σ1, N, a1, a2, a3, hN, hd, hLP, hX, h6, h20, hs, hf => by
    have hx := xok_of hP hC
    have hb := Gc_bound (g := 62) (σ := σ1) hx (fun c u k => Lf_okF hP hC c u (hs c u k))
    rw [← hN] at hb
    have hf0 : fr fM σ1 (sI σ1 53 20 0) := fr_sI fr_refl (by unfold fM; omega)
    have eL : gL (sI σ1 53 20 0) 62 = gL σ1 62 := rfl
    have eG : Gc 62 (sI σ1 53 20 0) = Gc 62 σ1 := rfl
    rw [x219_29, h20]
    refine ⟨by decide, fun h => absurd h (by decide), fun _ => ?_⟩
    rw [x219_36]
    refine rf1 hP hl hC (LPr_f hLP hf0) (LX_f hX hf0) (by rw [gI_sI, if_neg (by omega)]; exact h6) (fun σ2 b1 b2 b3 h => ?_) xs.length 0 (sI σ1 53 20 0) _ _ (by omega) (by omega) ⟨fun c u k => k, by rw [eG]; exact hs, Or.inr ⟨by rw [gI_sI, if_pos ⟨rfl, rfl⟩], fun c u k => k, fun i n hi hb => by have := hi.1.1; unfold lo at hb; omega⟩, fr_refl⟩
    obtain ⟨p1, p2, p3, p4⟩ := h
    have hL2 := LPr_f (LPr_f hLP hf0) p4
    have hX2 := LX_f (LX_f hX hf0) p4
    have hf2 : fr fM σ σ2 := fr_trans hf (fr_trans hf0 p4)
    rw [eG] at p1 p3
    rw [x219_101]
    rcases p3 with ⟨e, c, u, k1, k2⟩ | ⟨e, k1, k2⟩
    · have hlt : fpop (gL σ1 62) < fpop (gL σ2 62) := by
        have hle := fpop_le (Gc_le p1)
        apply Classical.byContradiction
        intro hno
        have ew := fun k (q0 : (0 : Int) ≤ k) (q1 : k < 456) => fpop_eq (Gc_le p1) (Int.not_lt.mp hno) q0 q1
        exact k2 ((Gc_words ew c u).mpr k1)
      rw [← hN] at hlt
      exact rf0 hP hl hC hq d σ2 (fpop (gL σ2 62)) _ _ _ rfl (by omega) hL2 hX2 ((fr_I p4 _ _ (by unfold fM; omega)).trans (by rw [gI_sI, if_neg (by omega)]; exact h6)) e p2 hf2
    · rw [x219_29, e]
      refine ⟨by decide, fun _ => ?_, fun h => absurd rfl h⟩
      refine hq σ2 _ _ _ hL2 hX2 (fun c u => ⟨p2 c u, fun k => p1 c u (k (Gc 62 σ1) (fun i n c u hi g => k2 i n hi trivial c u g))⟩) hf2
/-- refreshes -/
theorem c219 (hP : okP P) (hl : 0 ≤ lim ∧ lim ≤ 2) (hLP : LPr σ P) (h6 : gI σ 53 6 = lim) (h19 : gI σ 53 19 = 0 ∨ gI σ 53 19 = 1) (h1 : gI σ 53 19 = 1 → Q (.inl none) σ)
    (h0 : gI σ 53 19 = 0 → ∀ σ' xs, FRr P lim xs σ' → gI σ' 53 19 = 1 → fr vM σ σ' → Q (.inl none) σ') : Call t 219 [vR 53] σ Q := by
  rw [x219_0]
  refine ⟨by rcases h19 with e | e <;> rw [e] <;> decide, fun e => ?_, fun e => ?_⟩
  · rw [x219_8]
    refine c218 hP hLP (fun σ1 a1 a2 a3 => ?_)
    have f1 : fr vM σ σ1 := fr_mono a3 (fun c j k => by unfold rkM at k; unfold vM; omega)
    have e6 : gI σ1 53 6 = lim := (fr_I a3 _ _ (by unfold rkM; omega)).trans h6
    simp only [x219_12, e6, aft_l, aft_r, optL_s, optL_n, xgo_n, xgo_s, List.cons_append, List.nil_append, List.append_nil, true_and, and_true, Nat.sub_zero, Nat.zero_le, true_implies, false_implies, implies_true, not_true_eq_false, not_false_eq_true, true_or, or_true]
    refine c209 hP hl a1 (fun σ2 xs b1 b2 b3 => ?_)
    have f2 : fr vM σ σ2 := fr_trans f1 (fr_mono b3 (fun c j k => by unfold cM at k; unfold vM; omega))
    simp only [x219_20, aft_l, aft_r, optL_s, optL_n, xgo_n, xgo_s, List.cons_append, List.nil_append, List.append_nil, true_and, and_true, Nat.sub_zero, Nat.zero_le, true_implies, false_implies, implies_true, not_true_eq_false, not_false_eq_true, true_or, or_true]
    refine c216 (fun σ3 d1 d2 => ?_)
    have f3 : fr vM σ σ3 := fr_trans f2 (fr_mono d2 (fun c j k => by unfold vM; omega))
    simp only [x219_24, aft_l, aft_r, optL_s, optL_n, xgo_n, xgo_s, List.cons_append, List.nil_append, List.append_nil, true_and, and_true, Nat.sub_zero, Nat.zero_le, true_implies, false_implies, implies_true, not_true_eq_false, not_false_eq_true, true_or, or_true]
    have fe : fr fM σ3 (sI σ3 53 20 1) := fr_sI fr_refl (by unfold fM; omega)
    have f4 : fr vM σ (sI σ3 53 20 1) := fr_trans f3 (fr_mono fe (fun c j k => by unfold fM at k; unfold vM; omega))
    have eG : Gc 62 (sI σ3 53 20 1) = Gc 62 σ3 := rfl
    have hFK : FRK P (sI σ3 53 20 1) := FRK_fr (FRK_fr (FRK_fr a2 b3 (fun j => by unfold cM; omega) (fun j => by unfold cM; omega) (by unfold cM; omega)) d2 (fun j => by omega) (fun j => by omega) (by omega)) fe (fun j => by unfold fM; omega) (fun j => by unfold fM; omega) (by unfold fM; omega)
    have hnn := fpop_nn (gL (sI σ3 53 20 1) 62)
    refine rf0 (σ := sI σ3 53 20 1) hP hl b2 (fun σ5 b1' b2' b3' k1 k2 k3 k4 => ?_) 23105 (sI σ3 53 20 1) (fpop (gL (sI σ3 53 20 1) 62)) _ _ _ rfl (by omega) (LP_fr hLP f4 (fun c j k => by unfold vM at k; omega)) (LX_f (LX_fr b1 d2 (by omega) (fun j => by omega) (fun j => by omega)) fe) ((fr_I f4 _ _ (by unfold vM; omega)).trans h6) (by rw [gI_sI, if_pos ⟨rfl, rfl⟩]) (fun c u k => absurd k (by rw [eG]; exact d1 c u)) fr_refl
    rw [x219_104]
    refine c247 hP k1 (fun σ6 m1 m2 => ?_)
    simp only [x219_108, aft_l, aft_r, optL_s, optL_n, xgo_n, xgo_s, List.cons_append, List.nil_append, List.append_nil, true_and, and_true, Nat.sub_zero, Nat.zero_le, true_implies, false_implies, implies_true, not_true_eq_false, not_false_eq_true, true_or, or_true]
    have fz : fr (fun c j => c = 53 ∧ j = 19) σ6 (sI σ6 53 19 1) := fr_sI fr_refl ⟨rfl, rfl⟩
    have hu : ∀ (h : LUr σ6 P), LUr (sI σ6 53 19 1) P := fun ⟨N, tm, z1, z2⟩ => ⟨N, tm, LU_fr z1 fz (fun j => by omega) (fun j => by omega) (by omega), z2⟩
    have f5 := FRK_fr hFK k4 (fun j => by unfold fM; omega) (fun j => by unfold fM; omega) (by unfold fM; omega)
    have f6 := FRK_fr f5 m2 (fun j => by unfold uM; omega) (fun j => by unfold uM; omega) (by unfold uM; omega)
    have f7 := FRK_fr f6 fz (fun j => by omega) (fun j => by omega) (by omega)
    refine h0 e _ xs ⟨b2, LX_fr (LX_fr k2 m2 (by unfold uM; omega) (fun j => by unfold uM; omega) (fun j => by unfold uM; omega)) fz (by omega) (fun j => by omega) (fun j => by omega), fun c u => ?_, f7, hu m1⟩ (by rw [gI_sI, if_pos ⟨rfl, rfl⟩]) (fr_trans f4 (fr_trans (fr_mono k4 (fun c j k => by unfold fM at k; unfold vM; omega)) (fr_trans (fr_mono m2 (fun c j k => by unfold uM at k; unfold vM; omega)) (fr_mono fz (fun c j k => by unfold vM; omega)))))
    rw [Gc_fr fz (fun j => by omega), Gc_fr m2 (fun j => by unfold uM; omega)]; exact k3 c u
  · rw [x219_7]
    exact h1 (by omega)
end LF
