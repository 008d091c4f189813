/-! ranks and reasons -/
section RNK
variable {P : Pg} {lim : Int} {xs : List Int}
theorem RD_max {r : Int} (h : RDn P xs lim r) {j : Nat} {c u : Int} (h1 : Gr P xs lim j c u) : Gr P xs lim r.toNat c u := by
  obtain ⟨k, rfl, h2, h3⟩ := h
  rw [Int.toNat_natCast]
  exact LF_Gr h2 |>.mp (Gr_LF j h1)
/-- a rank is no more than the number of rounds -/
theorem RK_le {r a b k s : Int} (h : RDn P xs lim r) (hk : RKp P xs lim a b k s) : 1 ≤ k ∧ k ≤ r := by
  obtain ⟨j, i, rfl, hi, h1, h2⟩ := hk
  refine ⟨by omega, ?_⟩
  obtain ⟨n, rfl, h3, h4⟩ := h
  by_cases q : n ≤ j
  · refine absurd (im_mono (fun c u g => ?_) h2) h1
    exact Or.inl (Gr_le q (LF_Gr h3 |>.mp (Gr_LF _ (GB_Gr g))))
  · omega
/-- a reason: a statement of a reachable function; what it looks like -/
theorem RK_why {v t k s : Int} (hk : RKp P xs lim v t k s) : ∃ (i c u : Int) (j : Nat), k = j + 1 ∧ (itm P xs i s ∧ (DD P xs lim (Gr P xs lim j) i s c u ∧ (cdf xs c = v ∧ cdf xs u = t))) := by
  obtain ⟨j, i, e, hi, h1, c, u, h2, h3⟩ := hk
  rw [GB_step hi] at h2
  rcases h2 with h2 | h2
  · exact absurd ⟨c, u, h2, h3⟩ h1
  · exact ⟨i, c, u, j, e, hi, h2, h3⟩
theorem RK_kind (hP : okP P) (hX : isC P lim xs) {v t k s : Int} (hk : RKp P xs lim v t k s) :
    (0 ≤ s ∧ s < tot P) ∧ ((∃ i : Int, 0 ≤ i ∧ i < xs.length ∧ la xs i / 2353 = own P s) ∧ ((k = 1 → kd P s = 0 ∨ kd P s = 4) ∧ ((kd P s = 4 → 20 ≤ t ∧ t % 3 = 2) ∧ (kd P s < 3 → v < 4 ∨ (v - 4) / 4 = own P s)))) := by
  obtain ⟨i, c, u, j, e, hi, hd, rfl, rfl⟩ := RK_why hk
  refine ⟨hi.2.1, ⟨i, hi.1.1, hi.1.2, hi.2.2.symm⟩, fun k1 => ?_, fun k4 => ?_, fun k3 => ?_⟩
  · have j0 : j = 0 := by omega
    subst j0
    rcases hd with g | ⟨g0, g1, g2⟩ | ⟨g0, g1, x, g2, g3⟩ | ⟨g0, g1, g2⟩ | g | ⟨g0, g1, ⟨g2, g3⟩ | ⟨g2, x, g3, g4⟩⟩ | ⟨g0, ⟨g1, g2⟩ | ⟨g1, g2⟩⟩
    · exact Or.inl g.1
    · exact g2.elim
    · exact g2.elim
    · exact g1.elim
    · exact Or.inr g.1
    · exact g3.elim
    · exact g3.elim
    · exact g2.elim
    · exact g2.elim
  · have hs := (sn_rng (P := P) hi.2.1.1).1
    rcases hd with g | ⟨g0, _⟩ | ⟨g0, _⟩ | ⟨g0, _⟩ | g | ⟨g0, _⟩ | ⟨g0, _⟩
    · have := g.1; omega
    · omega
    · omega
    · omega
    · rw [g.2.2, cdf_fld (by omega)]; omega
    · omega
    · omega
  · have hc : ∃ x, 0 ≤ x ∧ c = clo x i := by
      have hv := (st_at hP hi.2.1.1 hi.2.1.2).2.1.1
      rcases hd with g | ⟨g0, g1, _⟩ | ⟨g0, g1, _⟩ | ⟨g0, _⟩ | g | ⟨g0, _⟩ | ⟨g0, _⟩
      · exact ⟨_, hv, g.2.1⟩
      · exact ⟨_, hv, g1⟩
      · exact ⟨_, hv, g1⟩
      · omega
      · have := g.1; omega
      · omega
      · omega
    obtain ⟨x, x0, rfl⟩ := hc
    unfold clo
    by_cases q : x < 4
    · rw [if_pos q, cdf_glo q]; exact Or.inl q
    · rw [if_neg q, cdf_loc hP hX hi.1.1 hi.1.2 (by omega) (by omega), hi.2.2]
      exact Or.inr (by omega)
/-- if there are rounds, a variable has a fact of rank 1 -/
theorem RK_one (hP : okP P) (hX : isC P lim xs) {r : Int} (h : RDn P xs lim r) (h0 : 0 < r) : ∃ v t, (0 ≤ v ∧ v < 20) ∧ ((0 ≤ t ∧ t < 20 + 3 * mny P 4 (-1)) ∧ (im xs (Lf P xs lim) v t ∧ ∀ k s, RKp P xs lim v t k s → k = 1)) := by
  obtain ⟨n, rfl, h3, h4⟩ := h
  obtain ⟨c, u, h5, h6⟩ := h4 0 (by omega)
  have h7 := h5
  rcases h5 with h5 | ⟨i, s, hi, hd⟩
  · exact h5.elim
  have hL : Lf P xs lim c u := Gr_LF 1 h7
  have hvs := Lf_VS hP hX hL
  have hc : c < 128 := by
    have cv := clo_128 hP hX (x := vv P s) hi.1.2
    rcases hd with g | ⟨g0, g1, g2⟩ | ⟨g0, g1, x, g2, g3⟩ | ⟨g0, g1, g2⟩ | g | ⟨g0, g1, ⟨g2, g3⟩ | ⟨g2, x, g3, g4⟩⟩ | ⟨g0, ⟨g1, g2⟩ | ⟨g1, g2⟩⟩
    · rw [g.2.1]; exact cv
    · exact g2.elim
    · exact g2.elim
    · exact g1.elim
    · rw [g.2.1]; exact cv
    · exact g3.elim
    · exact g3.elim
    · exact g2.elim
    · exact g2.elim
  have him : im xs (Lf P xs lim) (cdf xs c) (cdf xs u) := ⟨c, u, hL, rfl, rfl⟩
  refine ⟨cdf xs c, cdf xs u, cdf_var hP hX hvs.1.1 hc, (im_rng hP hX him).2, him, fun k s' hk => ?_⟩
  obtain ⟨j, i', e, hi', h1, h2⟩ := hk
  by_cases q : j = 0
  · rw [e, q]; rfl
  · exact absurd (⟨c, u, Or.inl (Gr_le (by omega) h7), rfl, rfl⟩ : im xs (GB P xs lim j (lx i' s')) (cdf xs c) (cdf xs u)) h1
/-- rounds and facts -/
theorem RD_0 {r : Int} (h : RDn P xs lim r) : 0 ≤ r ∧ (r = 0 ↔ ∀ c u, ¬ Lf P xs lim c u) := by
  obtain ⟨n, rfl, h3, h4⟩ := h
  refine ⟨by omega, fun e c u k => ?_, fun k => ?_⟩
  · have e : n = 0 := by omega
    subst e
    exact (LF_Gr h3).mp k
  · by_cases q : n = 0
    · rw [q]; rfl
    · obtain ⟨c, u, h5, _⟩ := h4 0 (by omega)
      exact absurd (Gr_LF 1 h5) (k c u)
theorem FN_eq : FN P xs lim = cn (fun x => dcl (Lf P xs lim (x / 192) (x % 192))) (456 * 64) := by
  unfold FN fpop
  rw [fsum_sm, cn_blk]
  refine sm_congr (fun k k0 k1 => ?_)
  rw [wS_pw]
  refine cn_congr (fun t t0 t1 => ?_)
  show dcl (Lf P xs lim (k / 3) (64 * (k % 3) + t)) = dcl (Lf P xs lim ((k * (64 : Nat) + t) / 192) ((k * (64 : Nat) + t) % 192))
  rw [show (k * ((64 : Nat) : Int) + t) / 192 = k / 3 by omega, show (k * ((64 : Nat) : Int) + t) % 192 = 64 * (k % 3) + t by omega]
theorem FN_in : inR (FN P xs lim) := by
  rw [FN_eq]
  have := cn_rng (fun x => dcl (Lf P xs lim (x / 192) (x % 192))) (456 * 64)
  exact ⟨by omega, by omega⟩
theorem FN_0 (hP : okP P) (hX : isC P lim xs) : 0 ≤ FN P xs lim ∧ (FN P xs lim = 0 ↔ ∀ c u, ¬ Lf P xs lim c u) := by
  have e2 := FN_eq (P := P) (xs := xs) (lim := lim)
  rw [e2]
  refine ⟨(cn_rng _ _).1, fun h c u k => ?_, fun h => ?_⟩
  · obtain ⟨hc, hu⟩ := Lf_okF hP hX c u k
    have hlen := isC_len hP hX
    have rc : 0 ≤ c ∧ c < 152 := by unfold vld at hc; omega
    have ru : 0 ≤ u ∧ u < 152 := by unfold vld at hu; omega
    have := cn_rm (h := fun x => dcl (Lf P xs lim (x / 192) (x % 192))) (b := 192 * c + u) (m := 456 * 64) (by omega) (by omega) (by
      show dcl (Lf P xs lim ((192 * c + u) / 192) ((192 * c + u) % 192)) = true
      rw [show (192 * c + u) / 192 = c by omega, show (192 * c + u) % 192 = u by omega]; exact dcl_t k)
    have h9 := (cn_rng (fun x => dcl (Lf P xs lim (x / 192) (x % 192)) && !(x == 192 * c + u)) (456 * 64)).1
    omega
  · have : ∀ m : Nat, cn (fun x => dcl (Lf P xs lim (x / 192) (x % 192))) m = 0 := fun m => by
      induction m with
      | zero => rfl
      | succ m ih => rw [cn_succ, ih, if_neg (by rw [dcl_f (h _ _)]; decide)]; rfl
    exact this _
end RNK
