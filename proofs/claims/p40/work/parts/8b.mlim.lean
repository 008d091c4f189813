/-! a greater limit tells no more -/
def prk (l k : Int) : Int := if l = 0 then 0 else if k = 0 then 0 else 1 + lst k
def pre (l e : Int) : Int := e / 2353 * 2353 + prk l (e % 2353)
theorem prk_ext {l lim k n : Int} (hl : (l = 0 ∧ lim = 1) ∨ ((l = 0 ∧ lim = 2) ∨ (l = 1 ∧ lim = 2))) (hk : k ≠ 0 → 0 ≤ lst k) (n0 : 0 ≤ n) (n1 : n < 48) : prk l (ext lim k n) = ext l (prk l k) n := by
  by_cases h0 : l = 0
  · unfold prk; rw [if_pos h0, if_pos h0]
    unfold ext; rw [if_pos h0]
  · have e1 : l = 1 := by omega
    have e2 : lim = 2 := by omega
    subst e1; subst e2
    unfold prk
    rw [if_neg h0, if_neg h0]
    have e3 : ∀ x, ext 1 x n = 1 + n := fun x => by unfold ext; rw [if_neg (by omega), if_pos (Or.inl rfl)]
    rw [e3]
    unfold ext
    rw [if_neg (by omega)]
    by_cases q : k = 0
    · rw [if_pos (Or.inr q), if_neg (by omega)]
      unfold lst; rw [if_neg (by omega)]; omega
    · have := hk q
      rw [if_neg (by omega), if_neg (by omega)]
      generalize lst k = m at this ⊢
      unfold lst; rw [if_pos (by omega)]; omega
section LIM
variable {P : Pg} {l lim : Int} {xs ys : List Int}
theorem lst_rm (hP : okP P) {e : Int} (h : RS P lim e) (hk : e % 2353 ≠ 0) : 0 ≤ lst (e % 2353) ∧ lst (e % 2353) < 48 := by
  have h1 := lst_call hP (RS_VE hP h) hk
  have h2 := tot_rng hP.1
  have := h1.1
  have := h1.2.1
  omega
theorem prk_rng (hP : okP P) {e : Int} (h : RS P lim e) : 0 ≤ prk l (e % 2353) ∧ prk l (e % 2353) < 2353 := by
  unfold prk
  split
  · omega
  · split
    · omega
    · rename_i q
      have := lst_rm hP h q
      omega
theorem pre_dm (hP : okP P) {e : Int} (h : RS P lim e) : pre l e / 2353 = e / 2353 ∧ pre l e % 2353 = prk l (e % 2353) := by
  have := prk_rng (l := l) hP h
  unfold pre; omega
theorem ext_rng' (hP : okP P) {e n : Int} (h : RS P lim e) (n0 : 0 ≤ n) (n1 : n < 48) : 0 ≤ ext lim (e % 2353) n ∧ ext lim (e % 2353) n < 2353 := by
  unfold ext
  split
  · omega
  · split
    · omega
    · have := lst_rm hP h (by omega)
      omega
theorem RS_pre (hP : okP P) (hl : (l = 0 ∧ lim = 1) ∨ ((l = 0 ∧ lim = 2) ∨ (l = 1 ∧ lim = 2))) {e : Int} (h : RS P lim e) : RS P l (pre l e) := by
  refine (h (fun a => RS P lim a ∧ RS P l (pre l a)) ⟨RS_0 P lim, ?_⟩ (fun a b ha hs => ⟨RS_step ha.1 hs, ?_⟩)).2
  · have e0 : pre l 0 = 0 := by
      unfold pre prk; simp
    rw [e0]; exact RS_0 P l
  · obtain ⟨c, hc, ho, rfl⟩ := hs
    have hr := call_rng hP hc
    have h1 := pre_dm (l := l) hP ha.1
    have h2 := ext_rng' hP ha.1 hr.1.1 hr.1.2
    refine RS_step ha.2 ⟨c, hc, by rw [h1.1]; exact ho, ?_⟩
    rw [h1.2, ← prk_ext hl (fun q => (lst_rm hP ha.1 q).1) hr.1.1 hr.1.2]
    unfold pre
    rw [show (nn P c * 2353 + ext lim (a % 2353) c) / 2353 = nn P c by omega, show (nn P c * 2353 + ext lim (a % 2353) c) % 2353 = ext lim (a % 2353) c by omega]
def pj (xs ys : List Int) (l i : Int) : Int := cbl ys (pre l (la xs i))
def pc (xs ys : List Int) (l c : Int) : Int := if c < 4 ∨ 128 ≤ c then c else 4 + 4 * pj xs ys l ((c - 4) / 4) + (c - 4) % 4
theorem pj_ok (hP : okP P) (hl : (l = 0 ∧ lim = 1) ∨ ((l = 0 ∧ lim = 2) ∨ (l = 1 ∧ lim = 2))) (hX : isC P lim xs) (hY : isC P l ys) {i : Int} (i0 : 0 ≤ i) (i1 : i < xs.length) : (0 ≤ pj xs ys l i ∧ pj xs ys l i < ys.length) ∧ la ys (pj xs ys l i) = pre l (la xs i) :=
  la_cbl hY.1 ((hY.2 _).mpr (RS_pre hP hl ((hX.2 _).mp (la_mem i0 i1))))
theorem pc_loc (hP : okP P) (hX : isC P lim xs) {i k : Int} (i0 : 0 ≤ i) (i1 : i < xs.length) (k0 : 0 ≤ k) (k1 : k < 4) : pc xs ys l (4 + 4 * i + k) = 4 + 4 * pj xs ys l i + k := by
  have hlen := isC_len hP hX
  unfold pc
  rw [if_neg (by omega), show (4 + 4 * i + k - 4) / 4 = i by omega, show (4 + 4 * i + k - 4) % 4 = k by omega]
theorem pc_clo (hP : okP P) (hX : isC P lim xs) {i x : Int} (i0 : 0 ≤ i) (i1 : i < xs.length) : pc xs ys l (clo x i) = clo x (pj xs ys l i) := by
  unfold clo
  by_cases q : x < 4
  · rw [if_pos q, if_pos q]; unfold pc; rw [if_pos (Or.inl q)]
  · rw [if_neg q, if_neg q]; exact pc_loc hP hX i0 i1 (by omega) (by omega)
theorem pc_fld {c : Int} (h : 128 ≤ c) : pc xs ys l c = c := by unfold pc; rw [if_pos (Or.inr h)]
theorem pj_itm (hP : okP P) (hl : (l = 0 ∧ lim = 1) ∨ ((l = 0 ∧ lim = 2) ∨ (l = 1 ∧ lim = 2))) (hX : isC P lim xs) (hY : isC P l ys) {i n : Int} (hi : itm P xs i n) : itm P ys (pj xs ys l i) n := by
  obtain ⟨h1, h2⟩ := pj_ok hP hl hX hY hi.1.1 hi.1.2
  refine ⟨h1, hi.2.1, ?_⟩
  rw [h2, (pre_dm hP ((hX.2 _).mp (la_mem hi.1.1 hi.1.2))).1]; exact hi.2.2
theorem pj_plf (hP : okP P) (hl : (l = 0 ∧ lim = 1) ∨ ((l = 0 ∧ lim = 2) ∨ (l = 1 ∧ lim = 2))) (hX : isC P lim xs) (hY : isC P l ys) {i n : Int} (hi : itm P xs i n) (hk : kd P n = 6) : pj xs ys l (plf P xs lim i n) = plf P ys l (pj xs ys l i) n := by
  obtain ⟨h1, h2⟩ := pj_ok hP hl hX hY hi.1.1 hi.1.2
  obtain ⟨h3, h4⟩ := plf_ok hX hi hk
  have hr := (hX.2 _).mp (la_mem hi.1.1 hi.1.2)
  have h5 := pre_dm (l := l) hP hr
  have hc := call_rng hP ⟨hi.2.1.1, hi.2.1.2, hk⟩
  have h6 := ext_rng' hP hr hc.1.1 hc.1.2
  unfold pj
  unfold pj at h2
  rw [h4]
  unfold plf
  rw [h2, h5.2, ← prk_ext hl (fun q => (lst_rm hP hr q).1) hc.1.1 hc.1.2]
  congr 1
  unfold pre
  rw [show (nn P n * 2353 + ext lim (la xs i % 2353) n) / 2353 = nn P n by omega, show (nn P n * 2353 + ext lim (la xs i % 2353) n) % 2353 = ext lim (la xs i % 2353) n by omega]
theorem cdf_pc (hP : okP P) (hl : (l = 0 ∧ lim = 1) ∨ ((l = 0 ∧ lim = 2) ∨ (l = 1 ∧ lim = 2))) (hX : isC P lim xs) (hY : isC P l ys) {c : Int} (hc : vld xs c) : cdf ys (pc xs ys l c) = cdf xs c := by
  obtain ⟨h0, h1 | ⟨h1, h2⟩ | h1⟩ := hc
  · unfold pc; rw [if_pos (Or.inl h1), cdf_glo h1, cdf_glo h1]
  · have e : c = 4 + 4 * ((c - 4) / 4) + (c - 4) % 4 := by omega
    have i0 : 0 ≤ (c - 4) / 4 := by omega
    have i1 : (c - 4) / 4 < xs.length := by omega
    obtain ⟨h3, h4⟩ := pj_ok hP hl hX hY i0 i1
    have h5 := pre_dm (l := l) hP ((hX.2 _).mp (la_mem i0 i1))
    rw [e, pc_loc hP hX i0 i1 (by omega) (by omega), cdf_loc hP hY h3.1 h3.2 (by omega) (by omega), cdf_loc hP hX i0 i1 (by omega) (by omega), h4, h5.1]
  · rw [pc_fld h1.1, cdf_fld h1.1, cdf_fld h1.1]
theorem Lf_pc (hP : okP P) (hl : (l = 0 ∧ lim = 1) ∨ ((l = 0 ∧ lim = 2) ∨ (l = 1 ∧ lim = 2))) (hX : isC P lim xs) (hY : isC P l ys) {c u : Int} (h : Lf P xs lim c u) : Lf P ys l (pc xs ys l c) (pc xs ys l u) := by
  refine LF_least (X := fun c u => Lf P ys l (pc xs ys l c) (pc xs ys l u)) (fun i n c u hi g => ?_) h
  have hj := pj_itm hP hl hX hY hi
  have ec : ∀ x, pc xs ys l (clo x i) = clo x (pj xs ys l i) := fun x => pc_clo hP hX hi.1.1 hi.1.2
  refine LF_closed hj ?_
  rcases g with ⟨g0, g1, g2⟩ | ⟨g0, g1, g2⟩ | ⟨g0, g1, x, g2, g3⟩ | ⟨g0, g1, g2⟩ | ⟨g0, g1, g2⟩ | ⟨g0, g1, ⟨g2, g3⟩ | ⟨g2, x, g3, g4, g5, g6⟩⟩ | ⟨g0, ⟨g1, g2⟩ | ⟨g1, g2⟩⟩
  · rw [g1, g2, ec, ec]; exact Or.inl ⟨g0, rfl, rfl⟩
  · rw [g1, ec]; rw [ec] at g2; exact Or.inr (Or.inl ⟨g0, rfl, g2⟩)
  · rw [g1, ec]; rw [ec] at g2; exact Or.inr (Or.inr (Or.inl ⟨g0, rfl, _, g2, g3⟩))
  · rw [ec] at g1 g2; exact Or.inr (Or.inr (Or.inr (Or.inl ⟨g0, g1, g2⟩)))
  · have := (sn_rng (P := P) hi.2.1.1).1
    rw [g1, ec, g2, pc_fld (by omega)]
    exact Or.inr (Or.inr (Or.inr (Or.inr (Or.inl ⟨g0, rfl, rfl⟩))))
  · rw [g1, ec]; rw [ec] at g3; exact Or.inr (Or.inr (Or.inr (Or.inr (Or.inr (Or.inl ⟨g0, rfl, Or.inl ⟨g2, g3⟩⟩)))))
  · have hn := st_at hP hi.2.1.1 hi.2.1.2
    rw [ec, pc_fld g4] at g3
    rw [g1, ec, pc_fld (c := u) (by omega)]
    exact Or.inr (Or.inr (Or.inr (Or.inr (Or.inr (Or.inl ⟨g0, rfl, Or.inr ⟨g2, x, g3, g4, g5, g6⟩⟩)))))
  · have hp := (plf_ok hX hi g0).1
    have e := pc_loc (ys := ys) (l := l) hP hX hp.1 hp.2 (k := 0) (by omega) (by omega)
    rw [Int.add_zero, Int.add_zero] at e
    rw [g1, e, pj_plf hP hl hX hY hi g0]; rw [ec] at g2
    exact Or.inr (Or.inr (Or.inr (Or.inr (Or.inr (Or.inr ⟨g0, Or.inl ⟨rfl, g2⟩⟩)))))
  · have hp := (plf_ok hX hi g0).1
    have e := pc_loc (ys := ys) (l := l) hP hX hp.1 hp.2 (k := 1) (by omega) (by omega)
    rw [g1, ec]; rw [e, pj_plf hP hl hX hY hi g0] at g2
    exact Or.inr (Or.inr (Or.inr (Or.inr (Or.inr (Or.inr ⟨g0, Or.inr ⟨rfl, g2⟩⟩)))))
theorem im_lim (hP : okP P) (hl : (l = 0 ∧ lim = 1) ∨ ((l = 0 ∧ lim = 2) ∨ (l = 1 ∧ lim = 2))) (hX : isC P lim xs) (hY : isC P l ys) {v t : Int} (h : im xs (Lf P xs lim) v t) : im ys (Lf P ys l) v t := by
  obtain ⟨c, u, h1, rfl, rfl⟩ := h
  have h2 := Lf_okF hP hX c u h1
  exact ⟨_, _, Lf_pc hP hl hX hY h1, cdf_pc hP hl hX hY h2.1, cdf_pc hP hl hX hY h2.2⟩
end LIM
