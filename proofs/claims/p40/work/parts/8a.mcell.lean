/-! own variables; codes of cells -/
def loc (f x : Int) : Prop := x < 4 ∨ (x - 4) / 4 = f
def okO (P : Pg) : Prop := ∀ n, 0 ≤ n → n < tot P → loc (own P n) (vv P n) ∧ loc (own P n) (ww P n)
theorem st_at {P : Pg} (hP : okP P) {n : Int} (n0 : 0 ≤ n) (n1 : n < tot P) : (0 ≤ kd P n ∧ kd P n ≤ 6) ∧ ((0 ≤ vv P n ∧ vv P n ≤ 19) ∧ ((0 ≤ ww P n ∧ ww P n ≤ 19) ∧ (0 ≤ nn P n ∧ nn P n ≤ 3))) := by
  obtain ⟨h1, h2, h3⟩ := hP.2.1 n n0 n1
  exact ⟨h1, h2⟩
theorem cx_fn {P : Pg} (hP : okP P) {xs : List Int} {lim : Int} (hX : isC P lim xs) {i : Int} (i0 : 0 ≤ i) (i1 : i < xs.length) : (0 ≤ la xs i ∧ la xs i < 9412) ∧ (0 ≤ la xs i / 2353 ∧ la xs i / 2353 ≤ 3) := by
  have := RS_rng hP ((hX.2 _).mp (la_mem i0 i1))
  omega
theorem cdf_clo {P : Pg} (hP : okP P) {xs : List Int} {lim : Int} (hX : isC P lim xs) {i n x : Int} (hi : itm P xs i n) (hl : loc (own P n) x) : cdf xs (clo x i) = x := by
  have hlen := isC_len hP hX
  obtain ⟨⟨i0, i1⟩, -, h3⟩ := hi
  unfold loc at hl
  unfold cdf clo
  by_cases q : x < 4
  · rw [if_pos q, if_neg (by omega), if_pos q]
  · rw [if_neg q, if_neg (by omega), if_neg (by omega)]
    have e1 : (4 + 4 * i + (x - 4) % 4 - 4) / 4 = i := by omega
    have e2 : (4 + 4 * i + (x - 4) % 4 - 4) % 4 = (x - 4) % 4 := by omega
    rw [e1, e2, ← h3]
    omega
/-- a local cell's code, whatever the variable -/
theorem cdf_loc {P : Pg} (hP : okP P) {xs : List Int} {lim : Int} (hX : isC P lim xs) {i k : Int} (i0 : 0 ≤ i) (i1 : i < xs.length) (k0 : 0 ≤ k) (k1 : k < 4) : cdf xs (4 + 4 * i + k) = 4 + 4 * (la xs i / 2353) + k := by
  have hlen := isC_len hP hX
  unfold cdf
  rw [if_neg (by omega), if_neg (by omega)]
  rw [show (4 + 4 * i + k - 4) / 4 = i by omega, show (4 + 4 * i + k - 4) % 4 = k by omega]
theorem cdf_glo {xs : List Int} {c : Int} (h : c < 4) : cdf xs c = c := by
  unfold cdf; rw [if_neg (by omega), if_pos h]
theorem cdf_fld {xs : List Int} {c : Int} (h : 128 ≤ c) : cdf xs c = c - 108 := by
  unfold cdf; rw [if_pos h]; omega
theorem cdf_var {P : Pg} (hP : okP P) {xs : List Int} {lim : Int} (hX : isC P lim xs) {c : Int} (hc : vld xs c) (h : c < 128) : 0 ≤ cdf xs c ∧ cdf xs c < 20 := by
  obtain ⟨h0, h1 | ⟨h1, h2⟩ | h1⟩ := hc
  · rw [cdf_glo h1]; omega
  · have := cx_fn hP hX (i := (c - 4) / 4) (by omega) (by omega)
    rw [show c = 4 + 4 * ((c - 4) / 4) + (c - 4) % 4 by omega, cdf_loc hP hX (by omega) (by omega) (by omega) (by omega)]
    omega
  · omega
theorem cdf_20 {P : Pg} (hP : okP P) {xs : List Int} {lim : Int} (hX : isC P lim xs) {c : Int} (hc : vld xs c) : 20 ≤ cdf xs c ↔ 128 ≤ c := by
  by_cases h : 128 ≤ c
  · rw [cdf_fld h]; omega
  · have := cdf_var hP hX hc (by omega); omega
theorem cdf_44 {P : Pg} (hP : okP P) {xs : List Int} {lim : Int} (hX : isC P lim xs) {c : Int} (hc : vld xs c) : 0 ≤ cdf xs c ∧ cdf xs c < 44 := cdf_rng (xok_of hP hX) hc
theorem ext_rm {P : Pg} (hP : okP P) {xs : List Int} {lim : Int} (hX : isC P lim xs) {i n : Int} (hi : itm P xs i n) : 0 ≤ ext lim (la xs i % 2353) n ∧ ext lim (la xs i % 2353) n < 2353 := by
  have h4 := tot_rng hP.1
  obtain ⟨n0, n1⟩ := hi.2.1
  unfold ext
  split
  · omega
  · split
    · omega
    · have h5 := lst_call hP (RS_VE hP ((hX.2 _).mp (la_mem hi.1.1 hi.1.2))) (by omega)
      have := h5.1
      have := h5.2.1
      omega
/-- the context 0 -/
theorem cx_0 {P : Pg} {xs : List Int} {lim : Int} (hX : isC P lim xs) : (0 ≤ cbl xs 0 ∧ cbl xs 0 < xs.length) ∧ la xs (cbl xs 0) = 0 := la_cbl hX.1 ((hX.2 0).mpr (RS_0 P lim))
/-! the unification tells no less -/
def tb (t : Int) : Tm := if t < 20 then (t, 0) else (20 + (t - 20) / 3, 0)
theorem tb_lt {t : Int} (h : t < 20) : tb t = (t, 0) := if_pos h
theorem tb_fld {s : Int} (h : 0 ≤ s) : tb (20 + 3 * s) = (20 + s, 0) := by
  unfold tb; rw [if_neg (by omega), show 20 + (20 + 3 * s - 20) / 3 = 20 + s by omega]
theorem tU_tb (t : Int) : tU (tb t) = ((tb t).1, 1) := by
  unfold tb tU; split <;> rfl
theorem ug_EQ {P : Pg} {n : Int} (n0 : 0 ≤ n) (n1 : n < tot P) {s t : Tm} (h : EQ P n s t) : ugE P s t := cg_eq ⟨n, n0, n1, h⟩
def UL (P : Pg) (xs : List Int) (c u : Int) : Prop := (vld xs c ∧ vld xs u) ∧ ugE P (tU (tb (cdf xs c))) (tb (cdf xs u))
theorem UL_DD {P : Pg} (hP : okP P) (hO : okO P) {xs : List Int} {lim : Int} (hX : isC P lim xs) {i n c u : Int} (hi : itm P xs i n) (h : DD P xs lim (UL P xs) i n c u) : UL P xs c u := by
  refine ⟨DD_ok hP hX (A := UL P xs) (fun c u g => g.1) hi h, ?_⟩
  obtain ⟨n0, n1⟩ := hi.2.1
  obtain ⟨hv, hw⟩ := hO n n0 n1
  obtain ⟨-, rv, rw', rn⟩ := st_at hP n0 n1
  have ev := cdf_clo hP hX hi hv
  have ew := cdf_clo hP hX hi hw
  have tv : tb (vv P n) = (vv P n, 0) := tb_lt (by omega)
  have tw : tb (ww P n) = (ww P n, 0) := tb_lt (by omega)
  rcases h with ⟨g0, g1, g2⟩ | ⟨g0, g1, g2⟩ | ⟨g0, g1, x, g2, g3⟩ | ⟨g0, g1, g2⟩ | ⟨g0, g1, g2⟩ | ⟨g0, g1, ⟨g2, g3⟩ | ⟨g2, x, g3, g4, g5, g6⟩⟩ | ⟨g0, ⟨g1, g2⟩ | ⟨g1, g2⟩⟩
  · rw [g1, g2, ev, ew, tv, tw]
    exact ug_EQ n0 n1 (Or.inl ⟨g0, rfl, rfl⟩)
  · rw [g1, ev, tv]
    have k := g2.2
    rw [ew, tw] at k
    exact cg_trans (ug_EQ n0 n1 (Or.inr (Or.inr (Or.inr (Or.inr (Or.inr ⟨Or.inl g0, rfl, rfl⟩)))))) k
  · rw [g1, ev, tv]
    have k := g2.2
    rw [ew, tw] at k
    exact cg_trans (ug_EQ n0 n1 (Or.inr (Or.inl ⟨g0, rfl, rfl⟩))) (cg_trans (cg_U k) g3.2)
  · have k1 := g1.2
    have k2 := g2.2
    rw [ev, tv] at k1
    rw [ew, tw] at k2
    refine cg_trans (cg_U (cg_symm k1)) (cg_trans (ug_EQ n0 n1 (Or.inr (Or.inr (Or.inl ⟨g0, rfl, rfl⟩)))) k2)
  · rw [g1, ev, tv, g2]
    have s0 := (sn_rng (P := P) n0).1
    rw [cdf_fld (by omega), show 128 + 3 * sn P n - 108 = 20 + 3 * sn P n by omega, tb_fld s0]
    exact ug_EQ n0 n1 (Or.inr (Or.inr (Or.inr (Or.inl ⟨g0, rfl, rfl⟩))))
  · rw [g1, ev, tv]
    have k := g3.2
    rw [ew, tw] at k
    exact cg_trans (ug_EQ n0 n1 (Or.inr (Or.inr (Or.inr (Or.inr (Or.inr ⟨Or.inr g0, rfl, rfl⟩)))))) k
  · rw [g1, ev, tv]
    have k := g3.2
    rw [ew, tw] at k
    have e : tb (cdf xs u) = tb (cdf xs x) := by
      rw [g6, cdf_fld g4, cdf_fld (by omega)]
      unfold tb
      rw [if_neg (by omega), if_neg (by omega), show (x + nn P n - 108 - 20) / 3 = (x - 108 - 20) / 3 by omega]
    rw [e]
    exact cg_trans (ug_EQ n0 n1 (Or.inr (Or.inr (Or.inr (Or.inr (Or.inr ⟨Or.inr g0, rfl, rfl⟩)))))) k
  · obtain ⟨p0, p1⟩ := plf_ok hX hi g0
    have ec : cdf xs (4 + 4 * plf P xs lim i n) = 4 + 4 * nn P n := by
      have := cdf_loc hP hX p0.1 p0.2 (k := 0) (by omega) (by omega)
      rw [Int.add_zero, Int.add_zero, p1] at this
      rw [this]
      have hk := ext_rm hP hX hi
      omega
    rw [g1, ec, tb_lt (by omega)]
    have k := g2.2
    rw [ew, tw] at k
    exact cg_trans (ug_EQ n0 n1 (Or.inr (Or.inr (Or.inr (Or.inr (Or.inl ⟨g0, Or.inl ⟨rfl, rfl⟩⟩)))))) k
  · obtain ⟨p0, p1⟩ := plf_ok hX hi g0
    have ec : cdf xs (4 + 4 * plf P xs lim i n + 1) = 4 + 4 * nn P n + 1 := by
      rw [cdf_loc hP hX p0.1 p0.2 (k := 1) (by omega) (by omega), p1]
      have hk := ext_rm hP hX hi
      omega
    have k := g2.2
    rw [ec, tb_lt (by omega)] at k
    rw [g1, ev, tv]
    exact cg_trans (ug_EQ n0 n1 (Or.inr (Or.inr (Or.inr (Or.inr (Or.inl ⟨g0, Or.inr ⟨rfl, rfl⟩⟩)))))) k
theorem Lf_UL {P : Pg} (hP : okP P) (hO : okO P) {xs : List Int} {lim : Int} (hX : isC P lim xs) {c u : Int} (h : Lf P xs lim c u) : UL P xs c u := LF_least (fun _ _ _ _ hi g => UL_DD hP hO hX hi g) h
/-- how many sites -/
theorem sn_st {P : Pg} (hP : okP P) {n : Int} (n0 : 0 ≤ n) (n1 : n < tot P) (hk : kd P n = 4) : 0 ≤ sn P n ∧ sn P n < mny P 4 (-1) := by
  have h1 := sn_succ (P := P) n0
  rw [if_pos hk] at h1
  have h2 := sn_mono (P := P) (show n + 1 ≤ tot P by omega)
  have h3 := mny_all hP.1
  have h5 := (sn_rng (P := P) n0).1
  omega
theorem mny_nn {P : Pg} (hP : okP P) : 0 ≤ mny P 4 (-1) ∧ mny P 4 (-1) ≤ 8 := by
  have h := hP.2.2.1
  have h3 := mny_all hP.1
  have h4 := (sn_rng (P := P) (tot_rng hP.1).1).1
  omega
theorem clo_128 {P : Pg} (hP : okP P) {xs : List Int} {lim : Int} (hX : isC P lim xs) {i x : Int} (i1 : i < xs.length) : clo x i < 128 := by
  have hlen := isC_len hP hX
  unfold clo; split <;> omega
def VS (P : Pg) (xs : List Int) (c u : Int) : Prop := (vld xs c ∧ vld xs u) ∧ (c < 128 + 3 * mny P 4 (-1) ∧ u < 128 + 3 * mny P 4 (-1))
theorem VS_DD {P : Pg} (hP : okP P) {xs : List Int} {lim : Int} (hX : isC P lim xs) {i n c u : Int} (hi : itm P xs i n) (h : DD P xs lim (VS P xs) i n c u) : VS P xs c u := by
  refine ⟨DD_ok hP hX (A := VS P xs) (fun c u g => g.1) hi h, ?_⟩
  have hm := mny_nn hP
  have hlen := isC_len hP hX
  obtain ⟨n0, n1⟩ := hi.2.1
  have cv := clo_128 hP hX (x := vv P n) hi.1.2
  have cw := clo_128 hP hX (x := ww P n) hi.1.2
  rcases h with ⟨g0, g1, g2⟩ | ⟨g0, g1, g2⟩ | ⟨g0, g1, x, g2, g3⟩ | ⟨g0, g1, g2⟩ | ⟨g0, g1, g2⟩ | ⟨g0, g1, ⟨g2, g3⟩ | ⟨g2, x, g3, g4, g5, g6⟩⟩ | ⟨g0, ⟨g1, g2⟩ | ⟨g1, g2⟩⟩
  · omega
  · have := g2.2.2; omega
  · have := g3.2.2; omega
  · have := g1.2.2; have := g2.2.2; omega
  · have := sn_st hP n0 n1 g0; omega
  · have := g3.2.2; omega
  · have h1 := g3.2.2
    have h2 := g3.1.2
    have h3 := h2.1
    have h4 := st_at hP n0 n1
    omega
  · have := (plf_ok hX hi g0).1
    have := g2.2.2; omega
  · have := g2.2.2; omega
theorem Lf_VS {P : Pg} (hP : okP P) {xs : List Int} {lim : Int} (hX : isC P lim xs) {c u : Int} (h : Lf P xs lim c u) : VS P xs c u := LF_least (fun _ _ _ _ hi g => VS_DD hP hX hi g) h
/-- what is pointed to by the inclusion is so by the unification -/
theorem im_ugT {P : Pg} (hP : okP P) (hO : okO P) {xs : List Int} {lim : Int} (hX : isC P lim xs) {v t : Int} (v1 : v < 20) (h : im xs (Lf P xs lim) v t) : ugT P (mny P 4 (-1)) v t := by
  obtain ⟨c, u, h1, rfl, rfl⟩ := h
  obtain ⟨⟨h2, h3⟩, h4⟩ := Lf_UL hP hO hX h1
  have h5 := (Lf_VS hP hX h1).2.2
  rw [tb_lt v1] at h4
  by_cases q : 128 ≤ u
  · refine Or.inr ⟨(u - 128) / 3, by omega, by omega, ?_, ?_⟩
    · rw [cdf_fld q]; omega
    · rw [cdf_fld q] at h4
      unfold tb at h4
      rw [if_neg (by omega), show 20 + (u - 108 - 20) / 3 = 20 + (u - 128) / 3 by omega] at h4
      exact h4
  · have hu := cdf_var hP hX h3 (by omega)
    rw [tb_lt hu.2] at h4
    exact Or.inl ⟨hu.2, h4⟩
theorem im_rng {P : Pg} (hP : okP P) {xs : List Int} {lim : Int} (hX : isC P lim xs) {v t : Int} (h : im xs (Lf P xs lim) v t) : (0 ≤ v ∧ v < 20 + 3 * mny P 4 (-1)) ∧ (0 ≤ t ∧ t < 20 + 3 * mny P 4 (-1)) := by
  obtain ⟨c, u, h1, rfl, rfl⟩ := h
  have hm := mny_nn hP
  obtain ⟨⟨h2, h3⟩, h4, h5⟩ := Lf_VS hP hX h1
  have k1 := cdf_44 hP hX h2
  have k2 := cdf_44 hP hX h3
  refine ⟨⟨k1.1, ?_⟩, ⟨k2.1, ?_⟩⟩
  · by_cases q : 128 ≤ c
    · rw [cdf_fld q]; omega
    · have := cdf_var hP hX h2 (by omega); omega
  · by_cases q : 128 ≤ u
    · rw [cdf_fld q]; omega
    · have := cdf_var hP hX h3 (by omega); omega
/-- equivalent variables have the same targets -/
theorem ugT_congr {P : Pg} {st v w t : Int} (h : ugE P (v, 0) (w, 0)) : ugT P st v t ↔ ugT P st w t := by
  have k : ugE P (v, 1) (w, 1) := cg_U h
  have k' : ugE P (w, 1) (v, 1) := cg_U (cg_symm h)
  constructor
  · rintro (⟨a, b⟩ | ⟨s, a, b, c, d⟩)
    · exact Or.inl ⟨a, cg_trans k' b⟩
    · exact Or.inr ⟨s, a, b, c, cg_trans k' d⟩
  · rintro (⟨a, b⟩ | ⟨s, a, b, c, d⟩)
    · exact Or.inl ⟨a, cg_trans k b⟩
    · exact Or.inr ⟨s, a, b, c, cg_trans k d⟩
