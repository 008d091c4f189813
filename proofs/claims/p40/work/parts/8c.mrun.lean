/-! what a run observes is told by the inclusion analysis -/
def MI (P : Pg) (xs : List Int) (lim : Int) (s : St) (γ κ : Int → Int) : Prop :=
  (∀ a, 1 ≤ a → a < gI s 46 7 → vld xs (γ a) ∧ cdf xs (γ a) = gI s 48 a) ∧
  ((∀ a, 1 ≤ a → a < gI s 46 7 → gI s 47 a ≠ 0 → Lf P xs lim (γ a) (γ (gI s 47 a))) ∧
  ((∀ i, 0 ≤ i → i < gI s 46 6 → ((0 ≤ κ i ∧ κ i < xs.length) ∧ la xs (κ i) / 2353 = gI s 50 i) ∧ ∀ k, 0 ≤ k → k < 4 → γ (gI s 52 i + k) = 4 + 4 * κ i + k) ∧
  ((∀ a, 1 ≤ a → a ≤ 4 → γ a = a - 1) ∧
  ((∀ i, 0 ≤ i → i + 1 < gI s 46 6 → kd P (gI s 51 i - 1) = 6 ∧ κ (i + 1) = plf P xs lim (κ i) (gI s 51 i - 1)) ∧
  (∀ j, 0 ≤ j → j < 44 → ∀ t : Nat, t < 64 → (gL s 49 j).getLsbD t = true → im xs (Lf P xs lim) j t)))))
section RUN
variable {P : Pg} {lim : Int} {xs : List Int} {s : St} {γ κ : Int → Int}
theorem mwr_L {a p j : Int} : gL (mwr a p s) 49 j = if p ≠ 0 ∧ j = gI s 48 a then gL s 49 j ||| (BitVec.ofNat 64 1 <<< sh6 (gI s 48 p)) else gL s 49 j := by
  unfold mwr
  by_cases h : p = 0
  · rw [if_pos h, if_neg (fun k => k.1 h)]; rfl
  · rw [if_neg h]
    by_cases q : j = gI s 48 a
    · rw [if_pos ⟨h, q⟩, gL_sL, if_pos ⟨rfl, q⟩, q]
    · rw [if_neg (fun k => q k.2), gL_sL, if_neg (fun k => q k.2)]; rfl
theorem MI_wr (hP : okP P) (hX : isC P lim xs) (h : MI P xs lim s γ κ) {a p : Int} (ha : 1 ≤ a ∧ a < gI s 46 7) (hp : 0 ≤ p ∧ p < gI s 46 7) (hl : p ≠ 0 → Lf P xs lim (γ a) (γ p)) : MI P xs lim (mwr a p s) γ κ := by
  obtain ⟨h1, h2, h3, h4, h5, h6⟩ := h
  unfold MI
  rw [mwr_ne (c := 46) (by decide), mwr_ne (c := 48) (by decide), mwr_ne (c := 50) (by decide), mwr_ne (c := 51) (by decide), mwr_ne (c := 52) (by decide), mwr_47]
  refine ⟨h1, fun b b0 b1 => ?_, h3, h4, h5, fun j j0 j1 t t1 hb => ?_⟩
  · show (if b = a then p else gI s 47 b) ≠ 0 → Lf P xs lim (γ b) (γ (if b = a then p else gI s 47 b))
    by_cases q : b = a
    · rw [if_pos q, q]; exact hl
    · rw [if_neg q]; exact h2 b b0 b1
  · rw [mwr_L] at hb
    by_cases q : p ≠ 0 ∧ j = gI s 48 a
    · rw [if_pos q, BitVec.getLsbD_or, Bool.or_eq_true] at hb
      rcases hb with hb | hb
      · exact h6 j j0 j1 t t1 hb
      · have ca := h1 a ha.1 ha.2
        have cp := h1 p (by omega) hp.2
        have rp := cdf_44 hP hX cp.1
        rw [sh6_id (by omega) (by omega), bb_one (by omega), decide_eq_true_eq] at hb
        refine ⟨γ a, γ p, hl q.1, by rw [q.2]; exact ca.2, ?_⟩
        rw [cp.2]; omega
    · rw [if_neg q] at hb; exact h6 j j0 j1 t t1 hb
theorem MI_46 (h : MI P xs lim s γ κ) {j v : Int} (j6 : j ≠ 6) (j7 : j ≠ 7) : MI P xs lim (sI s 46 j v) γ κ := by
  unfold MI
  have e : ∀ i, i ≠ j → gI (sI s 46 j v) 46 i = gI s 46 i := fun i k => by rw [gI_sI, if_neg (fun g => k g.2)]
  rw [e 6 (Ne.symm j6), e 7 (Ne.symm j7), gI_rne (by decide), gI_rne (by decide), gI_rne (by decide), gI_rne (by decide), gI_rne (by decide)]
  exact h
theorem MI_nx (h : MI P xs lim s γ κ) {v : Int} : MI P xs lim (sI s 51 (gI s 46 6 - 1) v) γ κ := by
  obtain ⟨h1, h2, h3, h4, h5, h6⟩ := h
  unfold MI
  rw [gI_rne (c := 51) (d := 46) (by decide), gI_rne (c := 51) (d := 47) (by decide), gI_rne (c := 51) (d := 48) (by decide), gI_rne (c := 51) (d := 50) (by decide), gI_rne (c := 51) (d := 52) (by decide), gI_row]
  refine ⟨h1, h2, h3, h4, fun i i0 i1 => ?_, h6⟩
  show kd P ((if i = gI s 46 6 - 1 then v else gI s 51 i) - 1) = 6 ∧ κ (i + 1) = plf P xs lim (κ i) ((if i = gI s 46 6 - 1 then v else gI s 51 i) - 1)
  rw [if_neg (by omega)]
  exact h5 i i0 i1
theorem MI_pop (h : MI P xs lim s γ κ) : MI P xs lim (sI s 46 6 (gI s 46 6 - 1)) γ κ := by
  obtain ⟨h1, h2, h3, h4, h5, h6⟩ := h
  unfold MI
  have e6 : gI (sI s 46 6 (gI s 46 6 - 1)) 46 6 = gI s 46 6 - 1 := by rw [gI_sI, if_pos ⟨rfl, rfl⟩]
  have e7 : gI (sI s 46 6 (gI s 46 6 - 1)) 46 7 = gI s 46 7 := by rw [gI_sI, if_neg (by omega)]
  rw [e6, e7, gI_rne (by decide), gI_rne (by decide), gI_rne (by decide), gI_rne (by decide), gI_rne (by decide)]
  exact ⟨h1, h2, fun i i0 i1 => h3 i i0 (by omega), h4, fun i i0 i1 => h5 i i0 (by omega), h6⟩
/-- new cells -/
theorem MI_tk (h : MI P xs lim s γ κ) {c0 n g0 : Int} (hU : 5 ≤ gI s 46 7) (hn : 0 ≤ n) (hr : ∀ i, 0 ≤ i → i < gI s 46 6 → 1 ≤ gI s 52 i ∧ gI s 52 i + 3 < gI s 46 7) (hm : ∀ a, 1 ≤ a → a < gI s 46 7 → 0 ≤ gI s 47 a ∧ gI s 47 a < gI s 46 7) (hg : ∀ k, 0 ≤ k → k < n → vld xs (g0 + k) ∧ cdf xs (g0 + k) = c0 + k) :
    MI P xs lim (mtk c0 n s) (fun j => if gI s 46 7 ≤ j ∧ j < gI s 46 7 + n then g0 + (j - gI s 46 7) else γ j) κ := by
  obtain ⟨h1, h2, h3, h4, h5, h6⟩ := h
  unfold MI
  have e6 : gI (mtk c0 n s) 46 6 = gI s 46 6 := by rw [mtk_46, if_neg (by omega)]
  have e7 : gI (mtk c0 n s) 46 7 = gI s 46 7 + n := by rw [mtk_46, if_pos rfl]
  rw [e6, e7, mtk_47, mtk_48, mtk_ne (d := 50) (by decide) (by decide) (by decide), mtk_ne (d := 51) (by decide) (by decide) (by decide), mtk_ne (d := 52) (by decide) (by decide) (by decide)]
  refine ⟨fun a a0 a1 => ?_, fun a a0 a1 => ?_, fun i i0 i1 => ⟨(h3 i i0 i1).1, fun k k0 k1 => ?_⟩, fun a a0 a1 => ?_, h5, h6⟩
  · by_cases q : gI s 46 7 ≤ a ∧ a < gI s 46 7 + n
    · simp only [if_pos q]
      exact hg _ (by omega) (by omega)
    · simp only [if_neg q]
      exact h1 a a0 (by omega)
  · by_cases q : gI s 46 7 ≤ a ∧ a < gI s 46 7 + n
    · simp only [if_pos q]
      intro k; exact absurd rfl k
    · simp only [if_neg q]
      have := hm a a0 (by omega)
      rw [if_neg (show ¬ (gI s 46 7 ≤ gI s 47 a ∧ gI s 47 a < gI s 46 7 + n) by omega)]
      exact h2 a a0 (by omega)
  · have := hr i i0 i1
    show (if gI s 46 7 ≤ gI s 52 i + k ∧ gI s 52 i + k < gI s 46 7 + n then g0 + (gI s 52 i + k - gI s 46 7) else γ (gI s 52 i + k)) = _
    rw [if_neg (by omega)]
    exact (h3 i i0 i1).2 k k0 k1
  · show (if gI s 46 7 ≤ a ∧ a < gI s 46 7 + n then g0 + (a - gI s 46 7) else γ a) = _
    rw [if_neg (by omega)]
    exact h4 a a0 a1
/-- a new activation -/
theorem MI_op (h : MI P xs lim s γ κ) {g q : Int} (hU : 5 ≤ gI s 46 7) (hD : 0 ≤ gI s 46 6) (hr : ∀ i, 0 ≤ i → i < gI s 46 6 → 1 ≤ gI s 52 i ∧ gI s 52 i + 3 < gI s 46 7) (hm : ∀ a, 1 ≤ a → a < gI s 46 7 → 0 ≤ gI s 47 a ∧ gI s 47 a < gI s 46 7)
    (hq : (0 ≤ q ∧ q < xs.length) ∧ la xs q / 2353 = g) (hg : ∀ k, 0 ≤ k → k < 4 → vld xs (4 + 4 * q + k) ∧ cdf xs (4 + 4 * q + k) = 4 + 4 * g + k)
    (hc : 0 < gI s 46 6 → kd P (gI s 51 (gI s 46 6 - 1) - 1) = 6 ∧ q = plf P xs lim (κ (gI s 46 6 - 1)) (gI s 51 (gI s 46 6 - 1) - 1)) :
    MI P xs lim (mop P g s) (fun j => if gI s 46 7 ≤ j ∧ j < gI s 46 7 + 4 then 4 + 4 * q + (j - gI s 46 7) else γ j) (fun j => if j = gI s 46 6 then q else κ j) := by
  obtain ⟨h1, h2, h3, h4, h5, h6⟩ := MI_tk h (c0 := 4 + 4 * g) (n := 4) (g0 := 4 + 4 * q) hU (by omega) hr hm hg
  unfold MI
  have e6 : gI (mop P g s) 46 6 = gI s 46 6 + 1 := by rw [mop_46, if_pos rfl]
  have e7 : gI (mop P g s) 46 7 = gI s 46 7 + 4 := by rw [mop_46, if_neg (by omega), if_pos rfl]
  have t6 : gI (mtk (4 + 4 * g) 4 s) 46 6 = gI s 46 6 := by rw [mtk_46, if_neg (by omega)]
  have t7 : gI (mtk (4 + 4 * g) 4 s) 46 7 = gI s 46 7 + 4 := by rw [mtk_46, if_pos rfl]
  rw [t6] at h3 h5
  rw [t7] at h1 h2
  rw [mtk_47] at h2
  rw [mtk_48] at h1
  rw [mtk_ne (d := 50) (by decide) (by decide) (by decide), mtk_ne (d := 52) (by decide) (by decide) (by decide)] at h3
  rw [mtk_ne (d := 51) (by decide) (by decide) (by decide)] at h5
  rw [e6, e7, mop_47, mop_48, mop_50, mop_51, mop_52]
  refine ⟨h1, h2, fun i i0 i1 => ?_, h4, fun i i0 i1 => ?_, h6⟩
  · by_cases k : i = gI s 46 6
    · simp only [if_pos k]
      refine ⟨hq, fun x x0 x1 => ?_⟩
      rw [if_pos (by omega)]; omega
    · simp only [if_neg k]
      exact h3 i i0 (by omega)
  · have k : i ≠ gI s 46 6 := by omega
    simp only [if_neg k]
    by_cases k2 : i + 1 = gI s 46 6
    · rw [if_pos k2, show i = gI s 46 6 - 1 by omega]
      exact hc (by omega)
    · rw [if_neg k2]
      exact h5 i i0 (by omega)
/-- an address of a variable -/
theorem MI_adr (h : MI P xs lim s γ κ) (hD : 0 < gI s 46 6) {v : Int} (v0 : 0 ≤ v) : γ (madr v s) = clo v (κ (gI s 46 6 - 1)) := by
  obtain ⟨h1, h2, h3, h4, h5, h6⟩ := h
  unfold madr clo
  by_cases q : v < 4
  · rw [if_pos q, if_pos q, h4 _ (by omega) (by omega)]; omega
  · rw [if_neg q, if_neg q, (h3 _ (by omega) (by omega)).2 _ (by omega) (by omega)]
theorem MI_ex1 (hP : okP P) (hX : isC P lim xs) (hW : WFM P s) (h : MI P xs lim s γ κ) {n l r : Int} (n0 : 0 ≤ n) (n1 : n < tot P) (hD : 0 < gI s 46 6) (ho : own P n = gI s 50 (gI s 46 6 - 1)) (hn : gI s 51 (gI s 46 6 - 1) = n + 1)
    (hl : 1 ≤ l ∧ l < gI s 46 7) (hr : 1 ≤ r ∧ r < gI s 46 7) (gl : γ l = clo (vv P n) (κ (gI s 46 6 - 1))) (gr : γ r = clo (ww P n) (κ (gI s 46 6 - 1))) : ∃ γ' κ', MI P xs lim (mex1 P n l r s) γ' κ' := by
  obtain ⟨w1, w2, w3, w4, w5, w6, w7, w8⟩ := hW
  have hm : ∀ a, 1 ≤ a → a < gI s 46 7 → 0 ≤ gI s 47 a ∧ gI s 47 a < gI s 46 7 := fun a a0 a1 => (w5 a a0 a1).1
  have hrr : ∀ i, 0 ≤ i → i < gI s 46 6 → 1 ≤ gI s 52 i ∧ gI s 52 i + 3 < gI s 46 7 := fun i i0 i1 => by have := (w7 i i0 i1).2.2; omega
  have ht := h.2.2.1 (gI s 46 6 - 1) (by omega) (by omega)
  have hi : itm P xs (κ (gI s 46 6 - 1)) n := ⟨ht.1.1, ⟨n0, n1⟩, by rw [ho]; exact ht.1.2.symm⟩
  have hs := st_at hP n0 n1
  have hmr := hm r hr.1 hr.2
  unfold mex1
  by_cases k0 : kd P n = 0
  · rw [if_pos k0]
    refine ⟨γ, κ, MI_wr hP hX h hl ⟨by omega, hr.2⟩ (fun _ => ?_)⟩
    rw [gl, gr]; exact LF_closed hi (Or.inl ⟨k0, rfl, rfl⟩)
  rw [if_neg k0]
  by_cases k1 : kd P n = 1
  · rw [if_pos k1]
    refine ⟨γ, κ, MI_wr hP hX h hl hmr (fun q => ?_)⟩
    have := h.2.1 r hr.1 hr.2 q
    rw [gr] at this
    rw [gl]; exact LF_closed hi (Or.inr (Or.inl ⟨k1, rfl, this⟩))
  rw [if_neg k1]
  by_cases k2 : kd P n = 2
  · rw [if_pos k2]
    by_cases q : gI s 47 r = 0
    · rw [if_pos q]; exact ⟨γ, κ, MI_46 h (by omega) (by omega)⟩
    · rw [if_neg q]
      refine ⟨γ, κ, MI_wr hP hX h hl (hm _ (by omega) hmr.2) (fun q2 => ?_)⟩
      have a1 := h.2.1 r hr.1 hr.2 q
      have a2 := h.2.1 _ (by omega) hmr.2 q2
      rw [gr] at a1
      rw [gl]; exact LF_closed hi (Or.inr (Or.inr (Or.inl ⟨k2, rfl, _, a1, a2⟩)))
  rw [if_neg k2]
  by_cases k3 : kd P n = 3
  · rw [if_pos k3]
    have hml := hm l hl.1 hl.2
    by_cases q : gI s 47 l = 0
    · rw [if_pos q]; exact ⟨γ, κ, MI_46 h (by omega) (by omega)⟩
    · rw [if_neg q]
      refine ⟨γ, κ, MI_wr hP hX h ⟨by omega, hml.2⟩ hmr (fun q2 => ?_)⟩
      have a1 := h.2.1 l hl.1 hl.2 q
      have a2 := h.2.1 r hr.1 hr.2 q2
      rw [gl] at a1
      rw [gr] at a2
      exact LF_closed hi (Or.inr (Or.inr (Or.inr (Or.inl ⟨k3, a1, a2⟩))))
  rw [if_neg k3]
  by_cases k4 : kd P n = 4
  · rw [if_pos k4]
    have hsn := sn_lt hP n0 n1 k4
    have e7 : gI (sI s 46 10 (gI s 46 10 + 1)) 46 7 = gI s 46 7 := by rw [gI_sI, if_neg (by omega)]
    have e6 : gI (sI s 46 10 (gI s 46 10 + 1)) 46 6 = gI s 46 6 := by rw [gI_sI, if_neg (by omega)]
    have H := MI_tk (MI_46 (v := gI s 46 10 + 1) h (j := 10) (by omega) (by omega)) (c0 := 20 + 3 * sn P n + 0) (n := 3) (g0 := 128 + 3 * sn P n) (by rw [e7]; exact w3.1) (by omega) (by rw [e6, e7, gI_rne (by decide)]; exact hrr) (by rw [e7, gI_rne (by decide)]; exact hm) (fun k k0 k1 => ⟨⟨by omega, Or.inr (Or.inr (by omega))⟩, by rw [cdf_fld (by omega)]; omega⟩)
    rw [e7] at H
    refine ⟨_, κ, MI_wr hP hX H ?_ ?_ (fun _ => ?_)⟩
    · rw [mtk_U, e7]; omega
    · rw [mtk_U, e7]; omega
    · show Lf P xs lim (if gI s 46 7 ≤ l ∧ l < gI s 46 7 + 3 then _ else γ l) (if gI s 46 7 ≤ gI s 46 7 ∧ gI s 46 7 < gI s 46 7 + 3 then 128 + 3 * sn P n + (gI s 46 7 - gI s 46 7) else γ (gI s 46 7))
      rw [if_neg (by omega), if_pos (by omega), gl]
      exact LF_closed hi (Or.inr (Or.inr (Or.inr (Or.inr (Or.inl ⟨k4, rfl, by omega⟩)))))
  rw [if_neg k4]
  by_cases k5 : kd P n = 5
  · rw [if_pos k5]
    by_cases q : gI s 47 r = 0 ∨ nn P n = 0
    · rw [if_pos q]
      refine ⟨γ, κ, MI_wr hP hX h hl hmr (fun q2 => ?_)⟩
      have a1 := h.2.1 r hr.1 hr.2 q2
      rw [gr] at a1
      rw [gl]; exact LF_closed hi (Or.inr (Or.inr (Or.inr (Or.inr (Or.inr (Or.inl ⟨k5, rfl, Or.inl ⟨by omega, a1⟩⟩))))))
    · rw [if_neg q]
      by_cases q2 : gI s 48 (gI s 47 r) - 20 < 0 ∨ ¬ ((gI s 48 (gI s 47 r) - 20) % 3 + nn P n < 3)
      · rw [if_pos q2]; exact ⟨γ, κ, MI_46 h (by omega) (by omega)⟩
      · rw [if_neg q2]
        have a1 := h.2.1 r hr.1 hr.2 (by omega)
        have p1 : 1 ≤ gI s 47 r := by omega
        obtain ⟨b1, b2⟩ := w6 (gI s 47 r) (nn P n) p1 hmr.2 (by omega) (by omega) (by omega)
        have c1 := h.1 _ p1 hmr.2
        have c2 := h.1 _ (show 1 ≤ gI s 47 r + nn P n by omega) b1
        have d1 := (cdf_20 hP hX c1.1).mp (by rw [c1.2]; omega)
        have d2 := (cdf_20 hP hX c2.1).mp (by rw [c2.2, b2]; omega)
        have f1 := c1.2
        have f2 := c2.2
        rw [cdf_fld d1] at f1
        rw [cdf_fld d2, b2] at f2
        refine ⟨γ, κ, MI_wr hP hX h hl ⟨by omega, b1⟩ (fun _ => ?_)⟩
        rw [gr] at a1
        rw [gl]; exact LF_closed hi (Or.inr (Or.inr (Or.inr (Or.inr (Or.inr (Or.inl ⟨k5, rfl, Or.inr ⟨by omega, _, a1, d1, by omega, by omega⟩⟩))))))
  rw [if_neg k5]
  have k6 : kd P n = 6 := by omega
  by_cases q : gI s 46 6 < 6 ∧ gI s 46 8 < 200
  · rw [if_pos q]
    obtain ⟨p0, p1⟩ := plf_ok hX hi k6
    have hx := ext_rm hP hX hi
    have hlen := isC_len hP hX
    have H := MI_op h (g := nn P n) (q := plf P xs lim (κ (gI s 46 6 - 1)) n) w3.1 (by omega) hrr hm ⟨p0, by rw [p1]; omega⟩ (fun k k0 k1 => ⟨⟨by omega, Or.inr (Or.inl (by omega))⟩, by rw [cdf_loc hP hX p0.1 p0.2 k0 k1, p1]; omega⟩) (fun _ => by rw [hn, show n + 1 - 1 = n by omega]; exact ⟨k6, rfl⟩)
    have ea : madr (4 + 4 * nn P n) (mop P (nn P n) s) = gI s 46 7 := by
      unfold madr
      rw [if_neg (by omega), mop_46, if_pos rfl, mop_52]
      show (if gI s 46 6 + 1 - 1 = gI s 46 6 then gI s 46 7 else _) + (4 + 4 * nn P n - 4) % 4 = _
      rw [if_pos (by omega)]; omega
    refine ⟨_, _, MI_wr hP hX H ?_ ?_ (fun q2 => ?_)⟩
    · rw [ea, mop_46, if_neg (by omega), if_pos rfl]; omega
    · rw [mop_46, if_neg (by omega), if_pos rfl]; omega
    · rw [ea]
      have a1 := h.2.1 r hr.1 hr.2 q2
      rw [gr] at a1
      show Lf P xs lim (if gI s 46 7 ≤ gI s 46 7 ∧ gI s 46 7 < gI s 46 7 + 4 then 4 + 4 * plf P xs lim (κ (gI s 46 6 - 1)) n + (gI s 46 7 - gI s 46 7) else _) (if gI s 46 7 ≤ gI s 47 r ∧ gI s 47 r < gI s 46 7 + 4 then _ else γ (gI s 47 r))
      rw [if_pos (by omega), if_neg (by omega)]
      exact LF_closed hi (Or.inr (Or.inr (Or.inr (Or.inr (Or.inr (Or.inr ⟨k6, Or.inl ⟨by omega, a1⟩⟩))))))
  · rw [if_neg q]; exact ⟨γ, κ, h⟩
theorem MI_st (hP : okP P) (hX : isC P lim xs) (hW : WFM P s) (h : MI P xs lim s γ κ) (hg : mgo s) : ∃ γ' κ', MI P xs lim (mst P s) γ' κ' := by
  obtain ⟨hD, hX8⟩ := hg
  have hW' := hW
  obtain ⟨w1, w2, w3, w4, w5, w6, w7, w8⟩ := hW'
  obtain ⟨f1, f2, f3⟩ := w7 (gI s 46 6 - 1) (by omega) (by omega)
  unfold mst
  by_cases q : gI s 51 (gI s 46 6 - 1) < stt P (gI s 50 (gI s 46 6 - 1) + 1)
  · rw [if_pos q]
    have hss := stt_succ P f1.1 f1.2
    have hsr := stt_rng hP.1 f1.1 f1.2
    have n0 : 0 ≤ gI s 51 (gI s 46 6 - 1) := by omega
    have n1 : gI s 51 (gI s 46 6 - 1) < tot P := by omega
    have hs := st_at hP n0 n1
    have ho : own P (gI s 51 (gI s 46 6 - 1)) = gI s 50 (gI s 46 6 - 1) := by
      have := own_of hP.1 f1.1 f1.2 (k := gI s 51 (gI s 46 6 - 1) - stt P (gI s 50 (gI s 46 6 - 1))) (by omega) (by omega)
      rw [show stt P (gI s 50 (gI s 46 6 - 1)) + (gI s 51 (gI s 46 6 - 1) - stt P (gI s 50 (gI s 46 6 - 1))) = gI s 51 (gI s 46 6 - 1) by omega] at this
      exact this
    have g1 := MI_nx h (v := gI s 51 (gI s 46 6 - 1) + 1)
    have g2 := MI_46 g1 (j := 8) (v := gI (sI s 51 (gI s 46 6 - 1) (gI s 51 (gI s 46 6 - 1) + 1)) 46 8 + 1) (by omega) (by omega)
    have v1 : WFM P (sI s 51 (gI s 46 6 - 1) (gI s 51 (gI s 46 6 - 1) + 1)) := by
      have := WF_nx hW (i := gI s 46 6 - 1) (v := gI s 51 (gI s 46 6 - 1) + 1) rfl (by omega)
      unfold WFM
      rw [gI_row, gI_rne (by decide), gI_rne (by decide), gI_rne (by decide), gI_rne (by decide), gI_rne (by decide)]
      exact this
    have v2 := W_X v1 hX8
    unfold mex
    have d1 : gI (sI s 51 (gI s 46 6 - 1) (gI s 51 (gI s 46 6 - 1) + 1)) 46 6 = gI s 46 6 := by rw [gI_rne (by decide)]
    have d2 : gI (sI (sI s 51 (gI s 46 6 - 1) (gI s 51 (gI s 46 6 - 1) + 1)) 46 8 (gI (sI s 51 (gI s 46 6 - 1) (gI s 51 (gI s 46 6 - 1) + 1)) 46 8 + 1)) 46 6 = gI s 46 6 := by rw [gI_sI, if_neg (by omega), d1]
    refine MI_ex1 hP hX v2 g2 n0 n1 (by rw [d2]; exact hD) ?_ ?_ ?_ ?_ ?_ ?_
    · rw [d2, gI_rne (by decide), gI_rne (by decide)]; exact ho
    · rw [d2, gI_rne (by decide), gI_row]; show (if _ = _ then _ else _) = _; rw [if_pos rfl]
    · exact madr_rng v1 (by rw [d1]; exact hD) hs.2.1.1
    · exact madr_rng v1 (by rw [d1]; exact hD) hs.2.2.1.1
    · rw [d2, MI_adr g1 (by rw [d1]; exact hD) hs.2.1.1, d1]
    · rw [d2, MI_adr g1 (by rw [d1]; exact hD) hs.2.2.1.1, d1]
  · rw [if_neg q]
    unfold mcl
    by_cases q2 : 0 < gI s 46 6 - 1
    · rw [if_pos q2]
      have g1 := MI_pop h
      have d1 : gI (sI s 46 6 (gI s 46 6 - 1)) 46 6 = gI s 46 6 - 1 := by rw [gI_sI, if_pos ⟨rfl, rfl⟩]
      have d2 : gI (sI s 46 6 (gI s 46 6 - 1)) 46 7 = gI s 46 7 := by rw [gI_sI, if_neg (by omega)]
      have v1 : WFM P (sI s 46 6 (gI s 46 6 - 1)) := WF_pop hW hD
      obtain ⟨a1, a2, a3⟩ := w7 (gI s 46 6 - 1 - 1) (by omega) (by omega)
      have a4 := w8 (gI s 46 6 - 1 - 1) (by omega) (by omega)
      have hss := stt_succ P a1.1 a1.2
      have hsr := stt_rng hP.1 a1.1 a1.2
      have n0 : 0 ≤ gI s 51 (gI s 46 6 - 1 - 1) - 1 := by omega
      have n1 : gI s 51 (gI s 46 6 - 1 - 1) - 1 < tot P := by omega
      have hs := st_at hP n0 n1
      obtain ⟨k6, kp⟩ := h.2.2.2.2.1 (gI s 46 6 - 1 - 1) (by omega) (by omega)
      rw [show gI s 46 6 - 1 - 1 + 1 = gI s 46 6 - 1 by omega] at kp
      have ht := h.2.2.1 (gI s 46 6 - 1 - 1) (by omega) (by omega)
      have ho : own P (gI s 51 (gI s 46 6 - 1 - 1) - 1) = gI s 50 (gI s 46 6 - 1 - 1) := by
        have := own_of hP.1 a1.1 a1.2 (k := gI s 51 (gI s 46 6 - 1 - 1) - 1 - stt P (gI s 50 (gI s 46 6 - 1 - 1))) (by omega) (by omega)
        rw [show stt P (gI s 50 (gI s 46 6 - 1 - 1)) + (gI s 51 (gI s 46 6 - 1 - 1) - 1 - stt P (gI s 50 (gI s 46 6 - 1 - 1))) = gI s 51 (gI s 46 6 - 1 - 1) - 1 by omega] at this
        exact this
      have hi : itm P xs (κ (gI s 46 6 - 1 - 1)) (gI s 51 (gI s 46 6 - 1 - 1) - 1) := ⟨ht.1.1, ⟨n0, n1⟩, by rw [ho]; exact ht.1.2.symm⟩
      have er : madr (4 + 4 * gI s 50 (gI s 46 6 - 1) + 1) s = gI s 52 (gI s 46 6 - 1) + 1 := by
        unfold madr; rw [if_neg (by omega)]; omega
      have gq := (h.2.2.1 (gI s 46 6 - 1) (by omega) (by omega)).2 1 (by omega) (by omega)
      refine ⟨γ, κ, MI_wr hP hX g1 (madr_rng v1 (by rw [d1]; exact q2) hs.2.1.1) ?_ (fun q3 => ?_)⟩
      · rw [d2, er]; exact (w5 _ (by omega) (by omega)).1
      · rw [MI_adr g1 (by rw [d1]; exact q2) hs.2.1.1, d1]
        rw [er] at q3 ⊢
        have b1 := h.2.1 _ (by omega) (by omega) q3
        rw [gq, kp] at b1
        exact LF_closed hi (Or.inr (Or.inr (Or.inr (Or.inr (Or.inr (Or.inr ⟨k6, Or.inr ⟨rfl, b1⟩⟩))))))
    · rw [if_neg q2]; exact ⟨γ, κ, MI_pop h⟩
theorem mcr_L {j : Int} (j0 : 0 ≤ j) (j1 : j < 44) : gL (mcr s) 49 j = BitVec.ofNat 64 0 := by
  show (if 49 = 49 then (if 0 ≤ j ∧ j < (ln 49 : Int) then BitVec.ofNat 64 0 else gL s 49 j) else gL s 49 j) = _
  rw [if_pos rfl, if_pos ⟨j0, by rw [show ((ln 49 : Nat) : Int) = 44 from rfl]; exact j1⟩]
theorem MI_0 (hP : okP P) (hX : isC P lim xs) (s : St) : ∃ γ κ, MI P xs lim (ms0 P s) γ κ := by
  have hlen := isC_len hP hX
  obtain ⟨z1, z2, z3, z4, z5⟩ := mcr_46 (s := s)
  have h0 : MI P xs lim (mcr s) (fun a => a - 1) (fun _ => 0) := by
    unfold MI
    rw [z1, z2]
    refine ⟨fun a a0 a1 => ?_, fun a a0 a1 k => ?_, fun i i0 i1 => by omega, fun a _ _ => rfl, fun i i0 i1 => by omega, fun j j0 j1 t t1 hb => ?_⟩
    · rw [(mcr_47 a0 a1).2]
      show vld xs (a - 1) ∧ cdf xs (a - 1) = a - 1
      exact ⟨⟨by omega, Or.inl (by omega)⟩, cdf_glo (by omega)⟩
    · exact absurd (mcr_47 a0 a1).1 k
    · rw [mcr_L j0 j1] at hb; simp at hb
  obtain ⟨p0, p1⟩ := cx_0 hX
  refine ⟨_, _, MI_op h0 (g := 0) (q := cbl xs 0) (by rw [z2]; omega) (by rw [z1]; omega) (by rw [z1]; intro i i0 i1; omega) (by rw [z2]; intro a a0 a1; rw [(mcr_47 a0 a1).1]; omega) ⟨p0, by rw [p1]; rfl⟩ (fun k k0 k1 => ⟨⟨by omega, Or.inr (Or.inl (by omega))⟩, by rw [cdf_loc hP hX p0.1 p0.2 k0 k1, p1]; omega⟩) (fun k => by rw [z1] at k; omega)⟩
theorem MI_it (hP : okP P) (hX : isC P lim xs) (s : St) : ∀ k : Nat, (∀ i, i < k → mgo (mit P i (ms0 P s))) → WFM P (mit P k (ms0 P s)) ∧ ∃ γ κ, MI P xs lim (mit P k (ms0 P s)) γ κ
  | 0, _ => ⟨W_0 hP.1 s, MI_0 hP hX s⟩
  | k + 1, hk => by
    obtain ⟨w, γ, κ, h⟩ := MI_it hP hX s k (fun i q => hk i (by omega))
    rw [mit_succ]
    have hg := hk k (by omega)
    exact ⟨W_st hP w hg, MI_st hP hX w h hg⟩
/-- what is observed -/
theorem run_im (hP : okP P) (hX : isC P lim xs) {s : St} {k : Nat} (hk : ∀ i, i < k → mgo (mit P i (ms0 P s))) {j : Int} (j0 : 0 ≤ j) (j1 : j < 44) {t : Nat} (ht : t < 64) (hb : (gL (mit P k (ms0 P s)) 49 j).getLsbD t = true) : im xs (Lf P xs lim) j t := by
  obtain ⟨-, γ, κ, h⟩ := MI_it hP hX s k hk
  exact h.2.2.2.2.2 j j0 j1 t ht hb
end RUN
