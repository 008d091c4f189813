/-! cycles, functions, escaping sites, empty bodies -/
section FLW
variable {P : Pg} {lim : Int} {xs : List Int}
theorem cy_refl (v : Int) : cyS P v v := Or.inl rfl
theorem cy_symm {v w : Int} (h : cyS P v w) : cyS P w v := by
  rcases h with rfl | ⟨a, b⟩
  · exact Or.inl rfl
  · exact Or.inr ⟨b, a⟩
theorem cy_trans {v w x : Int} (h : cyS P v w) (g : cyS P w x) : cyS P v x := by
  rcases h with rfl | ⟨a, b⟩
  · exact g
  · rcases g with rfl | ⟨c, d⟩
    · exact Or.inr ⟨a, b⟩
    · exact Or.inr ⟨TC_trans a c, TC_trans d b⟩
/-- the same for all in it -/
theorem cy_iW {v w : Int} (h : cyS P v w) : iW (cyS P w) = iW (cyS P v) := iW_congr (fun t _ => ⟨fun g => cy_trans h g, fun g => cy_trans (cy_symm h) g⟩)
theorem cx_key0 (hP : okP P) (hX : isC P 0 xs) {i : Int} (i0 : 0 ≤ i) (i1 : i < xs.length) : la xs i % 2353 = 0 := by
  rcases VE_cases hP (RS_VE hP ((hX.2 _).mp (la_mem i0 i1))) with h | h
  · exact h.1
  · exact absurd rfl h.1
/-- with the limit 0 a variable of a function with a context has one cell -/
theorem cell_of (hP : okP P) (hX : isC P 0 xs) {c x f i : Int} (hc : vld xs c) (hx : cdf xs c = x) (x0 : 0 ≤ x) (x1 : x < 20) (hl : loc f x) (i0 : 0 ≤ i) (i1 : i < xs.length) (hi : la xs i / 2353 = f) : c = clo x i := by
  have hlen := isC_len hP hX
  obtain ⟨h0, h1 | ⟨h1, h2⟩ | h1⟩ := hc
  · rw [cdf_glo h1] at hx
    unfold clo; rw [if_pos (by omega)]; exact hx
  · have j0 : 0 ≤ (c - 4) / 4 := by omega
    have j1 : (c - 4) / 4 < xs.length := by omega
    have hf := cx_fn hP hX j0 j1
    have e := cdf_loc hP hX j0 j1 (k := (c - 4) % 4) (by omega) (by omega)
    rw [show 4 + 4 * ((c - 4) / 4) + (c - 4) % 4 = c by omega, hx] at e
    unfold loc at hl
    have hl2 : (x - 4) / 4 = f := by omega
    have k1 := cx_key0 hP hX j0 j1
    have k2 := cx_key0 hP hX i0 i1
    have e2 : la xs ((c - 4) / 4) = la xs i := by omega
    have e3 := nd_la (asc_nd hX.1) j0 j1 i0 i1 e2
    unfold clo; rw [if_neg (by omega)]; omega
  · rw [cdf_fld h1.1] at hx; omega
/-- an edge hands on what is pointed to, with the limit 0, where all functions are reachable -/
theorem edge_im (hP : okP P) (hO : okO P) (hX : isC P 0 xs) (hA : ∀ f, 0 ≤ f → f ≤ 3 → ∃ i : Int, 0 ≤ i ∧ i < xs.length ∧ la xs i / 2353 = f) {a b t : Int} (h : EFl P a b) (g : im xs (Lf P xs 0) a t) : im xs (Lf P xs 0) b t := by
  obtain ⟨n, n0, n1, he⟩ := h
  obtain ⟨c, u, h1, hc, hu⟩ := g
  have hs := st_at hP n0 n1
  have hof := (own_spec hP.1 n0 n1).1
  obtain ⟨i, i0, i1, hi⟩ := hA (own P n) hof.1 hof.2
  have hit : itm P xs i n := ⟨⟨i0, i1⟩, ⟨n0, n1⟩, hi.symm⟩
  obtain ⟨lv, lw⟩ := hO n n0 n1
  have hv := Lf_okF hP hX c u h1
  rcases he with ⟨k, ea, eb⟩ | ⟨k, ⟨ea, eb⟩ | ⟨ea, eb⟩⟩
  · have := cell_of hP hX hv.1 hc (by omega) (by omega) (by rw [ea]; exact lw) i0 i1 hi
    rw [this, ea] at h1
    refine ⟨clo (vv P n) i, u, LF_closed hit (Or.inr (Or.inl ⟨k, rfl, h1⟩)), ?_, hu⟩
    rw [eb]; exact cdf_clo hP hX hit lv
  · have := cell_of hP hX hv.1 hc (by omega) (by omega) (by rw [ea]; exact lw) i0 i1 hi
    rw [this, ea] at h1
    obtain ⟨p0, p1⟩ := plf_ok hX hit k
    have hr := ext_rm hP hX hit
    refine ⟨4 + 4 * plf P xs 0 i n, u, LF_closed hit (Or.inr (Or.inr (Or.inr (Or.inr (Or.inr (Or.inr ⟨k, Or.inl ⟨rfl, h1⟩⟩)))))), ?_, hu⟩
    have e := cdf_loc hP hX p0.1 p0.2 (k := 0) (by omega) (by omega)
    rw [Int.add_zero, Int.add_zero, p1] at e
    rw [e, eb]; omega
  · obtain ⟨p0, p1⟩ := plf_ok hX hit k
    have hr := ext_rm hP hX hit
    have := cell_of hP hX hv.1 hc (x := a) (f := nn P n) (i := plf P xs 0 i n) (by omega) (by omega) (by unfold loc; omega) p0.1 p0.2 (by rw [p1]; omega)
    have e2 : clo a (plf P xs 0 i n) = 4 + 4 * plf P xs 0 i n + 1 := by unfold clo; rw [if_neg (by omega)]; omega
    rw [this, e2] at h1
    refine ⟨clo (vv P n) i, u, LF_closed hit (Or.inr (Or.inr (Or.inr (Or.inr (Or.inr (Or.inr ⟨k, Or.inr ⟨rfl, h1⟩⟩)))))), ?_, hu⟩
    rw [eb]; exact cdf_clo hP hX hit lv
theorem path_im (hP : okP P) (hO : okO P) (hX : isC P 0 xs) (hA : ∀ f, 0 ≤ f → f ≤ 3 → ∃ i : Int, 0 ≤ i ∧ i < xs.length ∧ la xs i / 2353 = f) {a b t : Int} (h : TC (EFl P) a b) : im xs (Lf P xs 0) a t → im xs (Lf P xs 0) b t :=
  h (fun a b => im xs (Lf P xs 0) a t → im xs (Lf P xs 0) b t) (fun _ _ e g => edge_im hP hO hX hA e g) (fun _ _ _ x y g => y (x g))
theorem cy_im (hP : okP P) (hO : okO P) (hX : isC P 0 xs) (hA : ∀ f, 0 ≤ f → f ≤ 3 → ∃ i : Int, 0 ≤ i ∧ i < xs.length ∧ la xs i / 2353 = f) {v w : Int} (h : cyS P v w) : wS (im xs (Lf P xs 0) v) = wS (im xs (Lf P xs 0) w) := by
  rcases h with rfl | ⟨a, b⟩
  · rfl
  · exact wS_congr (fun t _ => ⟨path_im hP hO hX hA a, path_im hP hO hX hA b⟩)
/-- contexts of a function, by their number -/
theorem nc_pos (hX : isC P lim xs) {f : Int} : 0 < nc xs f ↔ ∃ i : Int, 0 ≤ i ∧ i < xs.length ∧ la xs i / 2353 = f := by
  unfold nc
  have r0 := cbl_rng xs (f * 2353)
  have r1 := cbl_rng xs ((f + 1) * 2353)
  constructor
  · intro h
    have h1 := cbl_iff hX.1 (b := f * 2353) (i := cbl xs (f * 2353)) r0.1 (by omega)
    have h2 := cbl_iff hX.1 (b := (f + 1) * 2353) (i := cbl xs (f * 2353)) r0.1 (by omega)
    refine ⟨cbl xs (f * 2353), r0.1, by omega, ?_⟩
    have a1 := h2.mpr (by omega)
    have a2 : ¬ la xs (cbl xs (f * 2353)) < f * 2353 := fun k => by have := h1.mp k; omega
    omega
  · rintro ⟨i, i0, i1, hi⟩
    have h1 := cbl_iff hX.1 (b := f * 2353) i0 i1
    have h2 := cbl_iff hX.1 (b := (f + 1) * 2353) i0 i1
    have a1 := h2.mp (by omega)
    have a2 : ¬ i < cbl xs (f * 2353) := fun k => by have := h1.mpr k; omega
    omega
theorem nc_main (hX : isC P lim xs) : 0 < nc xs 0 := by
  obtain ⟨h, e⟩ := cx_0 hX
  exact (nc_pos hX).mpr ⟨_, h.1, h.2, by rw [e]; rfl⟩
/-- variables of an unreachable function point to nothing -/
theorem unr_im (hP : okP P) (hX : isC P lim xs) {f k : Int} (f0 : 0 ≤ f) (f1 : f ≤ 3) (k0 : 0 ≤ k) (k1 : k < 4) (h : ¬ 0 < nc xs f) : wS (im xs (Lf P xs lim) (4 + 4 * f + k)) = BitVec.ofNat 64 0 := by
  apply BitVec.eq_of_getLsbD_eq
  intro j hj
  have z : (BitVec.ofNat 64 0).getLsbD j = false := by simp
  rw [z]
  cases q : (wS (im xs (Lf P xs lim) (4 + 4 * f + k))).getLsbD j with
  | false => rfl
  | true =>
    obtain ⟨c, u, h1, h2, h3⟩ := (SW_wS _ j hj).mp q
    have hv := (Lf_okF hP hX c u h1).1
    refine absurd ((nc_pos hX).mpr ?_) h
    obtain ⟨h0, h4 | ⟨h4, h5⟩ | h4⟩ := hv
    · rw [cdf_glo h4] at h2; omega
    · have j0 : 0 ≤ (c - 4) / 4 := by omega
      have j1 : (c - 4) / 4 < xs.length := by omega
      have e := cdf_loc hP hX j0 j1 (k := (c - 4) % 4) (by omega) (by omega)
      rw [show 4 + 4 * ((c - 4) / 4) + (c - 4) % 4 = c by omega, h2] at e
      exact ⟨(c - 4) / 4, j0, j1, by omega⟩
    · rw [cdf_fld h4.1] at h2; omega
/-- what is reached is a target -/
theorem TC_im_rng (hP : okP P) (hX : isC P lim xs) {a b : Int} (h : TC (im xs (Lf P xs lim)) a b) : 0 ≤ b ∧ b < 20 + 3 * mny P 4 (-1) :=
  TC_sub (S := fun x => 0 ≤ x ∧ x < 20 + 3 * mny P 4 (-1)) h (fun t g => (im_rng hP hX g).2) (fun x y _ g => (im_rng hP hX g).2)
theorem esc_of (hP : okP P) (hX : isC P lim xs) {g s b : Int} (g0 : 0 ≤ g) (g1 : g < 4) (b0 : 0 ≤ b) (b1 : b < 3) (s0 : 0 ≤ s) (s1 : s < 8) (h : TC (im xs (Lf P xs lim)) g (20 + 3 * s + b)) : escS P xs lim s :=
  ⟨s1, 20 + 3 * s + b, ⟨by omega, by omega⟩, g, g0, g1, h⟩
theorem esc_lt (hP : okP P) (hX : isC P lim xs) : 0 ≤ iW (escS P xs lim) ∧ iW (escS P xs lim) < 2 ^ (mny P 4 (-1)).toNat := by
  obtain ⟨n, e, h1, h2⟩ := IW_iW (escS P xs lim)
  have hm := mny_nn hP
  rw [e]
  refine ⟨by omega, ?_⟩
  have : n < 2 ^ (mny P 4 (-1)).toNat := Nat.lt_pow_two_of_testBit n (fun i hi => by
    cases q : n.testBit i with
    | false => rfl
    | true =>
      by_cases k : i < 31
      · obtain ⟨s1, t, h3, g, g0, g1, h4⟩ := (h2 i k).mp q
        have := (TC_im_rng hP hX h4).2
        omega
      · have := Nat.testBit_lt_two_pow (show n < 2 ^ i from Nat.lt_of_lt_of_le (show n < 2 ^ 31 from h1) (Nat.pow_le_pow_right (show 2 > 0 by decide) (show 31 ≤ i by omega)))
        rw [this] at q; cases q)
  have e2 : ((2 ^ (mny P 4 (-1)).toNat : Nat) : Int) = 2 ^ (mny P 4 (-1)).toNat := by rw [Int.natCast_pow]; rfl
  omega
/-- empty bodies -/
theorem no_Lf (h0 : tot P = 0) (c u : Int) : ¬ Lf P xs lim c u := fun h =>
  LF_least (X := fun _ _ => False) (fun i n c u hi _ => by have := hi.2.1; omega) h
theorem no_FN (hP : okP P) (hX : isC P lim xs) (h0 : tot P = 0) : FN P xs lim = 0 := (FN_0 hP hX).2.mpr (no_Lf h0)
theorem no_sites (h0 : tot P = 0) : mny P 4 (-1) = 0 := by unfold mny; rw [h0]; rfl
theorem no_ug (h0 : tot P = 0) {s t : Tm} (h : ugE P s t) : s = t :=
  h (fun s t => s = t) (fun _ => rfl) (fun _ _ e => e.symm) (fun _ _ _ e g => e.trans g) (fun _ _ e => by rw [e]) (fun s t ⟨n, n0, n1, _⟩ => by omega)
theorem no_cls (h0 : tot P = 0) : cn (fun t => dcl (ugF P t)) (20 + mny P 4 (-1)).toNat = 20 := by
  rw [no_sites h0]
  have key : ∀ m : Nat, cn (fun t => dcl (ugF P t)) m = m := fun m => by
    induction m with
    | zero => rfl
    | succ m ih =>
      have hu : ugF P (m : Int) := fun e e0 e1 k => by
        have := no_ug h0 k
        injection this with k1 k2
        omega
      rw [cn_succ, ih]
      show (m : Int) + (if dcl (ugF P (m : Int)) = true then 1 else 0) = _
      rw [if_pos (dcl_t hu)]; omega
  exact key 20
end FLW
