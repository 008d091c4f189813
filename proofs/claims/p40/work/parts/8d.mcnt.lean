/-! counting -/
theorem cn_rm {h : Int → Bool} {b : Int} : ∀ {m : Nat}, 0 ≤ b → b < m → h b = true → cn h m = cn (fun x => h x && !(x == b)) m + 1
  | 0, b0, b1, _ => by omega
  | m + 1, b0, b1, hb => by
    rw [cn_succ, cn_succ]
    by_cases q : b = m
    · have e : cn (fun x => h x && !(x == b)) m = cn h m := cn_congr (fun x x0 x1 => by
        have : (x == b) = false := by simp; omega
        rw [this]; simp)
      rw [e, ← q, if_pos hb, if_neg (by simp)]; omega
    · have e : ((m : Int) == b) = false := by simp; omega
      rw [cn_rm (m := m) b0 (by omega) hb]
      simp only [e, Bool.not_false, Bool.and_true]
      omega
theorem cn_inj {φ : Int → Int} : ∀ {n m : Nat} {g h : Int → Bool}, (∀ a : Int, 0 ≤ a → a < n → g a = true → ∃ b : Int, (0 ≤ b ∧ b < m) ∧ (h b = true ∧ φ b = a)) → cn g n ≤ cn h m
  | 0, m, g, h, _ => (cn_rng h m).1
  | n + 1, m, g, h, H => by
    rw [cn_succ]
    by_cases q : g n = true
    · obtain ⟨b, hb, h1, h2⟩ := H n (by omega) (by omega) q
      rw [if_pos q, cn_rm hb.1 hb.2 h1]
      have := cn_inj (n := n) (m := m) (g := g) (h := fun x => h x && !(x == b)) (φ := φ) (fun a a0 a1 k => by
        obtain ⟨b', hb', h1', h2'⟩ := H a a0 (by omega) k
        refine ⟨b', hb', ?_, h2'⟩
        have : (b' == b) = false := by
          simp; intro e; rw [e, h2] at h2'; omega
        show (h b' && !(b' == b)) = true
        rw [this, h1']; rfl)
      omega
    · rw [if_neg q]
      have := cn_inj (n := n) (m := m) (g := g) (h := h) (φ := φ) (fun a a0 a1 k => H a a0 (by omega) k)
      omega
theorem cn_adm (g : Int → Bool) (m : Nat) : ∀ k : Nat, cn g (m + k) = cn g m + cn (fun j => g (m + j)) k
  | 0 => by show cn g m = cn g m + 0; omega
  | k + 1 => by
    rw [show m + (k + 1) = (m + k) + 1 from rfl, cn_succ, cn_succ, cn_adm g m k]
    rw [show ((m + k : Nat) : Int) = (m : Int) + (k : Int) by omega]
    omega
theorem cn_blk (g : Int → Bool) (k : Nat) : ∀ n : Nat, cn g (n * k) = sm (fun i => cn (fun j => g (i * k + j)) k) n
  | 0 => by rw [Nat.zero_mul]; rfl
  | n + 1 => by
    rw [Nat.succ_mul, cn_adm, cn_blk g k n]
    show _ = sm _ n + _
    rw [show ((n * k : Nat) : Int) = (n : Int) * (k : Int) by exact Int.natCast_mul n k]
theorem sm_congr {f g : Int → Int} : ∀ {n : Nat}, (∀ v : Int, 0 ≤ v → v < n → f v = g v) → sm f n = sm g n
  | 0, _ => rfl
  | n + 1, h => by
    show sm f n + f n = sm g n + g n
    rw [sm_congr (n := n) (fun v a b => h v a (by omega)), h n (by omega) (by omega)]
theorem sm_le {f g : Int → Int} : ∀ {n : Nat}, (∀ v : Int, 0 ≤ v → v < n → f v ≤ g v) → sm f n ≤ sm g n
  | 0, _ => Int.le_refl _
  | n + 1, h => by
    show sm f n + f n ≤ sm g n + g n
    have := sm_le (n := n) (fun v a b => h v a (by omega))
    have := h n (by omega) (by omega)
    omega
theorem fsum_sm (F : Int → BitVec 64) : ∀ n : Nat, fsum F n = sm (fun k => pw (F k)) n
  | 0 => rfl
  | n + 1 => by rw [fsum_succ, fsum_sm F n]; rfl
/-- the number of facts is no less than that of the variables' targets -/
theorem FN_ge {P : Pg} (hP : okP P) {xs : List Int} {lim : Int} (hX : isC P lim xs) : sm (ptN P xs lim) 20 ≤ FN P xs lim := by
  have e1 : sm (ptN P xs lim) 20 = cn (fun y => dcl (im xs (Lf P xs lim) (y / 64) (y % 64))) (20 * 64) := by
    rw [cn_blk]
    refine sm_congr (fun v v0 v1 => ?_)
    show pw _ = _
    rw [wS_pw]
    refine cn_congr (fun t t0 t1 => ?_)
    show dcl (im xs (Lf P xs lim) v t) = dcl (im xs (Lf P xs lim) ((v * (64 : Nat) + t) / 64) ((v * (64 : Nat) + t) % 64))
    rw [show (v * ((64 : Nat) : Int) + t) / 64 = v by omega, show (v * ((64 : Nat) : Int) + t) % 64 = t by omega]
  have e2 : FN P xs lim = cn (fun x => dcl (Lf P xs lim (x / 192) (x % 192))) (456 * 64) := by
    unfold FN fpop
    rw [fsum_sm, cn_blk]
    refine sm_congr (fun k k0 k1 => ?_)
    rw [wS_pw]
    refine cn_congr (fun t t0 t1 => ?_)
    show dcl (Lf P xs lim (k / 3) (64 * (k % 3) + t)) = dcl (Lf P xs lim ((k * (64 : Nat) + t) / 192) ((k * (64 : Nat) + t) % 192))
    rw [show (k * ((64 : Nat) : Int) + t) / 192 = k / 3 by omega, show (k * ((64 : Nat) : Int) + t) % 192 = 64 * (k % 3) + t by omega]
  rw [e1, e2]
  refine cn_inj (φ := fun x => 64 * cdf xs (x / 192) + cdf xs (x % 192)) (fun a a0 a1 h => ?_)
  obtain ⟨c, u, h1, h2, h3⟩ := dcl_iff.mp h
  obtain ⟨hc, hu⟩ := Lf_okF hP hX c u h1
  have hlen := isC_len hP hX
  have rc : 0 ≤ c ∧ c < 152 := by unfold vld at hc; omega
  have ru : 0 ≤ u ∧ u < 152 := by unfold vld at hu; omega
  have q1 : (192 * c + u) / 192 = c := by omega
  have q2 : (192 * c + u) % 192 = u := by omega
  refine ⟨192 * c + u, ⟨by omega, by omega⟩, ?_, ?_⟩
  · show dcl (Lf P xs lim ((192 * c + u) / 192) ((192 * c + u) % 192)) = true
    rw [q1, q2]; exact dcl_t h1
  · show 64 * cdf xs ((192 * c + u) / 192) + cdf xs ((192 * c + u) % 192) = a
    rw [q1, q2, h2, h3]; omega
theorem wS_sub {S S' : Int → Prop} (h : ∀ t : Nat, t < 64 → S t → S' t) (j : Nat) (hj : (wS S).getLsbD j = true) : (wS S').getLsbD j = true := by
  have j1 : j < 64 := BitVec.lt_of_getLsbD hj
  exact (SW_wS S' j j1).mpr (h j j1 ((SW_wS S j j1).mp hj))
/-- the precision is no more than 1: in whole numbers -/
theorem pt_le_un {P : Pg} (hP : okP P) (hO : okO P) {xs : List Int} {lim : Int} (hX : isC P lim xs) : sm (ptN P xs lim) 20 ≤ sm (unN P) 20 :=
  sm_le (fun v v0 v1 => pw_le (wS_sub (fun t _ h => im_ugT hP hO hX (by omega) h)))
/-! and as a double -/
def chkq (n : Nat) : Bool := match FP.Core.decode FP.Core.b64 (dbl n).toNat with
  | .fin s c q => (!s) && (c == n * 2 ^ (-q).toNat) && decide (-1074 ≤ q) && decide (q ≤ 0)
  | _ => false
theorem chkq_all : (List.range 1301).all chkq = true := by decide +kernel
theorem dq64 {z : Int} (h0 : 0 ≤ z) (h1 : z ≤ 1300) : ∃ i : Nat, i ≤ 1074 ∧ FP.Core.decode FP.Core.b64 (dbl z).toNat = .fin false (z.toNat * 2 ^ i) (-(i : Int)) := by
  have h := List.all_eq_true.mp chkq_all z.toNat (List.mem_range.mpr (by omega))
  unfold chkq at h
  rw [show ((z.toNat : Nat) : Int) = z by omega] at h
  split at h
  · rename_i s c q e
    simp only [Bool.and_eq_true, Bool.not_eq_true', beq_iff_eq, decide_eq_true_eq] at h
    obtain ⟨⟨⟨h2, h3⟩, h4⟩, h5⟩ := h
    refine ⟨(-q).toNat, by omega, ?_⟩
    rw [e, h2, h3, show -(((-q).toNat : Nat) : Int) = q by omega]
  · cases h
theorem prec_le {a b : Int} (a0 : 0 ≤ a) (ab : a ≤ b) (b0 : 0 < b) (b1 : b ≤ 1300) : FP.dcmp (FP.ddiv (dbl a) (dbl b)) 0x3ff0000000000000 = some .lt ∨ FP.dcmp (FP.ddiv (dbl a) (dbl b)) 0x3ff0000000000000 = some .eq := by
  obtain ⟨i, i1, ei⟩ := dq64 a0 (by omega)
  obtain ⟨j, j1, ej⟩ := dq64 (show 0 ≤ b by omega) b1
  have hb : 0 < b.toNat * 2 ^ j := Nat.mul_pos (by omega) (Nat.two_pow_pos _)
  have eq1 : FP.Core.quotient FP.Core.b64 (FP.Core.decode FP.Core.b64 (dbl a).toNat) (FP.Core.decode FP.Core.b64 (dbl b).toNat) = FP.Core.roundRatio FP.Core.b64 false (a.toNat * 2 ^ i) (b.toNat * 2 ^ j) (-(i : Int) - -(j : Int)) := by
    rw [ei, ej]
    show (if b.toNat * 2 ^ j = 0 then _ else _) = _
    rw [if_neg (by omega)]; rfl
  have hfit := FP.Core.roundRatio_fits FP.Core.good_b64 false (a.toNat * 2 ^ i) hb (-(i : Int) - -(j : Int))
  have hnn := FP.Core.roundRatio_ne_nan FP.Core.b64 false (a.toNat * 2 ^ i) (b.toNat * 2 ^ j) (-(i : Int) - -(j : Int))
  have hsg := FP.Core.sgn_roundRatio FP.Core.b64 false (a.toNat * 2 ^ i) (b.toNat * 2 ^ j) (-(i : Int) - -(j : Int))
  have hV : FP.Core.fits FP.Core.b64 (.fin false 4503599627370496 (-52)) := by
    unfold FP.Core.fits; decide
  have hqm : FP.Core.b64.qmin = -1074 := by decide
  have hle : FP.Core.zmag FP.Core.b64 (FP.Core.roundRatio FP.Core.b64 false (a.toNat * 2 ^ i) (b.toNat * 2 ^ j) (-(i : Int) - -(j : Int))) ≤ FP.Core.zmag FP.Core.b64 (.fin false 4503599627370496 (-52)) := by
    refine FP.Core.zmag_roundRatio_le FP.Core.good_b64 hb hV (by intro k; cases k) (e0 := -1074) (by rw [hqm]; exact Int.le_refl _) (by omega) ?_
    have zf : ∀ (c : Nat) (q : Int), FP.Core.zmag FP.Core.b64 (.fin false c q) = c * 2 ^ (q - FP.Core.b64.qmin).toNat := fun _ _ => rfl
    have iu : ∀ (c : Nat) (q e : Int), FP.Core.inUnits c q e = c * 2 ^ (q - e).toNat := fun _ _ _ => rfl
    rw [iu, zf, hqm, show (-(i : Int) - -(j : Int) - -1074).toNat = 1074 - i + j by omega, show (-52 - -1074 : Int).toNat = 1022 from rfl, show (-1074 - -1074 : Int).toNat = 0 from rfl, Nat.pow_zero, Nat.mul_one, Nat.mul_assoc, ← Nat.pow_add, show i + (1074 - i + j) = 1074 + j by omega]
    rw [show (4503599627370496 : Nat) = 2 ^ 52 from rfl, ← Nat.pow_add, show 52 + 1022 = 1074 from rfl, Nat.mul_left_comm, ← Nat.pow_add]
    exact Nat.mul_le_mul_right _ (by omega)
  have hd : FP.Core.decode FP.Core.b64 (FP.ddiv (dbl a) (dbl b)).toNat = FP.Core.roundRatio FP.Core.b64 false (a.toNat * 2 ^ i) (b.toNat * 2 ^ j) (-(i : Int) - -(j : Int)) := by
    show FP.Core.decode FP.Core.b64 (UInt64.ofNat (FP.Core.encode FP.Core.b64 (FP.Core.quotient FP.Core.b64 (FP.Core.decode FP.Core.b64 (dbl a).toNat) (FP.Core.decode FP.Core.b64 (dbl b).toNat)))).toNat = _
    rw [eq1]
    have ok : okD FP.Core.b64 (FP.Core.roundRatio FP.Core.b64 false (a.toNat * 2 ^ i) (b.toNat * 2 ^ j) (-(i : Int) - -(j : Int))) := ok_ratio (by decide) (by decide)
    rw [UInt64.toNat_ofNat_of_lt' (enc64 ok).1, FP.Core.decode_encode FP.Core.good_b64 _ hfit]
  have h1 : FP.Core.decode FP.Core.b64 (0x3ff0000000000000 : UInt64).toNat = .fin false 4503599627370496 (-52) := by decide +kernel
  have ho : FP.dcmp (FP.ddiv (dbl a) (dbl b)) 0x3ff0000000000000 = some (compare (FP.Core.zval FP.Core.b64 (FP.Core.roundRatio FP.Core.b64 false (a.toNat * 2 ^ i) (b.toNat * 2 ^ j) (-(i : Int) - -(j : Int)))) (FP.Core.zval FP.Core.b64 (.fin false 4503599627370496 (-52)))) := by
    show FP.Core.order (FP.Core.decode FP.Core.b64 (FP.ddiv (dbl a) (dbl b)).toNat) (FP.Core.decode FP.Core.b64 (0x3ff0000000000000 : UInt64).toNat) = _
    rw [hd, h1]
    exact FP.Core.order_zval FP.Core.good_b64 hfit hV hnn (by intro k; cases k)
  rw [ho]
  unfold FP.Core.zval
  rw [hsg]
  have e9 : FP.Core.signed (FP.Core.sgn (.fin false 4503599627370496 (-52))) (FP.Core.zmag FP.Core.b64 (.fin false 4503599627370496 (-52))) = ((FP.Core.zmag FP.Core.b64 (.fin false 4503599627370496 (-52)) : Nat) : Int) := rfl
  rw [e9]
  show some (compare ((_ : Nat) : Int) ((_ : Nat) : Int)) = _ ∨ some (compare ((_ : Nat) : Int) ((_ : Nat) : Int)) = _
  generalize FP.Core.zmag FP.Core.b64 (FP.Core.roundRatio FP.Core.b64 false (a.toNat * 2 ^ i) (b.toNat * 2 ^ j) (-(i : Int) - -(j : Int))) = m at hle ⊢
  generalize FP.Core.zmag FP.Core.b64 (.fin false 4503599627370496 (-52)) = k at hle ⊢
  have hc : compare (m : Int) (k : Int) = (if (m : Int) < k then .lt else if (m : Int) = k then .eq else .gt) := rfl
  rw [hc]
  by_cases q : (m : Int) < k
  · rw [if_pos q]; exact Or.inl rfl
  · rw [if_neg q, if_pos (by omega)]; exact Or.inr rfl
