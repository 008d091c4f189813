theorem n_toInt {z : Int} (h : inR z) : (Int32.ofInt z).toInt = z := Int32.toInt_ofInt_of_le h.1 h.2
theorem n_nat {z : Int} (h0 : 0 ≤ z) (h1 : z < 2147483648) : (Int32.ofInt z).toNatClampNeg = z.toNat := by
  rw [Int32.toNatClampNeg_ofInt_of_le (by omega) (by omega)]
theorem n_in {z : Int} {n : Nat} (h0 : 0 ≤ z) (h1 : z < n) (hn : n < 2147483648) : vp_in (Int32.ofInt z) n := by
  rw [vp_in_iff, n_toInt ⟨by omega, by omega⟩]
  exact ⟨h0, h1⟩
theorem n_eq {a b : Int} (ha : inR a) (hb : inR b) : Int32.ofInt a = Int32.ofInt b ↔ a = b := by
  rw [← Int32.toInt_inj, n_toInt ha, n_toInt hb]
theorem n_lt {a b : Int} (ha : inR a) (hb : inR b) : Int32.ofInt a < Int32.ofInt b ↔ a < b := by
  rw [Int32.lt_iff_toInt_lt, n_toInt ha, n_toInt hb]
theorem n_le {a b : Int} (ha : inR a) (hb : inR b) : Int32.ofInt a ≤ Int32.ofInt b ↔ a ≤ b := by
  rw [Int32.le_iff_toInt_le, n_toInt ha, n_toInt hb]
theorem n_nI {z : Int} (h0 : 0 ≤ z) : Int32.ofInt z = nI z.toNat := by
  obtain ⟨k, rfl⟩ := Int.eq_ofNat_of_zero_le h0
  first | rfl | (apply Int32.toBitVec_inj.mp; simp [nI])
theorem n_div {a b : Int} (ha : nR a) (hb : nR b) (h : b ≠ 0) : Int32.ofInt a / Int32.ofInt b = Int32.ofInt (a / b) := by
  have h1 : 0 ≤ a / b := Int.ediv_nonneg ha.1 hb.1
  rw [n_nI ha.1, n_nI hb.1, n_nI h1, pk_div (by omega) (by omega) (by omega)]
  congr 1
  obtain ⟨k, rfl⟩ := Int.eq_ofNat_of_zero_le ha.1
  obtain ⟨j, rfl⟩ := Int.eq_ofNat_of_zero_le hb.1
  rfl
theorem n_divN {a b : Int} (ha : inR a) (h0 : a < 0) (hb : nR b) (h : b ≠ 0) : Int32.ofInt a / Int32.ofInt b = Int32.ofInt (-(-a / b)) := by
  have h1 : a.tdiv b = -(-a / b) := by
    rw [show a = -(-a) by omega, Int.neg_tdiv, Int.tdiv_eq_ediv_of_nonneg (by omega), show - -(-a) = -a by omega]
  rw [← Int32.toInt_inj, Int32.toInt_div, n_toInt ha, n_toInt (show inR b by omega), h1, Int32.toInt_ofInt]
theorem n_rem {a b : Int} (ha : nR a) (hb : nR b) (h : b ≠ 0) : Int32.ofInt a - Int32.ofInt a / Int32.ofInt b * Int32.ofInt b = Int32.ofInt (a % b) := by
  have h1 : 0 ≤ a % b := Int.emod_nonneg _ h
  rw [n_nI ha.1, n_nI hb.1, n_nI h1, pk_rem (by omega) (by omega) (by omega)]
  congr 1
  obtain ⟨k, rfl⟩ := Int.eq_ofNat_of_zero_le ha.1
  obtain ⟨j, rfl⟩ := Int.eq_ofNat_of_zero_le hb.1
  rfl
theorem n_ne0 {b : Int} (hb : nR b) (h : b ≠ 0) : ¬ Int32.ofInt b = 0 := by
  rw [show (0 : Int32) = Int32.ofInt 0 from rfl, n_eq ⟨by omega, by omega⟩ ⟨by omega, by omega⟩]
  exact h
theorem n_m31 : ∀ k, k < 32 → ((nI k &&& 31).toBitVec.smod 32).toNat = k := by decide +kernel
theorem n_shl (a : Int) {b : Int} (h0 : 0 ≤ b) (h1 : b < 32) : Int32.ofInt a <<< (Int32.ofInt b &&& 31) = Int32.ofInt (a * 2 ^ b.toNat) := by
  rw [n_nI h0]
  apply Int32.toBitVec_inj.mp
  apply BitVec.eq_of_toNat_eq
  rw [pk_shl _ _ b.toNat (n_m31 _ (by omega)), Int32.ofInt_mul]
  have e : Int32.ofInt ((2 : Int) ^ b.toNat) = nI (2 ^ b.toNat) := by
    rw [n_nI (Int.pow_nonneg (by omega))]
    congr 1
  rw [e]
  show _ = ((Int32.ofInt a).toBitVec * (nI (2 ^ b.toNat)).toBitVec).toNat
  rw [BitVec.toNat_mul]
  have h2 : (2 : Nat) ^ b.toNat < 2 ^ 32 := Nat.pow_lt_pow_right (by omega) (by omega)
  rw [pk_tn h2]
theorem n_shr {a b : Int} (ha : inR a) (h0 : 0 ≤ b) (h1 : b < 32) : Int32.ofInt a >>> (Int32.ofInt b &&& 31) = Int32.ofInt (a / 2 ^ b.toNat) := by
  have hp : (0 : Int) < 2 ^ b.toNat := Int.pow_pos (by omega)
  have hr : inR (a / 2 ^ b.toNat) := by
    constructor
    · have : -2147483648 ≤ a / 2 ^ b.toNat ↔ -2147483648 * 2 ^ b.toNat ≤ a := Int.le_ediv_iff_mul_le hp
      rw [this]
      have h3 : (1 : Int) ≤ 2 ^ b.toNat := by omega
      have : -2147483648 * 2 ^ b.toNat ≤ -2147483648 * (1 : Int) := Int.mul_le_mul_of_nonpos_left (by omega) h3
      have := ha.1
      omega
    · have : a / 2 ^ b.toNat < 2147483648 ↔ a < 2147483648 * 2 ^ b.toNat := Int.ediv_lt_iff_lt_mul hp
      rw [this]
      have h3 : (1 : Int) ≤ 2 ^ b.toNat := by omega
      have : 2147483648 * (1 : Int) ≤ 2147483648 * 2 ^ b.toNat := Int.mul_le_mul_of_nonneg_left h3 (by omega)
      have := ha.2
      omega
  rw [n_nI h0]
  apply Int32.toInt_inj.mp
  rw [pk_shr _ _ b.toNat (n_m31 _ (by omega)), n_toInt ha, n_toInt hr, Int.shiftRight_eq_div_pow]
  first | rfl | norm_cast
theorem n_and (a b : Int) : Int32.ofInt a &&& Int32.ofInt b = Int32.ofInt (iAnd a b) := by
  apply Int32.toBitVec_inj.mp
  rw [Int32.toBitVec_and, Int32.toBitVec_ofInt, Int32.toBitVec_ofInt, Int32.toBitVec_ofInt, iAnd, BitVec.ofInt_toInt]
theorem n_or (a b : Int) : Int32.ofInt a ||| Int32.ofInt b = Int32.ofInt (iOr a b) := by
  apply Int32.toBitVec_inj.mp
  rw [Int32.toBitVec_or, Int32.toBitVec_ofInt, Int32.toBitVec_ofInt, Int32.toBitVec_ofInt, iOr, BitVec.ofInt_toInt]
theorem n_i2l {a : Int} (h : inR a) : (Int32.ofInt a).toInt64 = Int64.ofBitVec (BitVec.ofInt 64 a) := by
  rw [Int32.toInt64_ofInt (by have := h.1; exact this) (by have := h.2; show a ≤ 2147483647; omega)]
  rfl
theorem n_l2i (b : BitVec 64) : (Int64.ofBitVec b).toInt32 = Int32.ofInt b.toInt := by
  apply Int32.toBitVec_inj.mp
  rw [Int32.toBitVec_ofInt]
  rfl
theorem n_m63 (b : Int) : (Int32.ofInt b).toInt64 &&& 63 = lN (sh6 b) := by
  apply Int64.toBitVec_inj.mp
  apply BitVec.eq_of_toNat_eq
  have e1 : ((Int32.ofInt b).toInt64 &&& 63).toBitVec = BitVec.signExtend 64 (BitVec.ofInt 32 b) &&& 63#64 := rfl
  rw [e1, BitVec.toNat_and]
  have e2 : BitVec.signExtend 64 (BitVec.ofInt 32 b) = BitVec.ofInt 64 (BitVec.ofInt 32 b).toInt := rfl
  rw [e2, BitVec.toNat_ofInt, BitVec.toInt_ofInt]
  show (_ &&& (2 ^ 6 - 1)) = _
  rw [Nat.and_two_pow_sub_one_eq_mod]
  show _ = (BitVec.ofNat 64 (sh6 b)).toNat
  rw [BitVec.toNat_ofNat]
  simp only [sh6, Int.bmod]
  split <;> omega
theorem sh6_lt (b : Int) : sh6 b < 64 := by unfold sh6; omega
theorem n_m64 : ∀ k, k < 64 → (lN k).toBitVec.smod 64 = BitVec.ofNat 64 k := by decide +kernel
theorem n_lshl (a : BitVec 64) (b : Int) : Int64.ofBitVec a <<< ((Int32.ofInt b).toInt64 &&& 63) = Int64.ofBitVec (a <<< sh6 b) := by
  rw [n_m63]
  show Int64.ofBitVec (a <<< ((lN (sh6 b)).toBitVec.smod 64)) = _
  rw [n_m64 _ (sh6_lt b), BitVec.shiftLeft_eq', BitVec.toNat_ofNat, Nat.mod_eq_of_lt (by have := sh6_lt b; omega)]
theorem n_lshr (a : BitVec 64) (b : Int) : Int64.ofBitVec a >>> ((Int32.ofInt b).toInt64 &&& 63) = Int64.ofBitVec (a.sshiftRight (sh6 b)) := by
  rw [n_m63]
  show Int64.ofBitVec (a.sshiftRight' ((lN (sh6 b)).toBitVec.smod 64)) = _
  rw [n_m64 _ (sh6_lt b), BitVec.sshiftRight_eq', BitVec.toNat_ofNat, Nat.mod_eq_of_lt (by have := sh6_lt b; omega)]
theorem n_lushr (a : BitVec 64) (b : Int) : ((Int64.ofBitVec a).toUInt64 >>> ((Int32.ofInt b).toInt64.toUInt64 &&& Int64.toUInt64 63)).toInt64 = Int64.ofBitVec (a >>> sh6 b) := by
  have e : (Int32.ofInt b).toInt64.toUInt64 &&& Int64.toUInt64 63 = ((Int32.ofInt b).toInt64 &&& 63).toUInt64 := rfl
  rw [e, n_m63]
  show Int64.ofBitVec (a >>> ((lN (sh6 b)).toBitVec % 64)) = _
  have e2 : (lN (sh6 b)).toBitVec % 64 = BitVec.ofNat 64 (sh6 b) := by
    have : ∀ k, k < 64 → (lN k).toBitVec % 64 = BitVec.ofNat 64 k := by decide +kernel
    exact this _ (sh6_lt b)
  rw [e2, BitVec.ushiftRight_eq', BitVec.toNat_ofNat, Nat.mod_eq_of_lt (by have := sh6_lt b; omega)]
