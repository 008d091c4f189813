/-! the number of bits -/
def mkN (c : Nat) : Nat → Nat
  | 0 => 0
  | n + 1 => c + 256 * mkN c n
theorem land256 {a b c d : Nat} (ha : a < 256) (hc : c < 256) : (a + 256 * b) &&& (c + 256 * d) = (a &&& c) + 256 * (b &&& d) := by
  have hac : a &&& c < 2 ^ 8 := Nat.and_lt_two_pow _ hc
  apply Nat.eq_of_testBit_eq
  intro i
  rw [show a + 256 * b = 2 ^ 8 * b + a by omega, show c + 256 * d = 2 ^ 8 * d + c by omega, show (a &&& c) + 256 * (b &&& d) = 2 ^ 8 * (b &&& d) + (a &&& c) by omega, Nat.testBit_and, Nat.testBit_two_pow_mul_add _ ha, Nat.testBit_two_pow_mul_add _ hc, Nat.testBit_two_pow_mul_add _ hac]
  by_cases q : i < 8
  · rw [if_pos q, if_pos q, if_pos q, Nat.testBit_and]
  · rw [if_neg q, if_neg q, if_neg q, Nat.testBit_and]
def S1 (n x : Nat) : Nat := x - ((x / 2) &&& mkN 85 n)
def S2 (n x : Nat) : Nat := (x &&& mkN 51 n) + ((x / 4) &&& mkN 51 n)
def S3 (n x : Nat) : Nat := (x + x / 16) &&& mkN 15 n
def f1 (a : Nat) : Nat := a - ((a / 2) &&& 85)
def f2 (a : Nat) : Nat := (a &&& 51) + ((a / 4) &&& 51)
def cntB (x n : Nat) : Int := cn (fun j => x.testBit j.toNat) n
def byOk (a : Nat) : Bool := Nat.blt (f1 a) 256 && (Nat.ble (f2 (f1 a)) 68 && (Nat.ble (f2 (f1 a) % 16) 4 && (decide ((((f2 (f1 a) + f2 (f1 a) / 16) % 16 : Nat) : Int) = cntB a 8) && Nat.ble ((f2 (f1 a) + f2 (f1 a) / 16) % 16) 8)))
theorem by_all : (List.range 256).all byOk = true := by decide +kernel
theorem by_get {a : Nat} (h : a < 256) : f1 a < 256 ∧ (f2 (f1 a) ≤ 68 ∧ (f2 (f1 a) % 16 ≤ 4 ∧ ((((f2 (f1 a) + f2 (f1 a) / 16) % 16 : Nat) : Int) = cntB a 8 ∧ (f2 (f1 a) + f2 (f1 a) / 16) % 16 ≤ 8))) := by
  have k := List.all_eq_true.mp by_all a (List.mem_range.mpr h)
  unfold byOk at k
  simp only [Bool.and_eq_true, Nat.blt_eq, Nat.ble_eq, decide_eq_true_eq] at k
  exact k
theorem sh1_all : (List.range 256).all (fun a => (List.range 2).all (fun e => decide ((a / 2 + 128 * e) &&& 85 = (a / 2) &&& 85))) = true := by decide +kernel
theorem sh2_all : (List.range 256).all (fun a => (List.range 4).all (fun e => decide ((a / 4 + 64 * e) &&& 51 = (a / 4) &&& 51))) = true := by decide +kernel
theorem sh1_get {a e : Nat} (h : a < 256) (he : e < 2) : (a / 2 + 128 * e) &&& 85 = (a / 2) &&& 85 :=
  of_decide_eq_true (List.all_eq_true.mp (List.all_eq_true.mp sh1_all a (List.mem_range.mpr h)) e (List.mem_range.mpr he))
theorem sh2_get {a e : Nat} (h : a < 256) (he : e < 4) : (a / 4 + 64 * e) &&& 51 = (a / 4) &&& 51 :=
  of_decide_eq_true (List.all_eq_true.mp (List.all_eq_true.mp sh2_all a (List.mem_range.mpr h)) e (List.mem_range.mpr he))
theorem S1_s {n a b : Nat} (ha : a < 256) : S1 (n + 1) (a + 256 * b) = f1 a + 256 * S1 n b := by
  unfold S1 f1
  show a + 256 * b - ((a + 256 * b) / 2 &&& (85 + 256 * mkN 85 n)) = _
  rw [show (a + 256 * b) / 2 = (a / 2 + 128 * (b % 2)) + 256 * (b / 2) by omega, land256 (by omega) (by omega), sh1_get ha (by omega)]
  have h1 : (a / 2) &&& 85 ≤ a / 2 := Nat.and_le_left
  have h2 : (b / 2) &&& mkN 85 n ≤ b / 2 := Nat.and_le_left
  omega
theorem S2_s {n a b : Nat} (ha : a < 256) : S2 (n + 1) (a + 256 * b) = f2 a + 256 * S2 n b := by
  unfold S2 f2
  show ((a + 256 * b) &&& (51 + 256 * mkN 51 n)) + ((a + 256 * b) / 4 &&& (51 + 256 * mkN 51 n)) = _
  rw [show (a + 256 * b) / 4 = (a / 4 + 64 * (b % 4)) + 256 * (b / 4) by omega, land256 ha (by omega), land256 (by omega) (by omega), sh2_get ha (by omega)]
  omega
theorem S3_s {n a b : Nat} (ha : a ≤ 68) (hb : b % 16 ≤ 4) : S3 (n + 1) (a + 256 * b) = (a + a / 16) % 16 + 256 * S3 n b := by
  unfold S3
  show ((a + 256 * b) + (a + 256 * b) / 16) &&& (15 + 256 * mkN 15 n) = _
  rw [show (a + 256 * b) + (a + 256 * b) / 16 = (a + a / 16 + 16 * (b % 16)) + 256 * (b + b / 16) by omega, land256 (by omega) (by omega)]
  have e : (a + a / 16 + 16 * (b % 16)) &&& 15 = (a + a / 16 + 16 * (b % 16)) % 16 := Nat.and_two_pow_sub_one_eq_mod _ 4
  rw [e]
  omega
def T3 (n x : Nat) : Nat := S3 n (S2 n (S1 n x))
theorem low4 : ∀ (n b : Nat), b < 256 ^ n → S2 n (S1 n b) % 16 ≤ 4
  | 0, b, h => by
    have : b = 0 := by rw [Nat.pow_zero] at h; omega
    subst this; decide
  | n + 1, b, h => by
    have hb := by_get (a := b % 256) (by omega)
    rw [show b = b % 256 + 256 * (b / 256) by omega, S1_s (by omega), S2_s hb.1]
    have := hb.2.2.1
    omega
theorem T3_s {n a b : Nat} (ha : a < 256) (hb : b < 256 ^ n) : T3 (n + 1) (a + 256 * b) = (f2 (f1 a) + f2 (f1 a) / 16) % 16 + 256 * T3 n b := by
  have h := by_get ha
  unfold T3
  rw [S1_s ha, S2_s h.1, S3_s h.2.1 (low4 n b hb)]
theorem cn_add {g : Int → Bool} {k : Nat} : ∀ m : Nat, cn g (k + m) = cn g k + cn (fun j => g (j + k)) m
  | 0 => by show cn g k = cn g k + 0; omega
  | m + 1 => by
    show cn g (k + m + 1) = cn g k + cn (fun j => g (j + k)) (m + 1)
    rw [cn_succ, cn_succ, cn_add m, show ((k + m : Nat) : Int) = (m : Int) + k by omega]; omega
theorem cnt_s {n a b : Nat} (ha : a < 256) : cntB (a + 256 * b) (8 * (n + 1)) = cntB a 8 + cntB b (8 * n) := by
  unfold cntB
  rw [show 8 * (n + 1) = 8 + 8 * n by omega, cn_add]
  have e : ∀ i, (a + 256 * b).testBit i = if i < 8 then a.testBit i else b.testBit (i - 8) := fun i => by
    rw [show a + 256 * b = 2 ^ 8 * b + a by omega, Nat.testBit_two_pow_mul_add _ ha]
  have e1 : cn (fun j => (a + 256 * b).testBit j.toNat) 8 = cn (fun j => a.testBit j.toNat) 8 := cn_congr (fun m m0 m1 => by rw [e, if_pos (by omega)])
  have e2 : cn (fun j : Int => (a + 256 * b).testBit (j + ((8 : Nat) : Int)).toNat) (8 * n) = cn (fun j => b.testBit j.toNat) (8 * n) := cn_congr (fun m m0 m1 => by rw [e, if_neg (by omega), show (m + ((8 : Nat) : Int)).toNat - 8 = m.toNat by omega])
  rw [e1, e2]
/-- a number by its bytes, each at most 8, and their sum -/
def DGT : Nat → Nat → Int → Prop
  | 0, v, s => v = 0 ∧ s = 0
  | n + 1, v, s => ∃ (c v' : Nat) (s' : Int), c ≤ 8 ∧ (v = c + 256 * v' ∧ (s = c + s' ∧ DGT n v' s'))
theorem DGT_T : ∀ (n b : Nat), b < 256 ^ n → DGT n (T3 n b) (cntB b (8 * n))
  | 0, b, h => by
    have : b = 0 := by rw [Nat.pow_zero] at h; omega
    subst this
    exact ⟨by decide, rfl⟩
  | n + 1, b, h => by
    have hb : b / 256 < 256 ^ n := by rw [Nat.pow_succ] at h; omega
    have g := by_get (a := b % 256) (by omega)
    have e := T3_s (n := n) (a := b % 256) (b := b / 256) (by omega) hb
    have e' := cnt_s (n := n) (a := b % 256) (b := b / 256) (by omega)
    rw [show b % 256 + 256 * (b / 256) = b by omega] at e e'
    exact ⟨_, _, _, g.2.2.2.2, e, by rw [e', g.2.2.2.1], DGT_T n (b / 256) hb⟩
theorem hz1 {v0 v1 v2 v3 c0 c1 c2 : Nat} (e0 : v0 = c0 + 256 * v1) (e1 : v1 = c1 + 256 * v2) (e2 : v2 = c2 + 256 * v3) (h0 : c0 ≤ 8) (h1 : c1 ≤ 8) (h2 : c2 ≤ 8) : (v0 + v1) / 65536 = v2 + v3 := by
  have h : v0 + v1 = (c0 + c1 + 256 * (c1 + c2)) + 65536 * (v2 + v3) := by omega
  have hl : c0 + c1 + 256 * (c1 + c2) < 65536 := by omega
  rw [h]
  generalize c0 + c1 + 256 * (c1 + c2) = L at hl ⊢
  generalize v2 + v3 = V
  omega
theorem hz2 {v0 v4 c0 c1 c2 c3 v1 v2 v3 : Nat} (e0 : v0 = c0 + 256 * v1) (e1 : v1 = c1 + 256 * v2) (e2 : v2 = c2 + 256 * v3) (e3 : v3 = c3 + 256 * v4) (h0 : c0 ≤ 8) (h1 : c1 ≤ 8) (h2 : c2 ≤ 8) (h3 : c3 ≤ 8) : ∃ L, v0 = L + 4294967296 * v4 ∧ L ≤ 134744072 :=
  ⟨c0 + 256 * (c1 + 256 * (c2 + 256 * c3)), by omega, by omega⟩
theorem hz3 {y L0 L1 L2 L3 v4 v5 v6 v7 : Nat} (hy : y = (L0 + 4294967296 * v4) + (L1 + 4294967296 * v5) + ((L2 + 4294967296 * v6) + (L3 + 4294967296 * v7))) (h0 : L0 ≤ 134744072) (h1 : L1 ≤ 134744072) (h2 : L2 ≤ 134744072) (h3 : L3 ≤ 134744072) : y / 4294967296 = v4 + v5 + v6 + v7 := by
  have h : y = (L0 + L1 + L2 + L3) + 4294967296 * (v4 + v5 + v6 + v7) := by omega
  have hl : L0 + L1 + L2 + L3 < 4294967296 := by omega
  rw [h]
  generalize L0 + L1 + L2 + L3 = L at hl ⊢
  generalize v4 + v5 + v6 + v7 = V
  omega
theorem hzb {v v' c B : Nat} (e : v = c + 256 * v') (h : c ≤ 8) (hb : v' ≤ B) : v ≤ 8 + 256 * B := by omega
theorem hz4 {y S V : Nat} (h : y = S + 256 * V) (hs : S ≤ 64) : y % 128 = S := by omega
theorem horiz {v : Nat} {s : Int} (h : DGT 8 v s) : v < 1152921504606846976 ∧ (((v + v / 256 + (v + v / 256) / 65536) + (v + v / 256 + (v + v / 256) / 65536) / 4294967296) < 9223372036854775808 ∧ ((((v + v / 256 + (v + v / 256) / 65536) + (v + v / 256 + (v + v / 256) / 65536) / 4294967296) % 128 : Nat) : Int) = s) := by
  obtain ⟨c0, v1, s1, h0, e0, g0, c1, v2, s2, h1, e1, g1, c2, v3, s3, h2, e2, g2, c3, v4, s4, h3, e3, g3, c4, v5, s5, h4, e4, g4, c5, v6, s6, h5, e5, g5, c6, v7, s7, h6, e6, g6, c7, v8, s8, h7, e7, g7, h8, h9⟩ := h
  have b7 : v7 ≤ 8 := by omega
  have b6 := hzb e6 h6 b7
  have b5 := hzb e5 h5 b6
  have b4 := hzb e4 h4 b5
  have b3 := hzb e3 h3 b4
  have b2 := hzb e2 h2 b3
  have b1 := hzb e1 h1 b2
  have b0 := hzb e0 h0 b1
  have d1 : v / 256 = v1 := by rw [e0]; omega
  have d2 := hz1 e0 e1 e2 h0 h1 h2
  obtain ⟨L0, f0, k0⟩ := hz2 e0 e1 e2 e3 h0 h1 h2 h3
  obtain ⟨L1, f1, k1⟩ := hz2 e1 e2 e3 e4 h1 h2 h3 h4
  obtain ⟨L2, f2, k2⟩ := hz2 e2 e3 e4 e5 h2 h3 h4 h5
  obtain ⟨L3, f3, k3⟩ := hz2 e3 e4 e5 e6 h3 h4 h5 h6
  have d3 : (v + v1 + (v2 + v3)) / 4294967296 = v4 + v5 + v6 + v7 := hz3 (by rw [← f0, ← f1, ← f2, ← f3]) k0 k1 k2 k3
  rw [d1, d2, d3]
  have ey : (v + v1 + (v2 + v3)) + (v4 + v5 + v6 + v7) = (c0 + c1 + c2 + c3 + c4 + c5 + c6 + c7) + 256 * (v1 + v2 + v3 + v4 + v5 + v6 + v7) := by
    clear b0 b1 b2 b3 b4 b5 b6 b7 f0 f1 f2 f3 d1 d2 d3 k0 k1 k2 k3 h0 h1 h2 h3 h4 h5 h6 h7 g0 g1 g2 g3 g4 g5 g6 g7
    omega
  have es : s = ((c0 + c1 + c2 + c3 + c4 + c5 + c6 + c7 : Nat) : Int) := by
    clear b0 b1 b2 b3 b4 b5 b6 b7 f0 f1 f2 f3 d1 d2 d3 k0 k1 k2 k3 h0 h1 h2 h3 h4 h5 h6 h7 e0 e1 e2 e3 e4 e5 e6 e7 ey
    omega
  have hs : c0 + c1 + c2 + c3 + c4 + c5 + c6 + c7 ≤ 64 := by
    clear b0 b1 b2 b3 b4 b5 b6 b7 f0 f1 f2 f3 d1 d2 d3 k0 k1 k2 k3 g0 g1 g2 g3 g4 g5 g6 g7 e0 e1 e2 e3 e4 e5 e6 e7 ey es
    omega
  refine ⟨?_, ?_, by rw [hz4 ey hs, es]⟩
  · clear ey es d1 d2 d3 f0 f1 f2 f3 e0 e1 e2 e3 e4 e5 e6 e7 g0 g1 g2 g3 g4 g5 g6 g7 b1 b2 b3 b4 b5 b6
    omega
  · clear ey es d1 d2 d3 f0 f1 f2 f3 e0 e1 e2 e3 e4 e5 e6 e7 g0 g1 g2 g3 g4 g5 g6 g7
    omega
section BC
variable {t : Nat} {σ : St} {Q : Res → St → Prop}
theorem pw_cnt (l : BitVec 64) : pw l = cntB l.toNat 64 := cn_congr (fun m _ _ => by
  show l.getLsbD m.toNat = l.toNat.testBit m.toNat
  rfl)
theorem add_n {x y : BitVec 64} (h : x.toNat + y.toNat < 18446744073709551616) : (x + y).toNat = x.toNat + y.toNat := by
  rw [BitVec.toNat_add, Nat.mod_eq_of_lt h]
theorem shr_n {x : BitVec 64} {k : Int} {m d : Nat} (hk : sh6 k = m) (hd : 2 ^ m = d) : (x >>> sh6 k).toNat = x.toNat / d := by
  rw [hk, BitVec.toNat_ushiftRight, Nat.shiftRight_eq_div_pow, hd]
/-- Long.bitCount -/
theorem e174 {l : BitVec 64} : Call t 174 [vL l] σ Q ↔ Q (.inl (some (vI (pw l)))) σ := by
  rw [x174_0]
  have m5 : (BitVec.ofInt 64 6148914691236517205).toNat = mkN 85 8 := by decide +kernel
  have m3 : (BitVec.ofInt 64 3689348814741910323).toNat = mkN 51 8 := by decide +kernel
  have m0 : (BitVec.ofInt 64 1085102592571150095).toNat = mkN 15 8 := by decide +kernel
  have hl : l.toNat < 256 ^ 8 := l.isLt
  have k3 : mkN 51 8 = 3689348814741910323 := by decide +kernel
  have k0 : mkN 15 8 = 1085102592571150095 := by decide +kernel
  generalize hA : l - ((l >>> sh6 1) &&& (BitVec.ofInt 64 6148914691236517205)) = A
  generalize hB : (A &&& (BitVec.ofInt 64 3689348814741910323)) + ((A >>> sh6 2) &&& (BitVec.ofInt 64 3689348814741910323)) = B
  generalize hC : (B + (B >>> sh6 4)) &&& (BitVec.ofInt 64 1085102592571150095) = C
  generalize hD : C + (C >>> sh6 8) = D
  generalize hE : D + (D >>> sh6 16) = E
  have eA : A.toNat = S1 8 l.toNat := by
    have h1 : ((l >>> sh6 1) &&& BitVec.ofInt 64 6148914691236517205).toNat = (l.toNat / 2) &&& mkN 85 8 := by rw [BitVec.toNat_and, shr_n (m := 1) (d := 2) rfl rfl, m5]
    have h2 : (l.toNat / 2) &&& mkN 85 8 ≤ l.toNat / 2 := Nat.and_le_left
    have h3 := l.isLt
    rw [← hA, BitVec.toNat_sub, h1]
    unfold S1
    omega
  have eB : B.toNat = S2 8 A.toNat := by
    have h1 : (A &&& BitVec.ofInt 64 3689348814741910323).toNat = A.toNat &&& mkN 51 8 := by rw [BitVec.toNat_and, m3]
    have h2 : ((A >>> sh6 2) &&& BitVec.ofInt 64 3689348814741910323).toNat = (A.toNat / 4) &&& mkN 51 8 := by rw [BitVec.toNat_and, shr_n (m := 2) (d := 4) rfl rfl, m3]
    have h3 : A.toNat &&& mkN 51 8 ≤ mkN 51 8 := Nat.and_le_right
    have h4 : (A.toNat / 4) &&& mkN 51 8 ≤ mkN 51 8 := Nat.and_le_right
    rw [← hB, add_n (by rw [h1, h2]; omega), h1, h2]
    rfl
  have bB : B.toNat ≤ 7378697629483820646 := by
    have h3 : A.toNat &&& mkN 51 8 ≤ mkN 51 8 := Nat.and_le_right
    have h4 : (A.toNat / 4) &&& mkN 51 8 ≤ mkN 51 8 := Nat.and_le_right
    rw [eB]; unfold S2; omega
  have eC : C.toNat = S3 8 B.toNat := by
    have h1 : (B >>> sh6 4).toNat = B.toNat / 16 := shr_n (m := 4) (d := 16) rfl rfl
    rw [← hC, BitVec.toNat_and, add_n (by rw [h1]; omega), h1, m0]
    rfl
  have hT : C.toNat = T3 8 l.toNat := by rw [eC, eB, eA]; rfl
  have hd := DGT_T 8 l.toNat hl
  rw [← hT] at hd
  obtain ⟨b1, b2, b3⟩ := horiz hd
  have eD : D.toNat = C.toNat + C.toNat / 256 := by
    have h1 : (C >>> sh6 8).toNat = C.toNat / 256 := shr_n (m := 8) (d := 256) rfl rfl
    rw [← hD, add_n (by rw [h1]; omega), h1]
  have eE : E.toNat = D.toNat + D.toNat / 65536 := by
    have h1 : (D >>> sh6 16).toNat = D.toNat / 65536 := shr_n (m := 16) (d := 65536) rfl rfl
    rw [← hE, add_n (by rw [h1]; omega), h1]
  rw [← eD, ← eE] at b2 b3
  have eF : (E + (E >>> sh6 32)).toNat = E.toNat + E.toNat / 4294967296 := by
    have h1 : (E >>> sh6 32).toNat = E.toNat / 4294967296 := shr_n (m := 32) (d := 4294967296) rfl rfl
    rw [add_n (by rw [h1]; omega), h1]
  generalize E + (E >>> sh6 32) = F at eF ⊢
  have eI : BitVec.toInt F = (F.toNat : Int) := by rw [BitVec.toInt_eq_toNat_cond, if_pos (by omega)]
  have ek : iAnd (BitVec.toInt F) 127 = ((F.toNat % 128 : Nat) : Int) := by
    rw [eI]
    unfold iAnd
    have e : (BitVec.ofInt 32 (F.toNat : Int) &&& BitVec.ofInt 32 127).toNat = F.toNat % 128 := by
      rw [BitVec.toNat_and, BitVec.toNat_ofInt, show (BitVec.ofInt 32 127).toNat = 2 ^ 7 - 1 from rfl, Nat.and_two_pow_sub_one_eq_mod]
      omega
    rw [bv_toInt (by rw [e]; omega), e]
  rw [ek, eF, b3, pw_cnt]
end BC

