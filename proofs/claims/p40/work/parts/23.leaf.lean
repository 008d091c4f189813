/-! leaves: rows of numbers, packed statements -/
theorem ln_in (r : Nat) : inR (ln r : Int) := by
  unfold ln
  have h : ∀ x ∈ lnT, x < 3000 := by decide
  rw [List.getD_eq_getElem?_getD]
  cases hg : lnT[r]? with
  | none => exact ⟨by decide, by decide⟩
  | some x =>
    have := h x (List.mem_of_getElem? hg)
    show inR ((x : Nat) : Int)
    exact ⟨by omega, by omega⟩
def rdI (σ : St) (r : Nat) (i : Int) : Int := if 0 ≤ i ∧ i < ln r then gI σ r i else 0
def rdL (σ : St) (r : Nat) (i : Int) : BitVec 64 := if 0 ≤ i ∧ i < ln r then gL σ r i else 0
def wrI (σ : St) (r : Nat) (i v : Int) : St := if 0 ≤ i ∧ i < ln r then sI σ r i v else σ
def wrO (σ : St) (r : Nat) (i : Int) (b : BitVec 64) : St := if 0 ≤ i ∧ i < ln r then sL σ r i (gL σ r i ||| b) else σ
theorem rdI_in {σ : St} {r n : Nat} {i : Int} (hn : ln r = n) (h0 : 0 ≤ i) (h1 : i < n) : rdI σ r i = gI σ r i := if_pos ⟨h0, by rw [hn]; exact h1⟩
theorem rdL_in {σ : St} {r n : Nat} {i : Int} (hn : ln r = n) (h0 : 0 ≤ i) (h1 : i < n) : rdL σ r i = gL σ r i := if_pos ⟨h0, by rw [hn]; exact h1⟩
theorem wrI_in {σ : St} {r n : Nat} {i v : Int} (hn : ln r = n) (h0 : 0 ≤ i) (h1 : i < n) : wrI σ r i v = sI σ r i v := if_pos ⟨h0, by rw [hn]; exact h1⟩
theorem wrO_in {σ : St} {r n : Nat} {i : Int} {b : BitVec 64} (hn : ln r = n) (h0 : 0 ≤ i) (h1 : i < n) : wrO σ r i b = sL σ r i (gL σ r i ||| b) := if_pos ⟨h0, by rw [hn]; exact h1⟩
section LEAF
variable {t : Nat} {σ : St} {Q : Res → St → Prop}
theorem k96 {r : Nat} {i : Int} (h : lc r = 101) : Call t 96 [vR r, vI i] σ Q ↔ inR i ∧ Q (.inl (some (vI (rdI σ r i)))) σ := by
  have hl := ln_in r
  rw [x96_0]
  constructor
  · rintro ⟨hi, h1, h2⟩
    refine ⟨hi, ?_⟩
    by_cases h0 : i < 0
    · have := h1 h0; rw [x96_16, x96_17] at this; rwa [rdI, if_neg (by omega)]
    · have := h2 h0; rw [x96_4] at this; obtain ⟨-, -, h3, h4⟩ := this
      by_cases h5 : i < (ln r : Int)
      · have := h3 h5; rw [x96_10, x96_17] at this; rw [rdI, if_pos ⟨by omega, h5⟩]; exact this.2
      · have := h4 h5; rw [x96_16, x96_17] at this; rwa [rdI, if_neg (by omega)]
  · rintro ⟨hi, hq⟩
    refine ⟨hi, fun h0 => ?_, fun h0 => ?_⟩
    · rw [x96_16, x96_17]; rwa [rdI, if_neg (by omega)] at hq
    · rw [x96_4]; refine ⟨Or.inl h, ⟨hi, hl⟩, fun h5 => ?_, fun h5 => ?_⟩
      · rw [x96_10, x96_17]; rw [rdI, if_pos ⟨by omega, h5⟩] at hq; exact ⟨⟨h, by omega, h5⟩, hq⟩
      · rw [x96_16, x96_17]; rwa [rdI, if_neg (by omega)] at hq
theorem k97 {r : Nat} {i : Int} (h : lc r = 102) : Call t 97 [vR r, vI i] σ Q ↔ inR i ∧ Q (.inl (some (vL (rdL σ r i)))) σ := by
  have hl := ln_in r
  rw [x97_0]
  constructor
  · rintro ⟨hi, h1, h2⟩
    refine ⟨hi, ?_⟩
    by_cases h0 : i < 0
    · have := h1 h0; rw [x97_16, x97_17] at this; rwa [rdL, if_neg (by omega)]
    · have := h2 h0; rw [x97_4] at this; obtain ⟨-, -, h3, h4⟩ := this
      by_cases h5 : i < (ln r : Int)
      · have := h3 h5; rw [x97_10, x97_17] at this; rw [rdL, if_pos ⟨by omega, h5⟩]; exact this.2
      · have := h4 h5; rw [x97_16, x97_17] at this; rwa [rdL, if_neg (by omega)]
  · rintro ⟨hi, hq⟩
    refine ⟨hi, fun h0 => ?_, fun h0 => ?_⟩
    · rw [x97_16, x97_17]; rwa [rdL, if_neg (by omega)] at hq
    · rw [x97_4]; refine ⟨Or.inr h, ⟨hi, hl⟩, fun h5 => ?_, fun h5 => ?_⟩
      · rw [x97_10, x97_17]; rw [rdL, if_pos ⟨by omega, h5⟩] at hq; exact ⟨⟨h, by omega, h5⟩, hq⟩
      · rw [x97_16, x97_17]; rwa [rdL, if_neg (by omega)] at hq
theorem k98 {r : Nat} {i v : Int} (h : lc r = 101) : Call t 98 [vR r, vI i, vI v] σ Q ↔ inR i ∧ Q (.inl none) (wrI σ r i v) := by
  have hl := ln_in r
  rw [x98_0]
  constructor
  · rintro ⟨hi, h1, h2⟩
    refine ⟨hi, ?_⟩
    by_cases h0 : i < 0
    · have := h1 h0; rw [x98_14] at this; rwa [wrI, if_neg (by omega)]
    · have := h2 h0; rw [x98_4] at this; obtain ⟨-, -, h3, h4⟩ := this
      by_cases h5 : i < (ln r : Int)
      · have := h3 h5; rw [x98_10, x98_14] at this; rw [wrI, if_pos ⟨by omega, h5⟩]; exact this.2
      · have := h4 h5; rw [x98_14] at this; rwa [wrI, if_neg (by omega)]
  · rintro ⟨hi, hq⟩
    refine ⟨hi, fun h0 => ?_, fun h0 => ?_⟩
    · rw [x98_14]; rwa [wrI, if_neg (by omega)] at hq
    · rw [x98_4]; refine ⟨Or.inl h, ⟨hi, hl⟩, fun h5 => ?_, fun h5 => ?_⟩
      · rw [x98_10, x98_14]; rw [wrI, if_pos ⟨by omega, h5⟩] at hq; exact ⟨⟨h, by omega, h5⟩, hq⟩
      · rw [x98_14]; rwa [wrI, if_neg (by omega)] at hq
theorem k99 {r : Nat} {i : Int} {v : BitVec 64} (h : lc r = 102) : Call t 99 [vR r, vI i, vL v] σ Q ↔ inR i ∧ Q (.inl none) (wrO σ r i v) := by
  have hl := ln_in r
  rw [x99_0]
  constructor
  · rintro ⟨hi, h1, h2⟩
    refine ⟨hi, ?_⟩
    by_cases h0 : i < 0
    · have := h1 h0; rw [x99_17] at this; rwa [wrO, if_neg (by omega)]
    · have := h2 h0; rw [x99_4] at this; obtain ⟨-, -, h3, h4⟩ := this
      by_cases h5 : i < (ln r : Int)
      · have := h3 h5; rw [x99_10, x99_17] at this; rw [wrO, if_pos ⟨by omega, h5⟩]; exact this.2.2
      · have := h4 h5; rw [x99_17] at this; rwa [wrO, if_neg (by omega)]
  · rintro ⟨hi, hq⟩
    refine ⟨hi, fun h0 => ?_, fun h0 => ?_⟩
    · rw [x99_17]; rwa [wrO, if_neg (by omega)] at hq
    · rw [x99_4]; refine ⟨Or.inr h, ⟨hi, hl⟩, fun h5 => ?_, fun h5 => ?_⟩
      · rw [x99_10, x99_17]; rw [wrO, if_pos ⟨by omega, h5⟩] at hq; exact ⟨⟨h, by omega, h5⟩, ⟨h, by omega, h5⟩, hq⟩
      · rw [x99_17]; rwa [wrO, if_neg (by omega)] at hq
theorem fill_loop {r : Nat} {v : BitVec 64} (h : lc r = 102) : ∀ (d : Nat) (i : Int) (a : Option AV) (σ : St), 0 ≤ i → i + d = ln r → (Q (.inl none) (upL σ r (fun j => if i ≤ j ∧ j < ln r then v else gL σ r j))) → wp t 100 2 [some (vR r), some (vL v), a, some (vI i)] [] σ Q
  | 0, i, a, σ, h0, hd, hq => by
    have hl := ln_in r
    rw [x100_2]
    refine ⟨Or.inr h, ⟨⟨by omega, by omega⟩, hl⟩, fun h5 => by omega, fun h5 => ?_⟩
    rw [x100_18]
    have e : upL σ r (fun j => if i ≤ j ∧ j < ln r then v else gL σ r j) = σ := st_ext (fun _ _ => rfl) (fun c j => by
      rw [gL_upL]; split
      · rename_i e; subst e; rw [if_neg (by omega)]
      · rfl) (fun _ _ => rfl)
    rw [e] at hq; exact hq
  | d + 1, i, a, σ, h0, hd, hq => by
    have hl := ln_in r
    rw [x100_2]
    refine ⟨Or.inr h, ⟨⟨by omega, by omega⟩, hl⟩, fun h5 => ?_, fun h5 => by omega⟩
    rw [x100_8]
    refine ⟨⟨h, h0, h5⟩, fill_loop h d (i + 1) _ _ (by omega) (by omega) ?_⟩
    have e : upL (sL σ r i v) r (fun j => if i + 1 ≤ j ∧ j < ln r then v else gL (sL σ r i v) r j) = upL σ r (fun j => if i ≤ j ∧ j < ln r then v else gL σ r j) := st_ext (fun _ _ => rfl) (fun c j => by
      rw [gL_upL, gL_upL, gL_sL, gL_sL]
      by_cases hc : c = r
      · rw [if_pos hc, if_pos hc]
        by_cases h6 : i + 1 ≤ j ∧ j < ln r
        · rw [if_pos h6, if_pos (by omega)]
        · rw [if_neg h6]
          by_cases h7 : j = i
          · rw [if_pos ⟨rfl, h7⟩, if_pos (by omega)]
          · rw [if_neg (fun g => h7 g.2), if_neg (by omega)]
      · rw [if_neg hc, if_neg hc, if_neg (fun g => hc g.1)]) (fun _ _ => rfl)
    rw [e]; exact hq
/-- Rows.fill -/
theorem k100 {r : Nat} {v : BitVec 64} (h : lc r = 102) (hq : Q (.inl none) (upL σ r (fun j => if 0 ≤ j ∧ j < ln r then v else gL σ r j))) : Call t 100 [vR r, vL v] σ Q := by
  rw [x100_0]
  exact fill_loop h (ln r) 0 _ σ (by omega) (by omega) hq
theorem cpI_loop {a b : Nat} (ha : lc a = 101) (hb : lc b = 101) (hn : ln a = ln b) (hne : a ≠ b) : ∀ (d : Nat) (i : Int) (σ : St), 0 ≤ i → i + d = ln b → (Q (.inl none) (upI σ b (fun j => if i ≤ j ∧ j < ln b then gI σ a j else gI σ b j))) → wp t 101 2 [some (vR a), some (vR b), some (vI i)] [] σ Q
  | 0, i, σ, h0, hd, hq => by
    have hl := ln_in b
    rw [x101_2]
    refine ⟨Or.inl ha, ⟨⟨by omega, by omega⟩, by rw [hn]; exact hl⟩, fun h5 => by omega, fun h5 => ?_⟩
    rw [x101_26]
    have e : upI σ b (fun j => if i ≤ j ∧ j < ln b then gI σ a j else gI σ b j) = σ := st_ext (fun c j => by
      rw [gI_upI]; split
      · rename_i e; subst e; rw [if_neg (by omega)]
      · rfl) (fun _ _ => rfl) (fun _ _ => rfl)
    rw [e] at hq; exact hq
  | d + 1, i, σ, h0, hd, hq => by
    have hl := ln_in b
    rw [x101_2]
    refine ⟨Or.inl ha, ⟨⟨by omega, by omega⟩, by rw [hn]; exact hl⟩, fun h5 => ?_, fun h5 => by omega⟩
    rw [x101_8]
    refine ⟨Or.inl hb, ⟨⟨by omega, by omega⟩, hl⟩, fun h6 => ?_, fun h6 => by omega⟩
    rw [x101_14]
    refine ⟨⟨ha, h0, h5⟩, ⟨hb, h0, h6⟩, cpI_loop ha hb hn hne d (i + 1) _ (by omega) (by omega) ?_⟩
    have e : upI (sI σ b i (gI σ a i)) b (fun j => if i + 1 ≤ j ∧ j < ln b then gI (sI σ b i (gI σ a i)) a j else gI (sI σ b i (gI σ a i)) b j) = upI σ b (fun j => if i ≤ j ∧ j < ln b then gI σ a j else gI σ b j) := st_ext (fun c j => by
      rw [gI_upI, gI_upI, gI_sI, gI_sI, gI_sI]
      by_cases hc : c = b
      · rw [if_pos hc, if_pos hc]
        by_cases h6 : i + 1 ≤ j ∧ j < ln b
        · rw [if_pos h6, if_pos (show i ≤ j ∧ j < (ln b : Int) by omega), if_neg (fun g => hne g.1)]
        · rw [if_neg h6]
          by_cases h7 : j = i
          · rw [if_pos ⟨rfl, h7⟩, if_pos (by omega), h7]
          · rw [if_neg (fun g => h7 g.2), if_neg (by omega)]
      · rw [if_neg hc, if_neg hc, if_neg (fun g => hc g.1)]) (fun _ _ => rfl) (fun _ _ => rfl)
    rw [e]; exact hq
/-- Rows.copy of ints, of the same length -/
theorem k101 {a b : Nat} (ha : lc a = 101) (hb : lc b = 101) (hn : ln a = ln b) (hne : a ≠ b) (hq : Q (.inl none) (upI σ b (fun j => if 0 ≤ j ∧ j < ln b then gI σ a j else gI σ b j))) : Call t 101 [vR a, vR b] σ Q := by
  rw [x101_0]
  exact cpI_loop ha hb hn hne (ln b) 0 σ (by omega) (by omega) hq
theorem cpL_loop {a b : Nat} (ha : lc a = 102) (hb : lc b = 102) (hn : ln a = ln b) (hne : a ≠ b) : ∀ (d : Nat) (i : Int) (σ : St), 0 ≤ i → i + d = ln b → (Q (.inl none) (upL σ b (fun j => if i ≤ j ∧ j < ln b then gL σ a j else gL σ b j))) → wp t 102 2 [some (vR a), some (vR b), some (vI i)] [] σ Q
  | 0, i, σ, h0, hd, hq => by
    have hl := ln_in b
    rw [x102_2]
    refine ⟨Or.inr ha, ⟨⟨by omega, by omega⟩, by rw [hn]; exact hl⟩, fun h5 => by omega, fun h5 => ?_⟩
    rw [x102_26]
    have e : upL σ b (fun j => if i ≤ j ∧ j < ln b then gL σ a j else gL σ b j) = σ := st_ext (fun _ _ => rfl) (fun c j => by
      rw [gL_upL]; split
      · rename_i e; subst e; rw [if_neg (by omega)]
      · rfl) (fun _ _ => rfl)
    rw [e] at hq; exact hq
  | d + 1, i, σ, h0, hd, hq => by
    have hl := ln_in b
    rw [x102_2]
    refine ⟨Or.inr ha, ⟨⟨by omega, by omega⟩, by rw [hn]; exact hl⟩, fun h5 => ?_, fun h5 => by omega⟩
    rw [x102_8]
    refine ⟨Or.inr hb, ⟨⟨by omega, by omega⟩, hl⟩, fun h6 => ?_, fun h6 => by omega⟩
    rw [x102_14]
    refine ⟨⟨ha, h0, h5⟩, ⟨hb, h0, h6⟩, cpL_loop ha hb hn hne d (i + 1) _ (by omega) (by omega) ?_⟩
    have e : upL (sL σ b i (gL σ a i)) b (fun j => if i + 1 ≤ j ∧ j < ln b then gL (sL σ b i (gL σ a i)) a j else gL (sL σ b i (gL σ a i)) b j) = upL σ b (fun j => if i ≤ j ∧ j < ln b then gL σ a j else gL σ b j) := st_ext (fun _ _ => rfl) (fun c j => by
      rw [gL_upL, gL_upL, gL_sL, gL_sL, gL_sL]
      by_cases hc : c = b
      · rw [if_pos hc, if_pos hc]
        by_cases h6 : i + 1 ≤ j ∧ j < ln b
        · rw [if_pos h6, if_pos (show i ≤ j ∧ j < (ln b : Int) by omega), if_neg (fun g => hne g.1)]
        · rw [if_neg h6]
          by_cases h7 : j = i
          · rw [if_pos ⟨rfl, h7⟩, if_pos (by omega), h7]
          · rw [if_neg (fun g => h7 g.2), if_neg (by omega)]
      · rw [if_neg hc, if_neg hc, if_neg (fun g => hc g.1)]) (fun _ _ => rfl)
    rw [e]; exact hq
/-- Rows.copy of longs, of the same length -/
theorem k102 {a b : Nat} (ha : lc a = 102) (hb : lc b = 102) (hn : ln a = ln b) (hne : a ≠ b) (hq : Q (.inl none) (upL σ b (fun j => if 0 ≤ j ∧ j < ln b then gL σ a j else gL σ b j))) : Call t 102 [vR a, vR b] σ Q := by
  rw [x102_0]
  exact cpL_loop ha hb hn hne (ln b) 0 σ (by omega) (by omega) hq
end LEAF
/-! bits of ints -/
theorem bv_int {a : Int} (h0 : 0 ≤ a) (h1 : a < 2147483648) : (BitVec.ofInt 32 a).toNat = a.toNat := by
  rw [BitVec.toNat_ofInt]; omega
theorem bv_toInt {x : BitVec 32} (h : x.toNat < 2147483648) : x.toInt = x.toNat := by
  rw [BitVec.toInt_eq_toNat_cond, if_pos (by omega)]
theorem iAnd_mask {a : Int} (k : Nat) (h0 : 0 ≤ a) (h1 : a < 2147483648) (hk : k ≤ 31) : iAnd a (2 ^ k - 1 : Nat) = a % (2 ^ k : Nat) := by
  have hp : 2 ^ k ≤ 2 ^ 31 := Nat.pow_le_pow_right (by omega) hk
  have hp0 : 0 < 2 ^ k := Nat.pow_pos (by omega)
  unfold iAnd
  have e : (BitVec.ofInt 32 a &&& BitVec.ofInt 32 ((2 ^ k - 1 : Nat) : Int)).toNat = a.toNat % 2 ^ k := by
    rw [BitVec.toNat_and, bv_int h0 h1, bv_int (by omega) (by omega), Int.toNat_natCast, Nat.and_two_pow_sub_one_eq_mod]
  have hl : a.toNat % 2 ^ k < 2 ^ k := Nat.mod_lt _ hp0
  rw [bv_toInt (by rw [e]; omega), e]
  rw [Int.natCast_emod, Int.toNat_of_nonneg h0]
theorem iOr_add {a b : Int} (k : Nat) (h0 : 0 ≤ a) (h1 : a < (2 ^ k : Nat)) (h2 : 0 ≤ b) (h3 : a + b * (2 ^ k : Nat) < 2147483648) : iOr a (b * (2 ^ k : Nat)) = a + b * (2 ^ k : Nat) := by
  obtain ⟨x, rfl⟩ := Int.eq_ofNat_of_zero_le h0
  obtain ⟨y, rfl⟩ := Int.eq_ofNat_of_zero_le h2
  have h1 : x < 2 ^ k := by omega
  have e2 : ((y : Int) * ((2 ^ k : Nat) : Int)) = ((y * 2 ^ k : Nat) : Int) := by rw [Int.natCast_mul]
  rw [e2] at h3 ⊢
  unfold iOr
  have e : (BitVec.ofInt 32 (x : Int) ||| BitVec.ofInt 32 ((y * 2 ^ k : Nat) : Int)).toNat = x + y * 2 ^ k := by
    rw [BitVec.toNat_or, bv_int (by omega) (by omega), bv_int (by omega) (by omega), Int.toNat_natCast, Int.toNat_natCast, Nat.or_comm, Nat.mul_comm, ← Nat.two_pow_add_eq_or_of_lt h1]
    omega
  rw [bv_toInt (by rw [e]; omega), e]
  omega
/-- a statement as one number -/
def spk (K V W N : Int) : Int := K + V * 8 + W * 256 + N * 8192
theorem sp_or {K V W N : Int} (hK : 0 ≤ K ∧ K < 8) (hV : 0 ≤ V ∧ V < 32) (hW : 0 ≤ W ∧ W < 32) (hN : 0 ≤ N ∧ N < 4) : iOr (iOr (iOr K (V * 8)) (W * 256)) (N * 8192) = spk K V W N := by
  have e1 : iOr K (V * 8) = K + V * 8 := iOr_add 3 hK.1 (by omega) hV.1 (by omega)
  have e2 : iOr (K + V * 8) (W * 256) = K + V * 8 + W * 256 := iOr_add 8 (by omega) (by omega) hW.1 (by omega)
  have e3 : iOr (K + V * 8 + W * 256) (N * 8192) = K + V * 8 + W * 256 + N * 8192 := iOr_add 13 (by omega) (by omega) hN.1 (by omega)
  rw [e1, e2, e3]; rfl
theorem sp_in {K V W N : Int} (hK : 0 ≤ K ∧ K < 8) (hV : 0 ≤ V ∧ V < 32) (hW : 0 ≤ W ∧ W < 32) (hN : 0 ≤ N ∧ N < 4) : 0 ≤ spk K V W N ∧ spk K V W N < 32768 := by unfold spk; omega
theorem sp_K {K V W N : Int} (hK : 0 ≤ K ∧ K < 8) (hV : 0 ≤ V ∧ V < 32) (hW : 0 ≤ W ∧ W < 32) (hN : 0 ≤ N ∧ N < 4) : iAnd (spk K V W N) 7 = K := by
  have h := sp_in hK hV hW hN
  rw [show (7 : Int) = ((2 ^ 3 - 1 : Nat) : Int) from rfl, iAnd_mask 3 h.1 (by omega) (by omega)]
  unfold spk; omega
theorem sp_V {K V W N : Int} (hK : 0 ≤ K ∧ K < 8) (hV : 0 ≤ V ∧ V < 32) (hW : 0 ≤ W ∧ W < 32) (hN : 0 ≤ N ∧ N < 4) : iAnd (spk K V W N / 8) 31 = V := by
  have h := sp_in hK hV hW hN
  rw [show (31 : Int) = ((2 ^ 5 - 1 : Nat) : Int) from rfl, iAnd_mask 5 (by omega) (by omega) (by omega)]
  unfold spk; omega
theorem sp_W {K V W N : Int} (hK : 0 ≤ K ∧ K < 8) (hV : 0 ≤ V ∧ V < 32) (hW : 0 ≤ W ∧ W < 32) (hN : 0 ≤ N ∧ N < 4) : iAnd (spk K V W N / 256) 31 = W := by
  have h := sp_in hK hV hW hN
  rw [show (31 : Int) = ((2 ^ 5 - 1 : Nat) : Int) from rfl, iAnd_mask 5 (by omega) (by omega) (by omega)]
  unfold spk; omega
theorem sp_N {K V W N : Int} (hK : 0 ≤ K ∧ K < 8) (hV : 0 ≤ V ∧ V < 32) (hW : 0 ≤ W ∧ W < 32) (hN : 0 ≤ N ∧ N < 4) : iAnd (spk K V W N / 8192) 3 = N := by
  have h := sp_in hK hV hW hN
  rw [show (3 : Int) = ((2 ^ 2 - 1 : Nat) : Int) from rfl, iAnd_mask 2 (by omega) (by omega) (by omega)]
  unfold spk; omega

/-! small methods -/
section LEAF2
variable {t : Nat} {σ : St} {Q : Res → St → Prop}
theorem k103 {a b c d : Int} : Call t 103 [vI a, vI b, vI c, vI d] σ Q ↔ Q (.inl (some (vI (iOr (iOr (iOr a (b * 8)) (c * 256)) (d * 8192))))) σ := x103_0
theorem k104 {a : Int} : Call t 104 [vI a] σ Q ↔ Q (.inl (some (vI (iAnd a 7)))) σ := x104_0
theorem k105 {a : Int} : Call t 105 [vI a] σ Q ↔ inR a ∧ Q (.inl (some (vI (iAnd (a / 8) 31)))) σ := x105_0
theorem k106 {a : Int} : Call t 106 [vI a] σ Q ↔ inR a ∧ Q (.inl (some (vI (iAnd (a / 256) 31)))) σ := x106_0
theorem k107 {a : Int} : Call t 107 [vI a] σ Q ↔ inR a ∧ Q (.inl (some (vI (iAnd (a / 8192) 3)))) σ := x107_0
theorem k168 {a : Int} : Call t 168 [vI a] σ Q ↔ Q (.inl (some (vI (4 + 4 * a)))) σ := x168_0
theorem k169 {a : Int} : Call t 169 [vI a] σ Q ↔ Q (.inl (some (vI (4 + 4 * a + 1)))) σ := by
  simp only [x169_0, x169_4, k168, aft_l, aft_r, optL_s, optL_n, xgo_n, xgo_s, List.cons_append, List.nil_append, List.append_nil, true_and, and_true, Nat.sub_zero, Nat.zero_le, true_implies, false_implies, implies_true, not_true_eq_false, not_false_eq_true, true_or, or_true]
theorem k171 {a b : Int} : Call t 171 [vI a, vI b] σ Q ↔ Q (.inl (some (vI (20 + 3 * a + b)))) σ := x171_0
theorem k172 {a : Int} : Call t 172 [vI a] σ Q ↔ Q (.inl (some (vL (BitVec.ofInt 64 7 <<< sh6 (20 + 3 * a + 0))))) σ := by
  simp only [x172_0, x172_8, k171, aft_l, aft_r, optL_s, optL_n, xgo_n, xgo_s, List.cons_append, List.nil_append, List.append_nil, true_and, and_true, Nat.sub_zero, Nat.zero_le, true_implies, false_implies, implies_true, not_true_eq_false, not_false_eq_true, true_or, or_true]
def b2i (b : Bool) : Int := if b = true then 1 else 0
theorem b2i_t : b2i true = 1 := rfl
theorem b2i_f : b2i false = 0 := rfl
theorem b2i_in (b : Bool) : inR (b2i b) := by cases b <;> decide
theorem b2i_z (b : Bool) : b2i b = 0 ∨ b2i b = 1 := by cases b <;> decide
theorem b2i_0 (b : Bool) : (b2i b = 0) ↔ b = false := by cases b <;> decide
theorem k173 {l : BitVec 64} {m : Int} : Call t 173 [vL l, vI m] σ Q ↔ Q (.inl (some (vI (b2i (l.getLsbD (sh6 m)))))) σ := by
  simp only [x173_0, x173_10, x173_14, x173_15, lCmp_eq, bb_and1, bb_shr, aft_l, aft_r, optL_s, optL_n, xgo_n, xgo_s, List.cons_append, List.nil_append, List.append_nil, true_and, and_true, Nat.sub_zero, Nat.zero_le, true_implies, false_implies, implies_true, not_true_eq_false, not_false_eq_true, true_or, or_true]
  refine (w_true lCmp_in).trans ?_
  cases h : l.getLsbD (sh6 m)
  · simp [b2i_f]
  · simp [b2i_t]
/-! the class's program: its members -/
theorem k79 : Call t 79 [vR 5] σ Q ↔ Q (.inl (some (vI (gI σ 5 2)))) σ := x79_0
theorem k80 {a : Int} : Call t 80 [vR 5, vI a] σ Q ↔ Q (.inl none) (sI σ 5 2 a) := x80_0
theorem k88 {a : Int} : Call t 88 [vR 5, vI a] σ Q ↔ inR a ∧ Q (.inl (some (vI (rdI σ 11 a)))) σ := by
  simp only [x88_0, x88_8, k96 (show lc 11 = 101 from rfl), aft_l, aft_r, optL_s, optL_n, xgo_n, xgo_s, List.cons_append, List.nil_append, List.append_nil, true_and, and_true, Nat.sub_zero, Nat.zero_le, true_implies, false_implies, implies_true, not_true_eq_false, not_false_eq_true, true_or, or_true]
theorem k86 : Call t 86 [vR 5] σ Q ↔ Q (.inl (some (vI (rdI σ 11 4)))) σ := by
  simp only [x86_0, x86_5, k88, aft_l, aft_r, optL_s, optL_n, xgo_n, xgo_s, List.cons_append, List.nil_append, List.append_nil, true_and, and_true, Nat.sub_zero, Nat.zero_le, true_implies, false_implies, implies_true, not_true_eq_false, not_false_eq_true, true_or, or_true]
  exact ⟨fun h => h.2, fun h => ⟨by decide, h⟩⟩
theorem k87 : Call t 87 [vR 5] σ Q ↔ Q (.inl (some (vI (gI σ 5 7)))) σ := x87_0
theorem k89 {a : Int} : Call t 89 [vR 5, vI a] σ Q ↔ inR (a + 1) ∧ Q (.inl (some (vI (rdI σ 11 (a + 1))))) σ := by
  simp only [x89_0, x89_10, k96 (show lc 11 = 101 from rfl), aft_l, aft_r, optL_s, optL_n, xgo_n, xgo_s, List.cons_append, List.nil_append, List.append_nil, true_and, and_true, Nat.sub_zero, Nat.zero_le, true_implies, false_implies, implies_true, not_true_eq_false, not_false_eq_true, true_or, or_true]
theorem k90 {a : Int} : Call t 90 [vR 5, vI a] σ Q ↔ inR a ∧ Q (.inl (some (vI (iAnd (rdI σ 8 a) 7)))) σ := by
  simp only [x90_0, x90_8, x90_11, k96 (show lc 8 = 101 from rfl), k104, aft_l, aft_r, optL_s, optL_n, xgo_n, xgo_s, List.cons_append, List.nil_append, List.append_nil, true_and, and_true, Nat.sub_zero, Nat.zero_le, true_implies, false_implies, implies_true, not_true_eq_false, not_false_eq_true, true_or, or_true]
theorem k91 {a : Int} : Call t 91 [vR 5, vI a] σ Q ↔ inR a ∧ inR (rdI σ 8 a) ∧ Q (.inl (some (vI (iAnd (rdI σ 8 a / 8) 31)))) σ := by
  simp only [x91_0, x91_8, x91_11, k96 (show lc 8 = 101 from rfl), k105, aft_l, aft_r, optL_s, optL_n, xgo_n, xgo_s, List.cons_append, List.nil_append, List.append_nil, true_and, and_true, Nat.sub_zero, Nat.zero_le, true_implies, false_implies, implies_true, not_true_eq_false, not_false_eq_true, true_or, or_true]
theorem k92 {a : Int} : Call t 92 [vR 5, vI a] σ Q ↔ inR a ∧ inR (rdI σ 8 a) ∧ Q (.inl (some (vI (iAnd (rdI σ 8 a / 256) 31)))) σ := by
  simp only [x92_0, x92_8, x92_11, k96 (show lc 8 = 101 from rfl), k106, aft_l, aft_r, optL_s, optL_n, xgo_n, xgo_s, List.cons_append, List.nil_append, List.append_nil, true_and, and_true, Nat.sub_zero, Nat.zero_le, true_implies, false_implies, implies_true, not_true_eq_false, not_false_eq_true, true_or, or_true]
theorem k93 {a : Int} : Call t 93 [vR 5, vI a] σ Q ↔ inR a ∧ inR (rdI σ 8 a) ∧ Q (.inl (some (vI (iAnd (rdI σ 8 a / 8192) 3)))) σ := by
  simp only [x93_0, x93_8, x93_11, k96 (show lc 8 = 101 from rfl), k107, aft_l, aft_r, optL_s, optL_n, xgo_n, xgo_s, List.cons_append, List.nil_append, List.append_nil, true_and, and_true, Nat.sub_zero, Nat.zero_le, true_implies, false_implies, implies_true, not_true_eq_false, not_false_eq_true, true_or, or_true]
theorem k94 {a : Int} : Call t 94 [vR 5, vI a] σ Q ↔ inR a ∧ Q (.inl (some (vI (rdI σ 9 a)))) σ := by
  simp only [x94_0, x94_8, k96 (show lc 9 = 101 from rfl), aft_l, aft_r, optL_s, optL_n, xgo_n, xgo_s, List.cons_append, List.nil_append, List.append_nil, true_and, and_true, Nat.sub_zero, Nat.zero_le, true_implies, false_implies, implies_true, not_true_eq_false, not_false_eq_true, true_or, or_true]
theorem k95 {a : Int} : Call t 95 [vR 5, vI a] σ Q ↔ inR a ∧ Q (.inl (some (vI (rdI σ 10 a)))) σ := by
  simp only [x95_0, x95_8, k96 (show lc 10 = 101 from rfl), aft_l, aft_r, optL_s, optL_n, xgo_n, xgo_s, List.cons_append, List.nil_append, List.append_nil, true_and, and_true, Nat.sub_zero, Nat.zero_le, true_implies, false_implies, implies_true, not_true_eq_false, not_false_eq_true, true_or, or_true]
/-! the draft -/
theorem k30 : Call t 30 [vR 3] σ Q ↔ Q (.inl none) (sI (sI (sI σ 3 1 0) 3 2 0) 3 3 0) := x30_0
theorem k32 : Call t 32 [vR 3] σ Q ↔ Q (.inl (some (vI (gI σ 3 1)))) σ := x32_0
theorem k33 : Call t 33 [vR 3] σ Q ↔ Q (.inl (some (vI (gI σ 3 2)))) σ := x33_0
theorem k34 : Call t 34 [vR 3] σ Q ↔ Q (.inl (some (vI (gI σ 3 3)))) σ := x34_0
theorem k35 {a : Int} : Call t 35 [vR 3, vI a] σ Q ↔ inR a ∧ Q (.inl (some (vI (rdI σ 4 a)))) σ := by
  simp only [x35_0, x35_8, k96 (show lc 4 = 101 from rfl), aft_l, aft_r, optL_s, optL_n, xgo_n, xgo_s, List.cons_append, List.nil_append, List.append_nil, true_and, and_true, Nat.sub_zero, Nat.zero_le, true_implies, false_implies, implies_true, not_true_eq_false, not_false_eq_true, true_or, or_true]
end LEAF2

