/-! sets in an int -/
theorem iOr_nat {a b : Nat} (ha : a < 2147483648) (hb : b < 2147483648) : iOr (a : Int) (b : Int) = ((a ||| b : Nat) : Int) := by
  have hl : a ||| b < 2 ^ 31 := Nat.or_lt_two_pow ha hb
  unfold iOr
  have e : (BitVec.ofInt 32 (a : Int) ||| BitVec.ofInt 32 (b : Int)).toNat = a ||| b := by
    rw [BitVec.toNat_or, bv_int (by omega) (by omega), bv_int (by omega) (by omega), Int.toNat_natCast, Int.toNat_natCast]
  rw [bv_toInt (by rw [e]; exact hl), e]
theorem iAnd_nat {a b : Nat} (ha : a < 2147483648) (hb : b < 2147483648) : iAnd (a : Int) (b : Int) = ((a &&& b : Nat) : Int) := by
  have hl : a &&& b < 2 ^ 31 := Nat.and_lt_two_pow _ hb
  unfold iAnd
  have e : (BitVec.ofInt 32 (a : Int) &&& BitVec.ofInt 32 (b : Int)).toNat = a &&& b := by
    rw [BitVec.toNat_and, bv_int (by omega) (by omega), bv_int (by omega) (by omega), Int.toNat_natCast, Int.toNat_natCast]
  rw [bv_toInt (by rw [e]; exact hl), e]
def IW (z : Int) (S : Int → Prop) : Prop := ∃ n : Nat, z = (n : Int) ∧ (n < 2147483648 ∧ ∀ t : Nat, t < 31 → (n.testBit t = true ↔ S t))
theorem IW_rng {z : Int} {S : Int → Prop} (h : IW z S) : 0 ≤ z ∧ z < 2147483648 := by
  obtain ⟨n, e, h1, _⟩ := h
  omega
theorem IW_inR {z : Int} {S : Int → Prop} (h : IW z S) : inR z := by have := IW_rng h; exact ⟨by omega, by omega⟩
theorem IW_congr {z : Int} {S S' : Int → Prop} (h : IW z S) (hS : ∀ t : Nat, t < 31 → (S t ↔ S' t)) : IW z S' := by
  obtain ⟨n, e, h1, h2⟩ := h
  exact ⟨n, e, h1, fun t ht => (h2 t ht).trans (hS t ht)⟩
theorem IW_eq {z z' : Int} {S : Int → Prop} (h : IW z S) (h' : IW z' S) : z = z' := by
  obtain ⟨n, e, h1, h2⟩ := h
  obtain ⟨n', e', h1', h2'⟩ := h'
  have : n = n' := by
    apply Nat.eq_of_testBit_eq
    intro i
    by_cases q : i < 31
    · have k := (h2 i q).trans (h2' i q).symm
      cases a : n.testBit i <;> cases b : n'.testBit i
      · rfl
      · rw [a, b] at k; exact absurd (k.mpr rfl) (by decide)
      · rw [a, b] at k; exact absurd (k.mp rfl) (by decide)
      · rfl
    · have p : 2147483648 ≤ 2 ^ i := Nat.pow_le_pow_right (n := 2) (by omega) (show 31 ≤ i by omega)
      rw [Nat.testBit_lt_two_pow (by omega), Nat.testBit_lt_two_pow (by omega)]
  rw [e, e', this]
theorem IW_0 : IW 0 (fun _ => False) := ⟨0, rfl, by omega, fun t _ => by simp⟩
theorem p2_nat (k : Nat) : (1 * 2 ^ k : Int) = ((2 ^ k : Nat) : Int) := by rw [Int.one_mul, Int.natCast_pow]; rfl
theorem IW_one {j : Int} (h0 : 0 ≤ j) (h1 : j < 31) : IW (1 * 2 ^ Int.toNat j) (fun t => t = j) := by
  have p : 2 ^ j.toNat < 2147483648 := Nat.pow_lt_pow_right (a := 2) (by omega) (show j.toNat < 31 by omega)
  refine ⟨2 ^ j.toNat, p2_nat _, p, fun t ht => ?_⟩
  rw [Nat.testBit_two_pow, decide_eq_true_eq]; omega
theorem IW_or {z w : Int} {S T : Int → Prop} (h : IW z S) (g : IW w T) : IW (iOr z w) (fun t => S t ∨ T t) := by
  obtain ⟨n, e, h1, h2⟩ := h
  obtain ⟨m, f, g1, g2⟩ := g
  refine ⟨n ||| m, by rw [e, f, iOr_nat h1 g1], Nat.or_lt_two_pow (n := 31) h1 g1, fun t ht => ?_⟩
  rw [Nat.testBit_or, Bool.or_eq_true, h2 t ht, g2 t ht]
theorem IW_and {z w : Int} {S T : Int → Prop} (h : IW z S) (g : IW w T) : IW (iAnd z w) (fun t => S t ∧ T t) := by
  obtain ⟨n, e, h1, h2⟩ := h
  obtain ⟨m, f, g1, g2⟩ := g
  refine ⟨n &&& m, by rw [e, f, iAnd_nat h1 g1], Nat.and_lt_two_pow (n := 31) _ g1, fun t ht => ?_⟩
  rw [Nat.testBit_and, Bool.and_eq_true, h2 t ht, g2 t ht]
theorem IW_tst {z : Int} {S : Int → Prop} (h : IW z S) {j : Int} (h0 : 0 ≤ j) (h1 : j < 31) : iAnd (z / 2 ^ Int.toNat j) 1 = 1 ↔ S j := by
  obtain ⟨n, e, h2, h3⟩ := h
  have p : 0 < 2 ^ j.toNat := Nat.pow_pos (by omega)
  have e1 : z / 2 ^ j.toNat = ((n / 2 ^ j.toNat : Nat) : Int) := by
    rw [e, Int.natCast_ediv, Int.natCast_pow]; rfl
  have hl : n / 2 ^ j.toNat ≤ n := Nat.div_le_self _ _
  have k := h3 j.toNat (by omega)
  rw [show ((j.toNat : Nat) : Int) = j by omega] at k
  rw [← k, e1, show (1 : Int) = ((1 : Nat) : Int) from rfl, iAnd_nat (by omega) (by omega), Nat.and_one_is_mod, Nat.testBit_eq_decide_div_mod_eq, decide_eq_true_eq]
  omega
theorem IW_tin {z : Int} {S : Int → Prop} (h : IW z S) {j : Int} (h0 : 0 ≤ j) (h1 : j < 31) : inR (iAnd (z / 2 ^ Int.toNat j) 1) := by
  obtain ⟨n, e, h2, h3⟩ := h
  have e1 : z / 2 ^ j.toNat = ((n / 2 ^ j.toNat : Nat) : Int) := by
    rw [e, Int.natCast_ediv, Int.natCast_pow]; rfl
  have hl : n / 2 ^ j.toNat ≤ n := Nat.div_le_self _ _
  rw [e1, show (1 : Int) = ((1 : Nat) : Int) from rfl, iAnd_nat (by omega) (by omega), Nat.and_one_is_mod]
  exact ⟨by omega, by omega⟩
noncomputable def nS (S : Int → Prop) : Nat → Nat
  | 0 => 0
  | n + 1 => nS S n ||| (if dcl (S n) = true then 2 ^ n else 0)
theorem nS_lt (S : Int → Prop) : ∀ n, nS S n < 2 ^ n
  | 0 => by show 0 < 2 ^ 0; omega
  | n + 1 => by
    show nS S n ||| _ < 2 ^ (n + 1)
    have h := nS_lt S n
    have p : 2 ^ n < 2 ^ (n + 1) := Nat.pow_lt_pow_right (by omega) (by omega)
    refine Nat.or_lt_two_pow (by omega) ?_
    split <;> omega
theorem nS_bit (S : Int → Prop) : ∀ n t : Nat, (nS S n).testBit t = true ↔ (t < n ∧ S t)
  | 0, t => by show Nat.testBit 0 t = true ↔ _; simp
  | n + 1, t => by
    show (nS S n ||| _).testBit t = true ↔ _
    rw [Nat.testBit_or, Bool.or_eq_true, nS_bit S n t]
    by_cases q : S n
    · rw [dcl_t q, if_pos rfl, Nat.testBit_two_pow, decide_eq_true_eq]
      constructor
      · rintro (⟨h, k⟩ | h)
        · exact ⟨by omega, k⟩
        · exact ⟨by omega, by rw [← h]; exact q⟩
      · rintro ⟨h, k⟩
        by_cases e : t = n
        · exact Or.inr e.symm
        · exact Or.inl ⟨by omega, k⟩
    · rw [dcl_f q, if_neg (by decide)]
      constructor
      · rintro (⟨h, k⟩ | h)
        · exact ⟨by omega, k⟩
        · simp at h
      · rintro ⟨h, k⟩
        by_cases e : t = n
        · rw [e] at k; exact absurd k q
        · exact Or.inl ⟨by omega, k⟩
/-- the int of a set -/
noncomputable def iW (S : Int → Prop) : Int := (nS S 31 : Int)
theorem IW_iW (S : Int → Prop) : IW (iW S) S := ⟨nS S 31, rfl, nS_lt S 31, fun t ht => (nS_bit S 31 t).trans ⟨fun h => h.2, fun h => ⟨ht, h⟩⟩⟩
theorem iW_of {z : Int} {S : Int → Prop} (h : IW z S) : z = iW S := IW_eq h (IW_iW S)
theorem iW_congr {S S' : Int → Prop} (h : ∀ t : Nat, t < 31 → (S t ↔ S' t)) : iW S = iW S' := iW_of (IW_congr (IW_iW S) h)
theorem iW_or (S S' : Int → Prop) : iOr (iW S) (iW S') = iW (fun t => S t ∨ S' t) := iW_of (IW_or (IW_iW S) (IW_iW S'))
theorem iW_one {j : Int} (h0 : 0 ≤ j) (h1 : j < 31) : 1 * 2 ^ Int.toNat j = iW (fun t => t = j) := iW_of (IW_one h0 h1)
theorem iW_0 {S : Int → Prop} (h : ∀ t : Nat, t < 31 → ¬ S t) : (0 : Int) = iW S := iW_of (IW_congr IW_0 (fun t ht => ⟨fun k => k.elim, fun k => h t ht k⟩))
/-! the law's questions: what is reached, ranks -/
section LQ3
variable {t : Nat} {σ : St} {Q : Res → St → Prop} {P : Pg} {xs : List Int} {lim : Int}
theorem tst7 {l : BitVec 64} {S : Int → Prop} (h : SW l S) {z : Int} (z0 : 0 ≤ z) (z1 : z ≤ 61) : (BitVec.sshiftRight l (sh6 z) &&& BitVec.ofInt 64 7 = BitVec.ofNat 64 0) ↔ ∀ t, z ≤ t → t < z + 3 → ¬ S t := by
  have hb : ∀ j, j < 3 → (BitVec.sshiftRight l (sh6 z) &&& BitVec.ofInt 64 7).getLsbD j = l.getLsbD (z.toNat + j) := fun j hj => by
    rw [BitVec.getLsbD_and, seven j (by omega), decide_eq_true hj, Bool.and_true, sh6_id z0 (by omega), BitVec.getLsbD_sshiftRight, if_pos (by omega), decide_eq_false (by omega)]
    rfl
  have h64 : ∀ t, z ≤ t → t < z + 3 → (l.getLsbD t.toNat = true ↔ S t) := fun t t0 t1 => by
    have := h t.toNat (by omega)
    rw [show ((t.toNat : Nat) : Int) = t by omega] at this; exact this
  constructor
  · intro e t t0 t1 k
    have := hb (t - z).toNat (by omega)
    rw [show z.toNat + (t - z).toNat = t.toNat by omega, (h64 t t0 t1).mpr k, e] at this
    simp at this
  · intro k
    apply BitVec.eq_of_getLsbD_eq
    intro i hi
    have e0 : (BitVec.ofNat 64 0).getLsbD i = false := by simp
    rw [e0]
    by_cases q : i < 3
    · rw [hb i q]
      cases w : l.getLsbD (z.toNat + i) with
      | false => rfl
      | true => exact absurd ((h64 (z + i) (by omega) (by omega)).mp (by rw [show (z + (i : Int)).toNat = z.toNat + i by omega]; exact w)) (k _ (by omega) (by omega))
    · rw [BitVec.getLsbD_and, seven i hi, decide_eq_false q, Bool.and_false]
/-- what the globals reach -/
def glR (P : Pg) (xs : List Int) (lim : Int) : Int → Prop := fun t => ∃ g, 0 ≤ g ∧ (g < 4 ∧ TC (im xs (Lf P xs lim)) g t)
def escS (P : Pg) (xs : List Int) (lim : Int) : Int → Prop := fun s => s < 8 ∧ ∃ t, (20 + 3 * s ≤ t ∧ t < 23 + 3 * s) ∧ glR P xs lim t
/-- when a fact may be asked for -/
def fAsk (P : Pg) (v w : Int) : Prop := (0 ≤ v ∧ v < 20) ∧ (0 ≤ w ∧ w < 20 + 3 * mny P 4 (-1))
/-- the number of rounds -/
def RDn (P : Pg) (ys : List Int) (lim : Int) (r : Int) : Prop := ∃ j : Nat, r = j ∧ ((∀ c u, Gr P ys lim (j + 1) c u → Gr P ys lim j c u) ∧ ∀ i, i < j → ∃ c u, Gr P ys lim (i + 1) c u ∧ ¬ Gr P ys lim i c u)
theorem RDn_uniq {P : Pg} {ys : List Int} {lim r r' : Int} (h : RDn P ys lim r) (h' : RDn P ys lim r') : r = r' := by
  obtain ⟨j, e, h1, h2⟩ := h
  obtain ⟨j', e', h1', h2'⟩ := h'
  rcases Nat.lt_trichotomy j j' with q | q | q
  · obtain ⟨c, u, k1, k2⟩ := h2' j q; exact absurd (h1 c u k1) k2
  · omega
  · obtain ⟨c, u, k1, k2⟩ := h2 j' q; exact absurd (h1' c u k1) k2
end LQ3

