/-! sets in an int -/
theorem iOr_nat {a b : Nat} (ha : a < 2147483648) (hb : b < 2147483648) : iOr (a : Int) (b : Int) = ((a ||| b : Nat) : Int) := by
  have hl : a ||| b < 2 ^ 31 := Nat.or_lt_two_pow ha hb
  unfold iOr
  have e : (BitVec.ofInt 32 (a : Int) ||| BitVec.ofInt 32 (b : Int)).toNat = a ||| b := by
    rw [BitVec.toNat_or, bv_int (by omega) (by omega), bv_int (by omega) (by omega), Int.toNat_natCast, Int.toNat_natCast]
  rw [bv_toInt (by rw [e]; exact hl), e]
theorem iAnd_nat {a b : Nat} (ha : a < 2147483648) (hb : b < 2147483648) : iAnd (a : Int) (b : Int) = ((a &&& b : Nat) : Int) := by
  have hl : a &&& b < 2 ^ 31 := Nat.and_lt_two_pow _ hb
  unfold iAnd
  have e : (BitVec.ofInt 32 (a : Int) &&& BitVec.ofInt 32 (b : Int)).toNat = a &&& b := by
    rw [BitVec.toNat_and, bv_int (by omega) (by omega), bv_int (by omega) (by omega), Int.toNat_natCast, Int.toNat_natCast]
  rw [bv_toInt (by rw [e]; exact hl), e]
def IW (z : Int) (S : Int → Prop) : Prop := ∃ n : Nat, z = (n : Int) ∧ (n < 2147483648 ∧ ∀ t : Nat, t < 31 → (n.testBit t = true ↔ S t))
theorem IW_rng {z : Int} {S : Int → Prop} (h : IW z S) : 0 ≤ z ∧ z < 2147483648 := by
  obtain ⟨n, e, h1, _⟩ := h
  omega
theorem IW_inR {z : Int} {S : Int → Prop} (h : IW z S) : inR z := by have := IW_rng h; exact ⟨by omega, by omega⟩
theorem IW_congr {z : Int} {S S' : Int → Prop} (h : IW z S) (hS : ∀ t : Nat, t < 31 → (S t ↔ S' t)) : IW z S' := by
  obtain ⟨n, e, h1, h2⟩ := h
  exact ⟨n, e, h1, fun t ht => (h2 t ht).trans (hS t ht)⟩
theorem IW_eq {z z' : Int} {S : Int → Prop} (h : IW z S) (h' : IW z' S) : z = z' := by
  obtain ⟨n, e, h1, h2⟩ := h
  obtain ⟨n', e', h1', h2'⟩ := h'
  have : n = n' := by
    apply Nat.eq_of_testBit_eq
    intro i
    by_cases q : i < 31
    · have k := (h2 i q).trans (h2' i q).symm
      cases a : n.testBit i <;> cases b : n'.testBit i
      · rfl
      · rw [a, b] at k; exact absurd (k.mpr rfl) (by decide)
      · rw [a, b] at k; exact absurd (k.mp rfl) (by decide)
      · rfl
    · have p : 2147483648 ≤ 2 ^ i := Nat.pow_le_pow_right (n := 2) (by omega) (show 31 ≤ i by omega)
      rw [Nat.testBit_lt_two_pow (by omega), Nat.testBit_lt_two_pow (by omega)]
  rw [e, e', this]
theorem IW_0 : IW 0 (fun _ => False) := ⟨0, rfl, by omega, fun t _ => by simp⟩
theorem p2_nat (k : Nat) : (1 * 2 ^ k : Int) = ((2 ^ k : Nat) : Int) := by rw [Int.one_mul, Int.natCast_pow]; rfl
theorem IW_one {j : Int} (h0 : 0 ≤ j) (h1 : j < 31) : IW (1 * 2 ^ Int.toNat j) (fun t => t = j) := by
  have p : 2 ^ j.toNat < 2147483648 := Nat.pow_lt_pow_right (a := 2) (by omega) (show j.toNat < 31 by omega)
  refine ⟨2 ^ j.toNat, p2_nat _, p, fun t ht => ?_⟩
  rw [Nat.testBit_two_pow, decide_eq_true_eq]; omega
theorem IW_or {z w : Int} {S T : Int → Prop} (h : IW z S) (g : IW w T) : IW (iOr z w) (fun t => S t ∨ T t) := by
  obtain ⟨n, e, h1, h2⟩ := h
  obtain ⟨m, f, g1, g2⟩ := g
  refine ⟨n ||| m, by rw [e, f, iOr_nat h1 g1], Nat.or_lt_two_pow (n := 31) h1 g1, fun t ht => ?_⟩
  rw [Nat.testBit_or, Bool.or_eq_true, h2 t ht, g2 t ht]
theorem IW_and {z w : Int} {S T : Int → Prop} (h : IW z S) (g : IW w T) : IW (iAnd z w) (fun t => S t ∧ T t) := by
  obtain ⟨n, e, h1, h2⟩ := h
  obtain ⟨m, f, g1, g2⟩ := g
  refine ⟨n &&& m, by rw [e, f, iAnd_nat h1 g1], Nat.and_lt_two_pow (n := 31) _ g1, fun t ht => ?_⟩
  rw [Nat.testBit_and, Bool.and_eq_true, h2 t ht, g2 t ht]
theorem IW_tst {z : Int} {S : Int → Prop} (h : IW z S) {j : Int} (h0 : 0 ≤ j) (h1 : j < 31) : iAnd (z / 2 ^ Int.toNat j) 1 = 1 ↔ S j := by
  obtain ⟨n, e, h2, h3⟩ := h
  have p : 0 < 2 ^ j.toNat := Nat.pow_pos (by omega)
  have e1 : z / 2 ^ j.toNat = ((n / 2 ^ j.toNat : Nat) : Int) := by
    rw [e, Int.natCast_ediv, Int.natCast_pow]; rfl
  have hl : n / 2 ^ j.toNat ≤ n := Nat.div_le_self _ _
  have k := h3 j.toNat (by omega)
  rw [show ((j.toNat : Nat) : Int) = j by omega] at k
  rw [← k, e1, show (1 : Int) = ((1 : Nat) : Int) from rfl, iAnd_nat (by omega) (by omega), Nat.and_one_is_mod, Nat.testBit_eq_decide_div_mod_eq, decide_eq_true_eq]
  omega
theorem IW_tin {z : Int} {S : Int → Prop} (h : IW z S) {j : Int} (h0 : 0 ≤ j) (h1 : j < 31) : inR (iAnd (z / 2 ^ Int.toNat j) 1) := by
  obtain ⟨n, e, h2, h3⟩ := h
  have e1 : z / 2 ^ j.toNat = ((n / 2 ^ j.toNat : Nat) : Int) := by
    rw [e, Int.natCast_ediv, Int.natCast_pow]; rfl
  have hl : n / 2 ^ j.toNat ≤ n := Nat.div_le_self _ _
  rw [e1, show (1 : Int) = ((1 : Nat) : Int) from rfl, iAnd_nat (by omega) (by omega), Nat.and_one_is_mod]
  exact ⟨by omega, by omega⟩
noncomputable def nS (S : Int → Prop) : Nat → Nat
  | 0 => 0
  | n + 1 => nS S n ||| (if dcl (S n) = true then 2 ^ n else 0)
theorem nS_lt (S : Int → Prop) : ∀ n, nS S n < 2 ^ n
  | 0 => by show 0 < 2 ^ 0; omega
  | n + 1 => by
    show nS S n ||| _ < 2 ^ (n + 1)
    have h := nS_lt S n
    have p : 2 ^ n < 2 ^ (n + 1) := Nat.pow_lt_pow_right (by omega) (by omega)
    refine Nat.or_lt_two_pow (by omega) ?_
    split <;> omega
theorem nS_bit (S : Int → Prop) : ∀ n t : Nat, (nS S n).testBit t = true ↔ (t < n ∧ S t)
  | 0, t => by show Nat.testBit 0 t = true ↔ _; simp
  | n + 1, t => by
    show (nS S n ||| _).testBit t = true ↔ _
    rw [Nat.testBit_or, Bool.or_eq_true, nS_bit S n t]
    by_cases q : S n
    · rw [dcl_t q, if_pos rfl, Nat.testBit_two_pow, decide_eq_true_eq]
      constructor
      · rintro (⟨h, k⟩ | h)
        · exact ⟨by omega, k⟩
        · exact ⟨by omega, by rw [← h]; exact q⟩
      · rintro ⟨h, k⟩
        by_cases e : t = n
        · exact Or.inr e.symm
        · exact Or.inl ⟨by omega, k⟩
    · rw [dcl_f q, if_neg (by decide)]
      constructor
      · rintro (⟨h, k⟩ | h)
        · exact ⟨by omega, k⟩
        · simp at h
      · rintro ⟨h, k⟩
        by_cases e : t = n
        · rw [e] at k; exact absurd k q
        · exact Or.inl ⟨by omega, k⟩
/-- the int of a set -/
noncomputable def iW (S : Int → Prop) : Int := (nS S 31 : Int)
theorem IW_iW (S : Int → Prop) : IW (iW S) S := ⟨nS S 31, rfl, nS_lt S 31, fun t ht => (nS_bit S 31 t).trans ⟨fun h => h.2, fun h => ⟨ht, h⟩⟩⟩
theorem iW_of {z : Int} {S : Int → Prop} (h : IW z S) : z = iW S := IW_eq h (IW_iW S)
theorem iW_congr {S S' : Int → Prop} (h : ∀ t : Nat, t < 31 → (S t ↔ S' t)) : iW S = iW S' := iW_of (IW_congr (IW_iW S) h)
theorem iW_or (S S' : Int → Prop) : iOr (iW S) (iW S') = iW (fun t => S t ∨ S' t) := iW_of (IW_or (IW_iW S) (IW_iW S'))
theorem iW_one {j : Int} (h0 : 0 ≤ j) (h1 : j < 31) : 1 * 2 ^ Int.toNat j = iW (fun t => t = j) := iW_of (IW_one h0 h1)
theorem iW_0 {S : Int → Prop} (h : ∀ t : Nat, t < 31 → ¬ S t) : (0 : Int) = iW S := iW_of (IW_congr IW_0 (fun t ht => ⟨fun k => k.elim, fun k => h t ht k⟩))
/-! the law's questions: what is reached, ranks -/
section LQ3
variable {t : Nat} {σ : St} {Q : Res → St → Prop} {P : Pg} {xs : List Int} {lim : Int}
theorem rdi (hP : okP P) (hl : 0 ≤ lim ∧ lim ≤ 2) (hC : isC P lim xs) (h : FQ P lim xs σ) {B A : Int → Prop} (hq : ∀ a1 a3 a5, wp t 234 60 [some (vR 53), a1, some (vL (wS (fun t => A t ∨ ∃ j : Int, 0 ≤ j ∧ (j < 44 ∧ (B j ∧ im xs (Lf P xs lim) j t))))), a3, some (vL (wS B)), a5, some (vI 44)] [] σ Q) :
    ∀ (d : Nat) (i : Int) (a1 a3 a5 : Option AV), 0 ≤ i → i + d = 44 → wp t 234 22 [some (vR 53), a1, some (vL (wS (fun t => A t ∨ ∃ j : Int, 0 ≤ j ∧ (j < i ∧ (B j ∧ im xs (Lf P xs lim) j t))))), a3, some (vL (wS B)), a5, some (vI i)] [] σ Q
  | 0, i, a1, a3, a5, i0, hd => by
    have e : i = 44 := by omega
    subst e
    rw [x234_22]
    exact ⟨⟨by omega, by omega⟩, fun a => by omega, fun _ => hq a1 a3 a5⟩
  | d + 1, i, a1, a3, a5, i0, hd => by
    have hs : sh6 i = i.toNat := sh6_id i0 (by omega)
    have hb : (lCmp (BitVec.sshiftRight (wS B) (sh6 i) &&& BitVec.ofNat 64 1) (BitVec.ofNat 64 1) = 0) ↔ B i := by
      rw [lCmp_eq, bb_and1', hs, bb_sar _ (by omega), SW_wS B i.toNat (by omega), show ((i.toNat : Nat) : Int) = i by omega]
    rw [x234_22]
    refine ⟨⟨by omega, by omega⟩, fun _ => ?_, fun a => by omega⟩
    rw [x234_29, hb]
    refine ⟨lCmp_in, fun a => ?_, fun a => ?_⟩
    · simp only [x234_42, e227 hP hl hC h i0 (show i < 44 by omega), x234_48, x234_52, wS_or, aft_l, aft_r, optL_s, optL_n, xgo_n, xgo_s, List.cons_append, List.nil_append, List.append_nil, true_and, and_true, Nat.sub_zero, Nat.zero_le, true_implies, false_implies, implies_true, not_true_eq_false, not_false_eq_true, true_or, or_true]
      rw [show wS (fun t => (A t ∨ ∃ j : Int, 0 ≤ j ∧ (j < i ∧ (B j ∧ im xs (Lf P xs lim) j t))) ∨ im xs (Lf P xs lim) i t) = wS (fun t => A t ∨ ∃ j : Int, 0 ≤ j ∧ (j < i + 1 ∧ (B j ∧ im xs (Lf P xs lim) j t))) from wS_congr (fun t ht => ⟨fun k => by
        rcases k with (k | ⟨j, k0, k1, k2⟩) | k
        · exact Or.inl k
        · exact Or.inr ⟨j, k0, by omega, k2⟩
        · exact Or.inr ⟨i, i0, by omega, a, k⟩, fun k => by
        rcases k with k | ⟨j, k0, k1, k2⟩
        · exact Or.inl (Or.inl k)
        · by_cases z : j = i
          · rw [z] at k2; exact Or.inr k2.2
          · exact Or.inl (Or.inr ⟨j, k0, by omega, k2⟩)⟩)]
      exact rdi hP hl hC h hq d (i + 1) _ _ _ (by omega) (by omega)
    · have e0 : BitVec.ofNat 64 0 = wS (fun _ => False) := wS_of SW_0
      simp only [x234_51, x234_52, aft_l, aft_r, optL_s, optL_n, xgo_n, xgo_s, List.cons_append, List.nil_append, List.append_nil, true_and, and_true, Nat.sub_zero, Nat.zero_le, true_implies, false_implies, implies_true, not_true_eq_false, not_false_eq_true, true_or, or_true]
      rw [e0, wS_or, show wS (fun t => (A t ∨ ∃ j : Int, 0 ≤ j ∧ (j < i ∧ (B j ∧ im xs (Lf P xs lim) j t))) ∨ False) = wS (fun t => A t ∨ ∃ j : Int, 0 ≤ j ∧ (j < i + 1 ∧ (B j ∧ im xs (Lf P xs lim) j t))) from wS_congr (fun t ht => ⟨fun k => by
        rcases k with (k | ⟨j, k0, k1, k2⟩) | k
        · exact Or.inl k
        · exact Or.inr ⟨j, k0, by omega, k2⟩
        · exact k.elim, fun k => by
        rcases k with k | ⟨j, k0, k1, k2⟩
        · exact Or.inl (Or.inl k)
        · by_cases z : j = i
          · rw [z] at k2; exact absurd k2.1 a
          · exact Or.inl (Or.inr ⟨j, k0, by omega, k2⟩)⟩)]
      exact rdi hP hl hC h hq d (i + 1) _ _ _ (by omega) (by omega)
theorem rdo (hP : okP P) (hl : 0 ≤ lim ∧ lim ≤ 2) (hC : isC P lim xs) (h : FQ P lim xs σ) {v : Int} (hq : Q (.inl (some (vL (wS (TC (im xs (Lf P xs lim)) v))))) σ) :
    ∀ (d : Nat) (B0 B : Int → Prop) (N : Int) (a1 a3 a5 a6 : Option AV), N = pw (wS B) → 2 * (64 - N) + (if wS B0 = wS B then 0 else 1) < d → (∀ b, B b → TC (im xs (Lf P xs lim)) v b) → (∀ b, im xs (Lf P xs lim) v b → B b) → (∀ a b, B0 a → im xs (Lf P xs lim) a b → B b) → wp t 234 9 [some (vR 53), a1, some (vL (wS B)), a3, some (vL (wS B0)), a5, a6] [] σ Q
  | 0, B0, B, N, a1, a3, a5, a6, hN, hd, _, _, _ => by
    have := (pw_rng (wS B)).2
    split at hd <;> omega
  | d + 1, B0, B, N, a1, a3, a5, a6, hN, hd, h1, h2, h3 => by
    have hx := xok_of hP hC
    have h44 : ∀ a b, im xs (Lf P xs lim) a b → (0 ≤ a ∧ a < 44) ∧ (0 ≤ b ∧ b < 44) := fun a b k => im_44 hx (Lf_okF hP hC) k
    have t44 : ∀ b, TC (im xs (Lf P xs lim)) v b → 0 ≤ b ∧ b < 44 := fun b k => TC_sub k (fun t k => (h44 _ _ k).2) (fun a b _ k => (h44 _ _ k).2)
    rw [x234_9, lCmp_eq]
    refine ⟨lCmp_in, fun e => ?_, fun e => ?_⟩
    · rw [x234_63, show wS B = wS (TC (im xs (Lf P xs lim)) v) from wS_congr (fun t ht => ⟨fun k => h1 t k, fun k => by
        have key : ∀ a, 0 ≤ a → a < 64 → (B0 a ↔ B a) := fun a a0 a1 => by
          have k1 := SW_wS B0 a.toNat (by omega)
          have k2 := SW_wS B a.toNat (by omega)
          rw [show ((a.toNat : Nat) : Int) = a by omega] at k1 k2
          rw [← k1, ← k2, e]
        refine (TC_sub (S := fun b => (0 ≤ b ∧ b < 44) ∧ B b) k (fun t k => ⟨(h44 _ _ k).2, h2 t k⟩) (fun a b ka kb => ⟨(h44 _ _ kb).2, h3 a b ((key a ka.1.1 (by omega)).mpr ka.2) kb⟩)).2⟩)]
      exact hq
    · rw [if_neg e] at hd
      rw [x234_16]
      have start : wS B = wS (fun t => B t ∨ ∃ j : Int, 0 ≤ j ∧ (j < 0 ∧ (B j ∧ im xs (Lf P xs lim) j t))) := wS_congr (fun t ht => ⟨Or.inl, fun k => k.resolve_right (fun ⟨j, k0, k1, _⟩ => by omega)⟩)
      have fin : wS (fun t => B t ∨ ∃ j : Int, 0 ≤ j ∧ (j < 44 ∧ (B j ∧ im xs (Lf P xs lim) j t))) = wS (fun t => B t ∨ ∃ j, B j ∧ im xs (Lf P xs lim) j t) := wS_congr (fun t ht => ⟨fun k => k.elim Or.inl (fun ⟨j, k0, k1, k2⟩ => Or.inr ⟨j, k2⟩), fun k => k.elim Or.inl (fun ⟨j, k2⟩ => Or.inr ⟨j, by have := t44 j (h1 j k2.1); omega, by have := t44 j (h1 j k2.1); omega, k2⟩)⟩)
      have step : wp t 234 22 [some (vR 53), a1, some (vL (wS (fun t => B t ∨ ∃ j : Int, 0 ≤ j ∧ (j < 0 ∧ (B j ∧ im xs (Lf P xs lim) j t))))), lhead a3, some (vL (wS B)), none, some (vI 0)] [] σ Q := rdi hP hl hC h (fun b1 b3 b5 => by
        rw [x234_60, fin]
        have hle : ∀ j : Nat, (wS B).getLsbD j = true → (wS (fun t => B t ∨ ∃ j, B j ∧ im xs (Lf P xs lim) j t)).getLsbD j = true := fun j k => by
          by_cases hj : j < 64
          · exact (SW_wS _ j hj).mpr (Or.inl ((SW_wS B j hj).mp k))
          · rw [BitVec.getLsbD_of_ge _ _ (by omega)] at k; cases k
        have hlt := pw_le hle
        refine rdo hP hl hC h hq d B _ (pw (wS (fun t => B t ∨ ∃ j, B j ∧ im xs (Lf P xs lim) j t))) _ _ _ _ rfl ?_ (fun b k => k.elim (h1 b) (fun ⟨j, k1, k2⟩ => TC_trans (h1 j k1) (TC_base k2))) (fun b k => Or.inl (h2 b k)) (fun a b k1 k2 => Or.inr ⟨a, k1, k2⟩)
        by_cases q : wS B = wS (fun t => B t ∨ ∃ j, B j ∧ im xs (Lf P xs lim) j t)
        · rw [if_pos q, ← q]; omega
        · rw [if_neg q]
          have : ¬ pw (wS (fun t => B t ∨ ∃ j, B j ∧ im xs (Lf P xs lim) j t)) ≤ pw (wS B) := fun k => q (pw_eq hle k)
          omega) 44 0 a1 (lhead a3) none (by omega) (by omega)
      rw [← start] at step
      exact step
theorem rd0 (hP : okP P) (hl : 0 ≤ lim ∧ lim ≤ 2) (hC : isC P lim xs) (h : FQ P lim xs σ) {v : Int} {a1 a2 a3 a4 a5 a6 : Option AV} (hq : Q (.inl (some (vL (wS (TC (im xs (Lf P xs lim)) v))))) σ) : wp t 234 5 [some (vR 53), a1, a2, a3, a4, a5, a6] [vL (wS (im xs (Lf P xs lim) v))] σ Q := by
  have e0 : BitVec.ofNat 64 0 = wS (fun _ => False) := wS_of SW_0
  have hr := pw_rng (wS (im xs (Lf P xs lim) v))
  rw [x234_5, e0]
  exact rdo hP hl hC h hq 200 (fun _ => False) (im xs (Lf P xs lim) v) _ _ _ _ _ rfl (by split <;> omega) (fun b k => TC_base k) (fun b k => k) (fun a b k => k.elim)
theorem e234 (hP : okP P) (hl : 0 ≤ lim ∧ lim ≤ 2) (hC : isC P lim xs) (h : FQ P lim xs σ) {v : Int} (v0 : 0 ≤ v) (v1 : v < 44) : Call t 234 [vR 53, vI v] σ Q ↔ Q (.inl (some (vL (wS (TC (im xs (Lf P xs lim)) v))))) σ := Call_iff (fun Q hq => by
  simp only [x234_0, e227 hP hl hC h v0 v1, aft_l, aft_r, optL_s, optL_n, xgo_n, xgo_s, List.cons_append, List.nil_append, List.append_nil, true_and, and_true, Nat.sub_zero, Nat.zero_le, true_implies, false_implies, implies_true, not_true_eq_false, not_false_eq_true, true_or, or_true]
  exact rd0 hP hl hC h hq)
theorem c234 (hP : okP P) (hl : 0 ≤ lim ∧ lim ≤ 2) (hC : isC P lim xs) (h : LQ P lim xs σ) {v : Int} (v0 : 0 ≤ v) (v1 : v < 44) (hq : ∀ σ', FQ P lim xs σ' → fr vM σ σ' → Q (.inl (some (vL (wS (TC (im xs (Lf P xs lim)) v))))) σ') : Call t 234 [vR 53, vI v] σ Q := by
  rw [x234_0]
  refine c227 hP hl hC h v0 v1 (fun σ1 g1 g2 => ?_)
  simp only [aft_l, aft_r, optL_s, optL_n, xgo_n, xgo_s, List.cons_append, List.nil_append, List.append_nil, true_and, and_true, Nat.sub_zero, Nat.zero_le, true_implies, false_implies, implies_true, not_true_eq_false, not_false_eq_true, true_or, or_true]
  exact rd0 hP hl hC g1 (hq σ1 g1 g2)
/-- reach -/
theorem c235 (hP : okP P) (hl : 0 ≤ lim ∧ lim ≤ 2) (hC : isC P lim xs) (h : LQ P lim xs σ) {v : Int} (hv : inR v) (h0 : ¬ (0 ≤ v ∧ v < 20) → Q (.inl (some (vL (BitVec.ofInt 64 0)))) (sI σ 53 0 1))
    (h1 : (0 ≤ v ∧ v < 20) → ∀ σ', FQ P lim xs σ' → gI σ' 53 0 = 0 → fr qM σ σ' → Q (.inl (some (vL (wS (TC (im xs (Lf P xs lim)) v))))) σ') : Call t 235 [vR 53, vI v] σ Q := by
  simp only [x235_0, x235_4, e180 hv, eq_true (b2i_in _), b2i_0, aft_l, aft_r, optL_s, optL_n, xgo_n, xgo_s, List.cons_append, List.nil_append, List.append_nil, true_and, and_true, Nat.sub_zero, Nat.zero_le, true_implies, false_implies, implies_true, not_true_eq_false, not_false_eq_true, true_or, or_true]
  by_cases q : 0 ≤ v ∧ v < 20
  · rw [dcl_t q]
    refine ⟨fun a => (by cases a), fun _ => ?_⟩
    rw [x235_14]
    refine c234 hP hl hC (LQ_fr h q0 qK0) q.1 (by omega) (fun σ1 g1 g2 => ?_)
    simp only [x235_24, aft_l, aft_r, optL_s, optL_n, xgo_n, xgo_s, List.cons_append, List.nil_append, List.append_nil, true_and, and_true, Nat.sub_zero, Nat.zero_le, true_implies, false_implies, implies_true, not_true_eq_false, not_false_eq_true, true_or, or_true]
    exact h1 q σ1 g1 (frq0 g2).1 (frq0 g2).2
  · rw [dcl_f q]
    refine ⟨fun _ => ?_, fun a => absurd rfl a⟩
    simp only [x235_7, x235_12, e175, (show inR (0 : Int) = True from eq_true ⟨by decide, by decide⟩), aft_l, aft_r, optL_s, optL_n, xgo_n, xgo_s, List.cons_append, List.nil_append, List.append_nil, true_and, and_true, Nat.sub_zero, Nat.zero_le, true_implies, false_implies, implies_true, not_true_eq_false, not_false_eq_true, true_or, or_true]
    exact h0 q
theorem tst7 {l : BitVec 64} {S : Int → Prop} (h : SW l S) {z : Int} (z0 : 0 ≤ z) (z1 : z ≤ 61) : (BitVec.sshiftRight l (sh6 z) &&& BitVec.ofInt 64 7 = BitVec.ofNat 64 0) ↔ ∀ t, z ≤ t → t < z + 3 → ¬ S t := by
  have hb : ∀ j, j < 3 → (BitVec.sshiftRight l (sh6 z) &&& BitVec.ofInt 64 7).getLsbD j = l.getLsbD (z.toNat + j) := fun j hj => by
    rw [BitVec.getLsbD_and, seven j (by omega), decide_eq_true hj, Bool.and_true, sh6_id z0 (by omega), BitVec.getLsbD_sshiftRight, if_pos (by omega), decide_eq_false (by omega)]
    rfl
  have h64 : ∀ t, z ≤ t → t < z + 3 → (l.getLsbD t.toNat = true ↔ S t) := fun t t0 t1 => by
    have := h t.toNat (by omega)
    rw [show ((t.toNat : Nat) : Int) = t by omega] at this; exact this
  constructor
  · intro e t t0 t1 k
    have := hb (t - z).toNat (by omega)
    rw [show z.toNat + (t - z).toNat = t.toNat by omega, (h64 t t0 t1).mpr k, e] at this
    simp at this
  · intro k
    apply BitVec.eq_of_getLsbD_eq
    intro i hi
    have e0 : (BitVec.ofNat 64 0).getLsbD i = false := by simp
    rw [e0]
    by_cases q : i < 3
    · rw [hb i q]
      cases w : l.getLsbD (z.toNat + i) with
      | false => rfl
      | true => exact absurd ((h64 (z + i) (by omega) (by omega)).mp (by rw [show (z + (i : Int)).toNat = z.toNat + i by omega]; exact w)) (k _ (by omega) (by omega))
    · rw [BitVec.getLsbD_and, seven i hi, decide_eq_false q, Bool.and_false]
/-- what the globals reach -/
def glR (P : Pg) (xs : List Int) (lim : Int) : Int → Prop := fun t => ∃ g, 0 ≤ g ∧ (g < 4 ∧ TC (im xs (Lf P xs lim)) g t)
def escS (P : Pg) (xs : List Int) (lim : Int) : Int → Prop := fun s => s < 8 ∧ ∃ t, (20 + 3 * s ≤ t ∧ t < 23 + 3 * s) ∧ glR P xs lim t
theorem esl {R : Int → Prop} (hq : Q (.inl (some (vI (iW (fun s => s < 8 ∧ ∃ t, (20 + 3 * s ≤ t ∧ t < 23 + 3 * s) ∧ R t))))) σ) :
    ∀ (d : Nat) (i : Int) (a0 a2 : Option AV), 0 ≤ i → i + d = 8 → wp t 236 34 [a0, some (vL (wS R)), a2, some (vI (iW (fun s => s < i ∧ ∃ t, (20 + 3 * s ≤ t ∧ t < 23 + 3 * s) ∧ R t))), some (vI i)] [] σ Q
  | 0, i, a0, a2, i0, hd => by
    have e : i = 8 := by omega
    subst e
    rw [x236_34]
    refine ⟨⟨by omega, by omega⟩, fun a => by omega, fun _ => ?_⟩
    rw [x236_76]; exact hq
  | d + 1, i, a0, a2, i0, hd => by
    have hb := tst7 (SW_wS R) (z := 20 + 3 * i) (by omega) (by omega)
    rw [x236_34]
    refine ⟨⟨by omega, by omega⟩, fun _ => ?_, fun a => by omega⟩
    rw [x236_41, lCmp_eq, hb]
    refine ⟨lCmp_in, fun a => ?_, fun a => ?_⟩
    · simp only [x236_67, x236_68, aft_l, aft_r, optL_s, optL_n, xgo_n, xgo_s, List.cons_append, List.nil_append, List.append_nil, true_and, and_true, Nat.sub_zero, Nat.zero_le, true_implies, false_implies, implies_true, not_true_eq_false, not_false_eq_true, true_or, or_true]
      rw [iW_0 (S := fun _ => False) (fun t ht k => k), iW_or, show iW (fun t => (t < i ∧ ∃ t', (20 + 3 * t ≤ t' ∧ t' < 23 + 3 * t) ∧ R t') ∨ False) = iW (fun s => s < i + 1 ∧ ∃ t, (20 + 3 * s ≤ t ∧ t < 23 + 3 * s) ∧ R t) from iW_congr (fun s hs => ⟨fun k => by
        obtain ⟨k1, k2⟩ := k.resolve_right (fun k => k)
        exact ⟨by omega, k2⟩, fun ⟨k1, t, k2, k3⟩ => by
        by_cases z : (s : Int) = i
        · rw [z] at k2; exact absurd k3 (a t (by omega) (by omega))
        · exact Or.inl ⟨by omega, t, k2, k3⟩⟩)]
      exact esl hq d (i + 1) _ _ (by omega) (by omega)
    · have hex : ∃ t, (20 + 3 * i ≤ t ∧ t < 23 + 3 * i) ∧ R t := by
        apply Classical.byContradiction
        intro hno
        exact a (fun t t0 t1 k => hno ⟨t, ⟨t0, by omega⟩, k⟩)
      simp only [x236_60, x236_68, aft_l, aft_r, optL_s, optL_n, xgo_n, xgo_s, List.cons_append, List.nil_append, List.append_nil, true_and, and_true, Nat.sub_zero, Nat.zero_le, true_implies, false_implies, implies_true, not_true_eq_false, not_false_eq_true, true_or, or_true]
      rw [iW_one i0 (by omega), iW_or, show iW (fun t => (t < i ∧ ∃ t', (20 + 3 * t ≤ t' ∧ t' < 23 + 3 * t) ∧ R t') ∨ t = i) = iW (fun s => s < i + 1 ∧ ∃ t, (20 + 3 * s ≤ t ∧ t < 23 + 3 * s) ∧ R t) from iW_congr (fun s hs => ⟨fun k => by
        rcases k with ⟨k1, k2⟩ | k
        · exact ⟨by omega, k2⟩
        · rw [k]; exact ⟨by omega, hex⟩, fun ⟨k1, k2⟩ => by
        by_cases z : (s : Int) = i
        · exact Or.inr z
        · exact Or.inl ⟨by omega, k2⟩⟩)]
      exact ⟨⟨by omega, by omega⟩, esl hq d (i + 1) _ _ (by omega) (by omega)⟩
/-- escapingSites -/
theorem c236 (hP : okP P) (hl : 0 ≤ lim ∧ lim ≤ 2) (hC : isC P lim xs) (h : LQ P lim xs σ) (hq : ∀ σ', FQ P lim xs σ' → gI σ' 53 0 = 0 → fr qM σ σ' → Q (.inl (some (vI (iW (escS P xs lim))))) σ') : Call t 236 [vR 53] σ Q := by
  rw [x236_0]
  refine c234 hP hl hC (LQ_fr h q0 qK0) (by omega) (by omega) (fun σ1 g1 g2 => ?_)
  have fin := hq σ1 g1 (frq0 g2).1 (frq0 g2).2
  simp only [x236_10, e234 hP hl hC g1 (show (0 : Int) ≤ 1 by omega) (show (1 : Int) < 44 by omega), x236_15, e234 hP hl hC g1 (show (0 : Int) ≤ 2 by omega) (show (2 : Int) < 44 by omega), x236_21, e234 hP hl hC g1 (show (0 : Int) ≤ 3 by omega) (show (3 : Int) < 44 by omega), x236_27, wS_or, aft_l, aft_r, optL_s, optL_n, xgo_n, xgo_s, List.cons_append, List.nil_append, List.append_nil, true_and, and_true, Nat.sub_zero, Nat.zero_le, true_implies, false_implies, implies_true, not_true_eq_false, not_false_eq_true, true_or, or_true]
  rw [show wS (fun t => ((TC (im xs (Lf P xs lim)) 0 t ∨ TC (im xs (Lf P xs lim)) 1 t) ∨ TC (im xs (Lf P xs lim)) 2 t) ∨ TC (im xs (Lf P xs lim)) 3 t) = wS (glR P xs lim) from wS_congr (fun t ht => ⟨fun k => by
    rcases k with ((k | k) | k) | k
    · exact ⟨0, by omega, by omega, k⟩
    · exact ⟨1, by omega, by omega, k⟩
    · exact ⟨2, by omega, by omega, k⟩
    · exact ⟨3, by omega, by omega, k⟩, fun ⟨g, g0, g1, k⟩ => by
    have : g = 0 ∨ g = 1 ∨ g = 2 ∨ g = 3 := by omega
    rcases this with e | e | e | e
    · rw [e] at k; exact Or.inl (Or.inl (Or.inl k))
    · rw [e] at k; exact Or.inl (Or.inl (Or.inr k))
    · rw [e] at k; exact Or.inl (Or.inr k)
    · rw [e] at k; exact Or.inr k⟩)]
  have := esl (t := t) (σ := σ1) (Q := Q) (R := glR P xs lim) fin 8 0 (lhead (some (vR 53))) none (by omega) (by omega)
  rw [← iW_0 (S := fun s => s < 0 ∧ ∃ t, (20 + 3 * s ≤ t ∧ t < 23 + 3 * s) ∧ glR P xs lim t) (fun t ht k => by omega)] at this
  exact this
theorem e237 (h : LPr σ P) (hP : okP P) {i : Int} (hi : inR i) : Call t 237 [vR 53, vI i] σ Q ↔ Q (.inl (some (vI (b2i (dcl (0 ≤ i ∧ i < 20 + 3 * mny P 4 (-1))))))) σ := Call_iff (fun Q hq => by
  have hm := m8_rng hP
  rw [x237_0]
  refine ⟨hi, fun a => ?_, fun a => ?_⟩
  · rw [dcl_f (by omega), b2i_f] at hq
    rw [x237_21, x237_22]; exact ⟨Or.inl rfl, hq⟩
  · simp only [x237_4, e203 h hP, x237_12, aft_l, aft_r, optL_s, optL_n, xgo_n, xgo_s, List.cons_append, List.nil_append, List.append_nil, true_and, and_true, Nat.sub_zero, Nat.zero_le, true_implies, false_implies, implies_true, not_true_eq_false, not_false_eq_true, true_or, or_true]
    refine ⟨⟨hi, ⟨by omega, by omega⟩⟩, fun b => ?_, fun b => ?_⟩
    · rw [dcl_t (by omega), b2i_t] at hq
      rw [x237_17, x237_22]; exact ⟨Or.inr rfl, hq⟩
    · rw [dcl_f (by omega), b2i_f] at hq
      rw [x237_21, x237_22]; exact ⟨Or.inl rfl, hq⟩)
/-- when a fact may be asked for -/
def fAsk (P : Pg) (v w : Int) : Prop := (0 ≤ v ∧ v < 20) ∧ (0 ≤ w ∧ w < 20 + 3 * mny P 4 (-1))
/-- factAt -/
theorem c238 (hP : okP P) (hl : 0 ≤ lim ∧ lim ≤ 2) (hC : isC P lim xs) {ys : List Int} (hY : isC P 0 ys) (h : LQ P lim xs σ) {v w : Int} (hv : inR v) (hw : inR w) (h0 : ¬ fAsk P v w → Q (.inl (some (vI 0))) (sI σ 53 0 1))
    (h1 : fAsk P v w → ¬ im ys (Lf P ys 0) v w → ∀ σ' k, FQ P lim xs σ' → gI σ' 53 0 = 2 → fr qM σ σ' → Q (.inl (some (vI k))) σ')
    (h2 : fAsk P v w → im ys (Lf P ys 0) v w → ∀ σ', RKp P ys 0 v w (gI σ' 64 (44 * v + w)) (gI σ' 65 (44 * v + w)) → FQ P lim xs σ' → gI σ' 53 0 = 0 → fr qM σ σ' → Q (.inl (some (vI (44 * v + w)))) σ') : Call t 238 [vR 53, vI v, vI w] σ Q := by
  have hm := m8_rng hP
  have nz : ¬ (0 : Int) < gI (sI σ 53 0 0) 53 0 := by rw [gI_sI, if_pos ⟨rfl, rfl⟩]; omega
  have no : (0 : Int) < gI (sI σ 53 0 1) 53 0 := by rw [gI_sI, if_pos ⟨rfl, rfl⟩]; omega
  have bad : ¬ fAsk P v w → wp t 238 16 [some (vR 53), some (vI v), some (vI w)] [vR 53] σ Q := fun hn => by
    rw [x238_16, x238_21]
    refine ⟨by rw [gI_sI, if_pos ⟨rfl, rfl⟩]; exact ⟨by omega, by omega⟩, fun _ => ?_, fun k => absurd no k⟩
    rw [x238_31]; exact h0 hn
  simp only [x238_0, e180 hv, x238_5, eq_true (b2i_in _), b2i_0, aft_l, aft_r, optL_s, optL_n, xgo_n, xgo_s, List.cons_append, List.nil_append, List.append_nil, true_and, and_true, Nat.sub_zero, Nat.zero_le, true_implies, false_implies, implies_true, not_true_eq_false, not_false_eq_true, true_or, or_true]
  by_cases q : 0 ≤ v ∧ v < 20
  · rw [dcl_t q]
    refine ⟨fun a => (by cases a), fun _ => ?_⟩
    simp only [x238_8, e237 h.1 hP hw, x238_13, eq_true (b2i_in _), b2i_0, aft_l, aft_r, optL_s, optL_n, xgo_n, xgo_s, List.cons_append, List.nil_append, List.append_nil, true_and, and_true, Nat.sub_zero, Nat.zero_le, true_implies, false_implies, implies_true, not_true_eq_false, not_false_eq_true, true_or, or_true]
    by_cases p : 0 ≤ w ∧ w < 20 + 3 * mny P 4 (-1)
    · rw [dcl_t p]
      refine ⟨fun a => (by cases a), fun _ => ?_⟩
      rw [x238_20, x238_21]
      refine ⟨by rw [gI_sI, if_pos ⟨rfl, rfl⟩]; exact ⟨by omega, by omega⟩, fun k => absurd k nz, fun _ => ?_⟩
      rw [x238_33]
      refine c219q hP hl hC (LQ_fr h q0 qK0) (fun σ1 g1 g2 => ?_)
      obtain ⟨ys', k1, k2, k3⟩ := g1.2.2.2.2.2.2.1
      have e : ys' = ys := isC_eq k1 hY
      subst e
      obtain ⟨r1, r2, r3⟩ := k2.2 v w q.1 (by omega) p.1 (by omega)
      simp only [x238_37, aft_l, aft_r, optL_s, optL_n, xgo_n, xgo_s, List.cons_append, List.nil_append, List.append_nil, true_and, and_true, Nat.sub_zero, Nat.zero_le, true_implies, false_implies, implies_true, not_true_eq_false, not_false_eq_true, true_or, or_true]
      refine ⟨⟨by omega, by omega⟩, k2.1 _ (by omega) (by omega), fun a => ?_, fun a => ?_⟩
      · have hn : ¬ im ys' (Lf P ys' 0) v w := fun k => by have := r1.mpr k; omega
        rw [x238_52, x238_57]
        exact h1 ⟨q, p⟩ hn _ _ (FQ_fr g1 q0 qK0) (by rw [gI_sI, if_pos ⟨rfl, rfl⟩]) (fr_trans (frq0 g2).2 q0q)
      · have hy := r1.mp (by omega)
        rw [x238_56, x238_57]
        exact h2 ⟨q, p⟩ hy _ (by rw [gI_rne (by decide), gI_rne (by decide)]; exact r2 hy) (FQ_fr g1 q0 qK0) (by rw [gI_sI, if_pos ⟨rfl, rfl⟩]) (fr_trans (frq0 g2).2 q0q)
    · rw [dcl_f p]
      exact ⟨fun _ => bad (fun z => p z.2), fun a => absurd rfl a⟩
  · rw [dcl_f q]
    exact ⟨fun _ => bad (fun z => q z.1), fun a => absurd rfl a⟩
theorem c239 (hP : okP P) (hl : 0 ≤ lim ∧ lim ≤ 2) (hC : isC P lim xs) {ys : List Int} (hY : isC P 0 ys) (h : LQ P lim xs σ) {v w : Int} (hv : inR v) (hw : inR w) (h0 : ¬ fAsk P v w → Q (.inl (some (vI 0))) (sI σ 53 0 1))
    (h1 : fAsk P v w → ¬ im ys (Lf P ys 0) v w → ∀ σ', FQ P lim xs σ' → gI σ' 53 0 = 2 → fr qM σ σ' → Q (.inl (some (vI 0))) σ')
    (h2 : fAsk P v w → im ys (Lf P ys 0) v w → ∀ σ', RKp P ys 0 v w (gI σ' 64 (44 * v + w)) (gI σ' 65 (44 * v + w)) → FQ P lim xs σ' → gI σ' 53 0 = 0 → fr qM σ σ' → Q (.inl (some (vI (gI σ' 64 (44 * v + w))))) σ') : Call t 239 [vR 53, vI v, vI w] σ Q := by
  have hm := m8_rng hP
  rw [x239_0]
  refine c238 hP hl hC hY h hv hw (fun a => ?_) (fun a b σ1 k g1 g2 g3 => ?_) (fun a b σ1 g0 g1 g2 g3 => ?_)
  · have no : (0 : Int) < gI (sI σ 53 0 1) 53 0 := by rw [gI_sI, if_pos ⟨rfl, rfl⟩]; omega
    show wp t 239 6 _ [vI 0] (sI σ 53 0 1) Q
    rw [x239_6]
    refine ⟨by rw [gI_sI, if_pos ⟨rfl, rfl⟩]; exact ⟨by omega, by omega⟩, fun _ => ?_, fun k => absurd no k⟩
    rw [x239_14, x239_24]; exact h0 a
  · show wp t 239 6 _ [vI k] σ1 Q
    rw [x239_6, g2]
    refine ⟨⟨by omega, by omega⟩, fun _ => ?_, fun k => by omega⟩
    rw [x239_14, x239_24]; exact h1 a b σ1 g1 g2 g3
  · show wp t 239 6 _ [vI (44 * v + w)] σ1 Q
    rw [x239_6, g2]
    refine ⟨⟨by omega, by omega⟩, fun k => by omega, fun _ => ?_⟩
    have hv := a.1
    have hw := a.2
    rw [x239_18, x239_24]; exact ⟨⟨by omega, by omega⟩, h2 a b σ1 g0 g1 g2 g3⟩
theorem c240 (hP : okP P) (hl : 0 ≤ lim ∧ lim ≤ 2) (hC : isC P lim xs) {ys : List Int} (hY : isC P 0 ys) (h : LQ P lim xs σ) {v w : Int} (hv : inR v) (hw : inR w) (h0 : ¬ fAsk P v w → Q (.inl (some (vI 0))) (sI σ 53 0 1))
    (h1 : fAsk P v w → ¬ im ys (Lf P ys 0) v w → ∀ σ', FQ P lim xs σ' → gI σ' 53 0 = 2 → fr qM σ σ' → Q (.inl (some (vI 0))) σ')
    (h2 : fAsk P v w → im ys (Lf P ys 0) v w → ∀ σ', RKp P ys 0 v w (gI σ' 64 (44 * v + w)) (gI σ' 65 (44 * v + w)) → FQ P lim xs σ' → gI σ' 53 0 = 0 → fr qM σ σ' → Q (.inl (some (vI (gI σ' 65 (44 * v + w))))) σ') : Call t 240 [vR 53, vI v, vI w] σ Q := by
  have hm := m8_rng hP
  rw [x240_0]
  refine c238 hP hl hC hY h hv hw (fun a => ?_) (fun a b σ1 k g1 g2 g3 => ?_) (fun a b σ1 g0 g1 g2 g3 => ?_)
  · have no : (0 : Int) < gI (sI σ 53 0 1) 53 0 := by rw [gI_sI, if_pos ⟨rfl, rfl⟩]; omega
    show wp t 240 6 _ [vI 0] (sI σ 53 0 1) Q
    rw [x240_6]
    refine ⟨by rw [gI_sI, if_pos ⟨rfl, rfl⟩]; exact ⟨by omega, by omega⟩, fun _ => ?_, fun k => absurd no k⟩
    rw [x240_14, x240_24]; exact h0 a
  · show wp t 240 6 _ [vI k] σ1 Q
    rw [x240_6, g2]
    refine ⟨⟨by omega, by omega⟩, fun _ => ?_, fun k => by omega⟩
    rw [x240_14, x240_24]; exact h1 a b σ1 g1 g2 g3
  · show wp t 240 6 _ [vI (44 * v + w)] σ1 Q
    rw [x240_6, g2]
    refine ⟨⟨by omega, by omega⟩, fun k => by omega, fun _ => ?_⟩
    have hv := a.1
    have hw := a.2
    rw [x240_18, x240_24]; exact ⟨⟨by omega, by omega⟩, h2 a b σ1 g0 g1 g2 g3⟩
/-- the number of rounds -/
def RDn (P : Pg) (ys : List Int) (lim : Int) (r : Int) : Prop := ∃ j : Nat, r = j ∧ ((∀ c u, Gr P ys lim (j + 1) c u → Gr P ys lim j c u) ∧ ∀ i, i < j → ∃ c u, Gr P ys lim (i + 1) c u ∧ ¬ Gr P ys lim i c u)
theorem RDn_uniq {P : Pg} {ys : List Int} {lim r r' : Int} (h : RDn P ys lim r) (h' : RDn P ys lim r') : r = r' := by
  obtain ⟨j, e, h1, h2⟩ := h
  obtain ⟨j', e', h1', h2'⟩ := h'
  rcases Nat.lt_trichotomy j j' with q | q | q
  · obtain ⟨c, u, k1, k2⟩ := h2' j q; exact absurd (h1 c u k1) k2
  · omega
  · obtain ⟨c, u, k1, k2⟩ := h2 j' q; exact absurd (h1' c u k1) k2
/-- roundCount -/
theorem c241 (hP : okP P) (hl : 0 ≤ lim ∧ lim ≤ 2) (hC : isC P lim xs) {ys : List Int} (hY : isC P 0 ys) (h : LQ P lim xs σ) (hq : ∀ σ' r, RDn P ys 0 r → FQ P lim xs σ' → gI σ' 53 0 = 0 → fr qM σ σ' → Q (.inl (some (vI r))) σ') : Call t 241 [vR 53] σ Q := by
  rw [x241_0]
  refine c219q hP hl hC (LQ_fr h q0 qK0) (fun σ1 g1 g2 => ?_)
  obtain ⟨ys', k1, k2, k3⟩ := g1.2.2.2.2.2.2.1
  have e : ys' = ys := isC_eq k1 hY
  subst e
  simp only [x241_9, aft_l, aft_r, optL_s, optL_n, xgo_n, xgo_s, List.cons_append, List.nil_append, List.append_nil, true_and, and_true, Nat.sub_zero, Nat.zero_le, true_implies, false_implies, implies_true, not_true_eq_false, not_false_eq_true, true_or, or_true]
  exact hq σ1 _ k3 g1 (frq0 g2).1 (frq0 g2).2
end LQ3
