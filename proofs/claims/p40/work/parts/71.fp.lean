/-! numbers with a point: none that is no number -/
def okD (f : FP.Core.Fmt) : FP.Core.Datum → Prop
  | .nan => False
  | .inf _ => True
  | .fin _ c q => c < 2 ^ f.p ∧ q ≤ f.qmax
theorem ok_bound {f : FP.Core.Fmt} {s : Bool} {c : Nat} {q : Int} (hc : c < 2 ^ f.p) : okD f (FP.Core.bound f s c q) := by
  unfold FP.Core.bound
  split
  · exact ⟨hc, by assumption⟩
  · trivial
theorem ok_ratio {f : FP.Core.Fmt} (hp : f.tails < 2 ^ f.p) (hq : f.qmin ≤ f.qmax) {s : Bool} {n d : Nat} {e : Int} : okD f (FP.Core.roundRatio f s n d e) := by
  unfold FP.Core.roundRatio
  split
  · exact ⟨Nat.pow_pos (by omega), hq⟩
  · unfold FP.Core.roundAt FP.Core.settle
    split
    · exact ok_bound (by assumption)
    · exact ok_bound hp
theorem enc64 {d : FP.Core.Datum} (h : okD FP.Core.b64 d) : FP.Core.encode FP.Core.b64 d < 18446744073709551616 ∧ FP.Core.encode FP.Core.b64 d % 9223372036854775808 ≤ 9218868437227405312 := by
  have ht : FP.Core.b64.tails = 4503599627370496 := rfl
  have he : FP.Core.b64.exps = 2048 := rfl
  have h1 : FP.Core.b64.qmin = -1074 := by decide
  have h2 : FP.Core.b64.qmax = 971 := by decide
  have h3 : 2 ^ FP.Core.b64.p = 9007199254740992 := rfl
  cases d with
  | nan => exact h.elim
  | inf s =>
    unfold FP.Core.encode FP.Core.assemble
    rw [ht, he]
    cases s <;> decide
  | fin s c q =>
    have h : c < 2 ^ FP.Core.b64.p ∧ q ≤ FP.Core.b64.qmax := h
    rw [h3, h2] at h
    have ee : FP.Core.encode FP.Core.b64 (.fin s c q) = if c < 4503599627370496 then (s.toNat * 2048 + 0) * 4503599627370496 + c else (s.toNat * 2048 + ((q - -1074).toNat + 1)) * 4503599627370496 + (c - 4503599627370496) := rfl
    rw [ee]
    have hs : s.toNat = 0 ∨ s.toNat = 1 := by cases s <;> decide
    split <;> rcases hs with e | e <;> rw [e] <;> omega
theorem enc32 {d : FP.Core.Datum} (h : okD FP.Core.b32 d) : FP.Core.encode FP.Core.b32 d < 4294967296 ∧ FP.Core.encode FP.Core.b32 d % 2147483648 ≤ 2139095040 := by
  have ht : FP.Core.b32.tails = 8388608 := rfl
  have he : FP.Core.b32.exps = 256 := rfl
  have h1 : FP.Core.b32.qmin = -149 := by decide
  have h2 : FP.Core.b32.qmax = 104 := by decide
  have h3 : 2 ^ FP.Core.b32.p = 16777216 := rfl
  cases d with
  | nan => exact h.elim
  | inf s =>
    unfold FP.Core.encode FP.Core.assemble
    rw [ht, he]
    cases s <;> decide
  | fin s c q =>
    have h : c < 2 ^ FP.Core.b32.p ∧ q ≤ FP.Core.b32.qmax := h
    rw [h3, h2] at h
    have ee : FP.Core.encode FP.Core.b32 (.fin s c q) = if c < 8388608 then (s.toNat * 256 + 0) * 8388608 + c else (s.toNat * 256 + ((q - -149).toNat + 1)) * 8388608 + (c - 8388608) := rfl
    rw [ee]
    have hs : s.toNat = 0 ∨ s.toNat = 1 := by cases s <;> decide
    split <;> rcases hs with e | e <;> rw [e] <;> omega
theorem n64_iff {x : UInt64} : n64 x ↔ x.toNat % 9223372036854775808 ≤ 9218868437227405312 := by
  show x &&& 0x7fffffffffffffff ≤ 0x7ff0000000000000 ↔ _
  rw [UInt64.le_iff_toNat_le, UInt64.toNat_and]
  show x.toNat &&& (2 ^ 63 - 1) ≤ 9218868437227405312 ↔ _
  rw [Nat.and_two_pow_sub_one_eq_mod]
theorem n32_iff {x : UInt32} : n32 x ↔ x.toNat % 2147483648 ≤ 2139095040 := by
  show x &&& 0x7fffffff ≤ 0x7f800000 ↔ _
  rw [UInt32.le_iff_toNat_le, UInt32.toNat_and]
  show x.toNat &&& (2 ^ 31 - 1) ≤ 2139095040 ↔ _
  rw [Nat.and_two_pow_sub_one_eq_mod]
theorem n64_enc {d : FP.Core.Datum} (h : okD FP.Core.b64 d) : n64 (UInt64.ofNat (FP.Core.encode FP.Core.b64 d)) := by
  obtain ⟨h1, h2⟩ := enc64 h
  rw [n64_iff, UInt64.toNat_ofNat_of_lt' h1]; exact h2
theorem n32_enc {d : FP.Core.Datum} (h : okD FP.Core.b32 d) : n32 (UInt32.ofNat (FP.Core.encode FP.Core.b32 d)) := by
  obtain ⟨h1, h2⟩ := enc32 h
  rw [n32_iff, UInt32.toNat_ofNat_of_lt' h1]; exact h2
def chk64 (n : Nat) : Bool := match FP.Core.decode FP.Core.b64 (dbl n).toNat with
  | .fin _ c _ => (c != 0) || (n == 0)
  | _ => false
def chk32 (n : Nat) : Bool := match FP.Core.decode FP.Core.b32 (flt n).toNat with
  | .fin _ c _ => (c != 0) || (n == 0)
  | _ => false
theorem chk64_all : (List.range 1301).all chk64 = true := by decide +kernel
theorem chk32_all : (List.range 1301).all chk32 = true := by decide +kernel
theorem d64 {z : Int} (h0 : 0 ≤ z) (h1 : z ≤ 1300) : ∃ s c q, FP.Core.decode FP.Core.b64 (dbl z).toNat = .fin s c q ∧ (z ≠ 0 → c ≠ 0) := by
  have h := List.all_eq_true.mp chk64_all z.toNat (List.mem_range.mpr (by omega))
  unfold chk64 at h
  rw [show ((z.toNat : Nat) : Int) = z by omega] at h
  split at h
  · rename_i s c q e
    refine ⟨s, c, q, e, fun hz hc => ?_⟩
    rw [hc] at h
    simp at h
    omega
  · cases h
theorem d32 {z : Int} (h0 : 0 ≤ z) (h1 : z ≤ 1300) : ∃ s c q, FP.Core.decode FP.Core.b32 (flt z).toNat = .fin s c q ∧ (z ≠ 0 → c ≠ 0) := by
  have h := List.all_eq_true.mp chk32_all z.toNat (List.mem_range.mpr (by omega))
  unfold chk32 at h
  rw [show ((z.toNat : Nat) : Int) = z by omega] at h
  split at h
  · rename_i s c q e
    refine ⟨s, c, q, e, fun hz hc => ?_⟩
    rw [hc] at h
    simp at h
    omega
  · cases h
theorem n64_div {a b : Int} (a0 : 0 ≤ a) (a1 : a ≤ 1300) (b0 : 0 < b) (b1 : b ≤ 1300) : n64 (FP.ddiv (dbl a) (dbl b)) := by
  obtain ⟨s, c, q, e, _⟩ := d64 a0 a1
  obtain ⟨s', c', q', e', hc⟩ := d64 (show 0 ≤ b by omega) b1
  show n64 (UInt64.ofNat (FP.Core.encode FP.Core.b64 (FP.Core.quotient FP.Core.b64 (FP.Core.decode FP.Core.b64 (dbl a).toNat) (FP.Core.decode FP.Core.b64 (dbl b).toNat))))
  apply n64_enc
  rw [e, e']
  show okD _ (if c' = 0 then _ else _)
  rw [if_neg (hc (by omega))]
  exact ok_ratio (by decide) (by decide)
theorem n32_div {a b : Int} (a0 : 0 ≤ a) (a1 : a ≤ 1300) (b0 : 0 < b) (b1 : b ≤ 1300) : n32 (FP.fdiv (flt a) (flt b)) := by
  obtain ⟨s, c, q, e, _⟩ := d32 a0 a1
  obtain ⟨s', c', q', e', hc⟩ := d32 (show 0 ≤ b by omega) b1
  show n32 (UInt32.ofNat (FP.Core.encode FP.Core.b32 (FP.Core.quotient FP.Core.b32 (FP.Core.decode FP.Core.b32 (flt a).toNat) (FP.Core.decode FP.Core.b32 (flt b).toNat))))
  apply n32_enc
  rw [e, e']
  show okD _ (if c' = 0 then _ else _)
  rw [if_neg (hc (by omega))]
  exact ok_ratio (by decide) (by decide)
theorem nn32 {x : UInt32} (h : n32 x) : FP.Core.decode FP.Core.b32 x.toNat ≠ .nan := by
  rw [n32_iff] at h
  unfold FP.Core.decode FP.Core.fieldE FP.Core.fieldT
  rw [show FP.Core.b32.tails = 8388608 from rfl, show FP.Core.b32.exps = 256 from rfl]
  split
  · rw [if_pos (by omega)]; intro k; cases k
  · split <;> (intro k; cases k)
theorem nn64 {x : UInt64} (h : n64 x) : FP.Core.decode FP.Core.b64 x.toNat ≠ .nan := by
  rw [n64_iff] at h
  unfold FP.Core.decode FP.Core.fieldE FP.Core.fieldT
  rw [show FP.Core.b64.tails = 4503599627370496 from rfl, show FP.Core.b64.exps = 2048 from rfl]
  split
  · rw [if_pos (by omega)]; intro k; cases k
  · split <;> (intro k; cases k)
theorem n64_f2d {x : UInt32} (h : n32 x) : n64 (FP.f2d x) := by
  have hn := nn32 h
  have e : FP.f2d x = UInt64.ofNat (FP.Core.encode FP.Core.b64 (FP.Core.round FP.Core.b64 (FP.Core.decode FP.Core.b32 x.toNat))) := by
    show (if FP.Core.fIsNaN x = true then _ else _) = _
    rw [if_neg (by
      show ¬ decide (FP.Core.decode FP.Core.b32 x.toNat = .nan) = true
      rw [decide_eq_true_eq]; exact hn)]
    rfl
  rw [e]
  apply n64_enc
  cases k : FP.Core.decode FP.Core.b32 x.toNat with
  | nan => exact absurd k hn
  | inf s => trivial
  | fin s c q => exact ok_ratio (by decide) (by decide)
theorem cmp_ii (z : Int) : compare z z = Ordering.eq := by
  show compareOfLessAndEq z z = _
  unfold compareOfLessAndEq
  rw [if_neg (Int.lt_irrefl z), if_pos rfl]
theorem dcmp_eq {x : UInt64} (h : n64 x) : FP.dcmp x x = some .eq := by
  have hn := nn64 h
  show FP.Core.order (FP.Core.decode FP.Core.b64 x.toNat) (FP.Core.decode FP.Core.b64 x.toNat) = _
  cases k : FP.Core.decode FP.Core.b64 x.toNat with
  | nan => exact absurd k hn
  | inf s => show some (compare _ _) = _; rw [cmp_ii]
  | fin s c q => show some (compare _ _) = _; rw [cmp_ii]

