/-! the law's loop: ends of its cases -/
/-- what a case ends in -/
def HQ (t : Nat) (i : Int) (σ0 : St) (Q : Res → St → Prop) : Prop := ∀ σ' P lim PS lS a6 a7 a8 t', JV P lim PS lS σ' → gI σ' 79 = gI σ0 79 → t ≤ t' + 4 → wp t' 305 1932 [some (vR 79), some (vR 0), some (vR 53), some (vR 77), some (vR 78), some (vI i), a6, a7, a8] [] σ' Q
theorem lk2 {a b : Option AV} : lkill [a, b] 1 = [lhead a, none] := rfl
theorem lk3 {a b c : Option AV} : lkill [a, b, c] 2 = [a, lhead b, none] := rfl
theorem lk4 {a b c d : Option AV} : lkill [a, b, c, d] 3 = [a, b, lhead c, none] := rfl
theorem lk5 {a b c d e : Option AV} : lkill [a, b, c, d, e] 4 = [a, b, c, lhead d, none] := rfl
theorem lk6 {a b c d e f : Option AV} : lkill [a, b, c, d, e, f] 5 = [a, b, c, d, lhead e, none] := rfl
section LO
variable {t : Nat} {σ : St} {Q : Res → St → Prop} {P PS : Pg} {lim lS : Int} {xs ys : List Int}
theorem KI_231 {i z v : Int} {a7 a8 : Option AV} (hz : inR z) (hv : inR v) (h0 : gI σ 53 0 = z) (hg : z = 0 → gL σ 77 0 = BitVec.ofInt 64 v) (hq : ∀ a6 a7 a8, wp t 305 1932 [some (vR 79), some (vR 0), some (vR 53), some (vR 77), some (vR 78), some (vI i), a6, a7, a8] [] σ Q) : wp t 305 231 [some (vR 79), some (vR 0), some (vR 53), some (vR 77), some (vR 78), some (vI i), some (vI z), a7, a8] [vI v] σ Q := by
  simp only [x305_231, e174, h0, x305_237, aft_l, aft_r, optL_s, optL_n, xgo_n, xgo_s, List.cons_append, List.nil_append, List.append_nil, true_and, and_true, Nat.sub_zero, Nat.zero_le, true_implies, false_implies, implies_true, not_true_eq_false, not_false_eq_true, true_or, or_true]
  refine ⟨⟨hz, hz⟩, ?_⟩
  rw [x305_244]
  refine ⟨hz, fun e => ?_, fun e => ?_⟩
  · rw [x305_249]
    refine ⟨hv, lCmp_in, fun _ => ?_, fun k => absurd (by rw [lCmp_eq]; exact hg e) k⟩
    rw [x305_261]; exact hq _ _ _
  · rw [x305_261]; exact hq _ _ _
theorem KI_287 {i z v : Int} {a7 a8 : Option AV} (hz : inR z) (hv : inR v) (h0 : gI σ 53 0 = z) (hg : z = 0 → gL σ 77 0 = BitVec.ofInt 64 v) (hq : ∀ a6 a7 a8, wp t 305 1932 [some (vR 79), some (vR 0), some (vR 53), some (vR 77), some (vR 78), some (vI i), a6, a7, a8] [] σ Q) : wp t 305 287 [some (vR 79), some (vR 0), some (vR 53), some (vR 77), some (vR 78), some (vI i), some (vI z), a7, a8] [vI v] σ Q := by
  simp only [x305_287, e174, h0, x305_293, aft_l, aft_r, optL_s, optL_n, xgo_n, xgo_s, List.cons_append, List.nil_append, List.append_nil, true_and, and_true, Nat.sub_zero, Nat.zero_le, true_implies, false_implies, implies_true, not_true_eq_false, not_false_eq_true, true_or, or_true]
  refine ⟨⟨hz, hz⟩, ?_⟩
  rw [x305_300]
  refine ⟨hz, fun e => ?_, fun e => ?_⟩
  · rw [x305_305]
    refine ⟨hv, lCmp_in, fun _ => ?_, fun k => absurd (by rw [lCmp_eq]; exact hg e) k⟩
    rw [x305_317]; exact hq _ _ _
  · rw [x305_317]; exact hq _ _ _
theorem KI_369 {i z v : Int} {a7 a8 : Option AV} (hz : inR z) (hv : inR v) (h0 : gI σ 53 0 = z) (hg : z = 0 → gL σ 77 0 = BitVec.ofInt 64 v) (hq : ∀ a6 a7 a8, wp t 305 1932 [some (vR 79), some (vR 0), some (vR 53), some (vR 77), some (vR 78), some (vI i), a6, a7, a8] [] σ Q) : wp t 305 369 [some (vR 79), some (vR 0), some (vR 53), some (vR 77), some (vR 78), some (vI i), some (vI z), a7, a8] [vI v] σ Q := by
  simp only [x305_369, e174, h0, x305_375, aft_l, aft_r, optL_s, optL_n, xgo_n, xgo_s, List.cons_append, List.nil_append, List.append_nil, true_and, and_true, Nat.sub_zero, Nat.zero_le, true_implies, false_implies, implies_true, not_true_eq_false, not_false_eq_true, true_or, or_true]
  refine ⟨⟨hz, hz⟩, ?_⟩
  rw [x305_382]
  refine ⟨hz, fun e => ?_, fun e => ?_⟩
  · rw [x305_387]
    refine ⟨hv, lCmp_in, fun _ => ?_, fun k => absurd (by rw [lCmp_eq]; exact hg e) k⟩
    rw [x305_399]; exact hq _ _ _
  · rw [x305_399]; exact hq _ _ _
theorem KI_425 {i z v : Int} {a7 a8 : Option AV} (hz : inR z) (hv : inR v) (h0 : gI σ 53 0 = z) (hg : z = 0 → gL σ 77 0 = BitVec.ofInt 64 v) (hq : ∀ a6 a7 a8, wp t 305 1932 [some (vR 79), some (vR 0), some (vR 53), some (vR 77), some (vR 78), some (vI i), a6, a7, a8] [] σ Q) : wp t 305 425 [some (vR 79), some (vR 0), some (vR 53), some (vR 77), some (vR 78), some (vI i), some (vI z), a7, a8] [vI v] σ Q := by
  simp only [x305_425, e174, h0, x305_431, aft_l, aft_r, optL_s, optL_n, xgo_n, xgo_s, List.cons_append, List.nil_append, List.append_nil, true_and, and_true, Nat.sub_zero, Nat.zero_le, true_implies, false_implies, implies_true, not_true_eq_false, not_false_eq_true, true_or, or_true]
  refine ⟨⟨hz, hz⟩, ?_⟩
  rw [x305_438]
  refine ⟨hz, fun e => ?_, fun e => ?_⟩
  · rw [x305_443]
    refine ⟨hv, lCmp_in, fun _ => ?_, fun k => absurd (by rw [lCmp_eq]; exact hg e) k⟩
    rw [x305_455]; exact hq _ _ _
  · rw [x305_455]; exact hq _ _ _
theorem KI_494 {i z v : Int} {a7 a8 : Option AV} (hz : inR z) (hv : inR v) (h0 : gI σ 53 0 = z) (hg : z = 0 → gL σ 77 0 = BitVec.ofInt 64 v) (hq : ∀ a6 a7 a8, wp t 305 1932 [some (vR 79), some (vR 0), some (vR 53), some (vR 77), some (vR 78), some (vI i), a6, a7, a8] [] σ Q) : wp t 305 494 [some (vR 79), some (vR 0), some (vR 53), some (vR 77), some (vR 78), some (vI i), some (vI z), a7, a8] [vI v] σ Q := by
  simp only [x305_494, e174, h0, x305_500, aft_l, aft_r, optL_s, optL_n, xgo_n, xgo_s, List.cons_append, List.nil_append, List.append_nil, true_and, and_true, Nat.sub_zero, Nat.zero_le, true_implies, false_implies, implies_true, not_true_eq_false, not_false_eq_true, true_or, or_true]
  refine ⟨⟨hz, hz⟩, ?_⟩
  rw [x305_507]
  refine ⟨hz, fun e => ?_, fun e => ?_⟩
  · rw [x305_512]
    refine ⟨hv, lCmp_in, fun _ => ?_, fun k => absurd (by rw [lCmp_eq]; exact hg e) k⟩
    rw [x305_524]; exact hq _ _ _
  · rw [x305_524]; exact hq _ _ _
theorem KI_550 {i z v : Int} {a7 a8 : Option AV} (hz : inR z) (hv : inR v) (h0 : gI σ 53 0 = z) (hg : z = 0 → gL σ 77 0 = BitVec.ofInt 64 v) (hq : ∀ a6 a7 a8, wp t 305 1932 [some (vR 79), some (vR 0), some (vR 53), some (vR 77), some (vR 78), some (vI i), a6, a7, a8] [] σ Q) : wp t 305 550 [some (vR 79), some (vR 0), some (vR 53), some (vR 77), some (vR 78), some (vI i), some (vI z), a7, a8] [vI v] σ Q := by
  simp only [x305_550, e174, h0, x305_556, aft_l, aft_r, optL_s, optL_n, xgo_n, xgo_s, List.cons_append, List.nil_append, List.append_nil, true_and, and_true, Nat.sub_zero, Nat.zero_le, true_implies, false_implies, implies_true, not_true_eq_false, not_false_eq_true, true_or, or_true]
  refine ⟨⟨hz, hz⟩, ?_⟩
  rw [x305_563]
  refine ⟨hz, fun e => ?_, fun e => ?_⟩
  · rw [x305_568]
    refine ⟨hv, lCmp_in, fun _ => ?_, fun k => absurd (by rw [lCmp_eq]; exact hg e) k⟩
    rw [x305_580]; exact hq _ _ _
  · rw [x305_580]; exact hq _ _ _
theorem KI_618 {i z v : Int} {a7 a8 : Option AV} (hz : inR z) (hv : inR v) (h0 : gI σ 53 0 = z) (hg : z = 0 → gL σ 77 0 = BitVec.ofInt 64 v) (hq : ∀ a6 a7 a8, wp t 305 1932 [some (vR 79), some (vR 0), some (vR 53), some (vR 77), some (vR 78), some (vI i), a6, a7, a8] [] σ Q) : wp t 305 618 [some (vR 79), some (vR 0), some (vR 53), some (vR 77), some (vR 78), some (vI i), some (vI z), a7, a8] [vI v] σ Q := by
  simp only [x305_618, e174, h0, x305_624, aft_l, aft_r, optL_s, optL_n, xgo_n, xgo_s, List.cons_append, List.nil_append, List.append_nil, true_and, and_true, Nat.sub_zero, Nat.zero_le, true_implies, false_implies, implies_true, not_true_eq_false, not_false_eq_true, true_or, or_true]
  refine ⟨⟨hz, hz⟩, ?_⟩
  rw [x305_631]
  refine ⟨hz, fun e => ?_, fun e => ?_⟩
  · rw [x305_636]
    refine ⟨hv, lCmp_in, fun _ => ?_, fun k => absurd (by rw [lCmp_eq]; exact hg e) k⟩
    rw [x305_648]; exact hq _ _ _
  · rw [x305_648]; exact hq _ _ _
theorem KI_698 {i z v : Int} {a7 a8 : Option AV} (hz : inR z) (hv : inR v) (h0 : gI σ 53 0 = z) (hg : z = 0 → gL σ 77 0 = BitVec.ofInt 64 v) (hq : ∀ a6 a7 a8, wp t 305 1932 [some (vR 79), some (vR 0), some (vR 53), some (vR 77), some (vR 78), some (vI i), a6, a7, a8] [] σ Q) : wp t 305 698 [some (vR 79), some (vR 0), some (vR 53), some (vR 77), some (vR 78), some (vI i), some (vI z), a7, a8] [vI v] σ Q := by
  simp only [x305_698, e174, h0, x305_704, aft_l, aft_r, optL_s, optL_n, xgo_n, xgo_s, List.cons_append, List.nil_append, List.append_nil, true_and, and_true, Nat.sub_zero, Nat.zero_le, true_implies, false_implies, implies_true, not_true_eq_false, not_false_eq_true, true_or, or_true]
  refine ⟨⟨hz, hz⟩, ?_⟩
  rw [x305_711]
  refine ⟨hz, fun e => ?_, fun e => ?_⟩
  · rw [x305_716]
    refine ⟨hv, lCmp_in, fun _ => ?_, fun k => absurd (by rw [lCmp_eq]; exact hg e) k⟩
    rw [x305_728]; exact hq _ _ _
  · rw [x305_728]; exact hq _ _ _
theorem KI_1111 {i z v : Int} {a7 a8 : Option AV} (hz : inR z) (hv : inR v) (h0 : gI σ 53 0 = z) (hg : z = 0 → gL σ 77 0 = BitVec.ofInt 64 v) (hq : ∀ a6 a7 a8, wp t 305 1932 [some (vR 79), some (vR 0), some (vR 53), some (vR 77), some (vR 78), some (vI i), a6, a7, a8] [] σ Q) : wp t 305 1111 [some (vR 79), some (vR 0), some (vR 53), some (vR 77), some (vR 78), some (vI i), some (vI z), a7, a8] [vI v] σ Q := by
  simp only [x305_1111, e174, h0, x305_1117, aft_l, aft_r, optL_s, optL_n, xgo_n, xgo_s, List.cons_append, List.nil_append, List.append_nil, true_and, and_true, Nat.sub_zero, Nat.zero_le, true_implies, false_implies, implies_true, not_true_eq_false, not_false_eq_true, true_or, or_true]
  refine ⟨⟨hz, hz⟩, ?_⟩
  rw [x305_1124]
  refine ⟨hz, fun e => ?_, fun e => ?_⟩
  · rw [x305_1129]
    refine ⟨hv, lCmp_in, fun _ => ?_, fun k => absurd (by rw [lCmp_eq]; exact hg e) k⟩
    rw [x305_1141]; exact hq _ _ _
  · rw [x305_1141]; exact hq _ _ _
theorem KI_1179 {i z v : Int} {a7 a8 : Option AV} (hz : inR z) (hv : inR v) (h0 : gI σ 53 0 = z) (hg : z = 0 → gL σ 77 0 = BitVec.ofInt 64 v) (hq : ∀ a6 a7 a8, wp t 305 1932 [some (vR 79), some (vR 0), some (vR 53), some (vR 77), some (vR 78), some (vI i), a6, a7, a8] [] σ Q) : wp t 305 1179 [some (vR 79), some (vR 0), some (vR 53), some (vR 77), some (vR 78), some (vI i), some (vI z), a7, a8] [vI v] σ Q := by
  simp only [x305_1179, e174, h0, x305_1185, aft_l, aft_r, optL_s, optL_n, xgo_n, xgo_s, List.cons_append, List.nil_append, List.append_nil, true_and, and_true, Nat.sub_zero, Nat.zero_le, true_implies, false_implies, implies_true, not_true_eq_false, not_false_eq_true, true_or, or_true]
  refine ⟨⟨hz, hz⟩, ?_⟩
  rw [x305_1192]
  refine ⟨hz, fun e => ?_, fun e => ?_⟩
  · rw [x305_1197]
    refine ⟨hv, lCmp_in, fun _ => ?_, fun k => absurd (by rw [lCmp_eq]; exact hg e) k⟩
    rw [x305_1209]; exact hq _ _ _
  · rw [x305_1209]; exact hq _ _ _
theorem KI_1572 {i z v : Int} {a7 a8 : Option AV} (hz : inR z) (hv : inR v) (h0 : gI σ 53 0 = z) (hg : z = 0 → gL σ 77 0 = BitVec.ofInt 64 v) (hq : ∀ a6 a7 a8, wp t 305 1932 [some (vR 79), some (vR 0), some (vR 53), some (vR 77), some (vR 78), some (vI i), a6, a7, a8] [] σ Q) : wp t 305 1572 [some (vR 79), some (vR 0), some (vR 53), some (vR 77), some (vR 78), some (vI i), some (vI z), a7, a8] [vI v] σ Q := by
  simp only [x305_1572, e174, h0, x305_1578, aft_l, aft_r, optL_s, optL_n, xgo_n, xgo_s, List.cons_append, List.nil_append, List.append_nil, true_and, and_true, Nat.sub_zero, Nat.zero_le, true_implies, false_implies, implies_true, not_true_eq_false, not_false_eq_true, true_or, or_true]
  refine ⟨⟨hz, hz⟩, ?_⟩
  rw [x305_1585]
  refine ⟨hz, fun e => ?_, fun e => ?_⟩
  · rw [x305_1590]
    refine ⟨hv, lCmp_in, fun _ => ?_, fun k => absurd (by rw [lCmp_eq]; exact hg e) k⟩
    rw [x305_1602]; exact hq _ _ _
  · rw [x305_1602]; exact hq _ _ _
theorem KL_754 {i z : Int} {l : BitVec 64} {a7 a8 : Option AV} (hz : inR z) (h0 : gI σ 53 0 = z) (hg : z = 0 → gL σ 77 0 = l) (hq : ∀ a6 a7 a8, wp t 305 1932 [some (vR 79), some (vR 0), some (vR 53), some (vR 77), some (vR 78), some (vI i), a6, a7, a8] [] σ Q) : wp t 305 754 [some (vR 79), some (vR 0), some (vR 53), some (vR 77), some (vR 78), some (vI i), some (vI z), a7, a8] [vL l] σ Q := by
  simp only [x305_754, e174, h0, x305_760, aft_l, aft_r, optL_s, optL_n, xgo_n, xgo_s, List.cons_append, List.nil_append, List.append_nil, true_and, and_true, Nat.sub_zero, Nat.zero_le, true_implies, false_implies, implies_true, not_true_eq_false, not_false_eq_true, true_or, or_true]
  refine ⟨⟨hz, hz⟩, ?_⟩
  rw [x305_767]
  refine ⟨hz, fun e => ?_, fun e => ?_⟩
  · rw [x305_772]
    refine ⟨lCmp_in, fun _ => ?_, fun k => absurd (by rw [lCmp_eq]; exact hg e) k⟩
    rw [x305_783]; exact hq _ _ _
  · rw [x305_783]; exact hq _ _ _
theorem KL_821 {i z : Int} {l : BitVec 64} {a7 a8 : Option AV} (hz : inR z) (h0 : gI σ 53 0 = z) (hg : z = 0 → gL σ 77 0 = l) (hq : ∀ a6 a7 a8, wp t 305 1932 [some (vR 79), some (vR 0), some (vR 53), some (vR 77), some (vR 78), some (vI i), a6, a7, a8] [] σ Q) : wp t 305 821 [some (vR 79), some (vR 0), some (vR 53), some (vR 77), some (vR 78), some (vI i), some (vI z), a7, a8] [vL l] σ Q := by
  simp only [x305_821, e174, h0, x305_827, aft_l, aft_r, optL_s, optL_n, xgo_n, xgo_s, List.cons_append, List.nil_append, List.append_nil, true_and, and_true, Nat.sub_zero, Nat.zero_le, true_implies, false_implies, implies_true, not_true_eq_false, not_false_eq_true, true_or, or_true]
  refine ⟨⟨hz, hz⟩, ?_⟩
  rw [x305_834]
  refine ⟨hz, fun e => ?_, fun e => ?_⟩
  · rw [x305_839]
    refine ⟨lCmp_in, fun _ => ?_, fun k => absurd (by rw [lCmp_eq]; exact hg e) k⟩
    rw [x305_850]; exact hq _ _ _
  · rw [x305_850]; exact hq _ _ _
theorem KL_888 {i z : Int} {l : BitVec 64} {a7 a8 : Option AV} (hz : inR z) (h0 : gI σ 53 0 = z) (hg : z = 0 → gL σ 77 0 = l) (hq : ∀ a6 a7 a8, wp t 305 1932 [some (vR 79), some (vR 0), some (vR 53), some (vR 77), some (vR 78), some (vI i), a6, a7, a8] [] σ Q) : wp t 305 888 [some (vR 79), some (vR 0), some (vR 53), some (vR 77), some (vR 78), some (vI i), some (vI z), a7, a8] [vL l] σ Q := by
  simp only [x305_888, e174, h0, x305_894, aft_l, aft_r, optL_s, optL_n, xgo_n, xgo_s, List.cons_append, List.nil_append, List.append_nil, true_and, and_true, Nat.sub_zero, Nat.zero_le, true_implies, false_implies, implies_true, not_true_eq_false, not_false_eq_true, true_or, or_true]
  refine ⟨⟨hz, hz⟩, ?_⟩
  rw [x305_901]
  refine ⟨hz, fun e => ?_, fun e => ?_⟩
  · rw [x305_906]
    refine ⟨lCmp_in, fun _ => ?_, fun k => absurd (by rw [lCmp_eq]; exact hg e) k⟩
    rw [x305_917]; exact hq _ _ _
  · rw [x305_917]; exact hq _ _ _
theorem KL_1031 {i z : Int} {l : BitVec 64} {a7 a8 : Option AV} (hz : inR z) (h0 : gI σ 53 0 = z) (hg : z = 0 → gL σ 77 0 = l) (hq : ∀ a6 a7 a8, wp t 305 1932 [some (vR 79), some (vR 0), some (vR 53), some (vR 77), some (vR 78), some (vI i), a6, a7, a8] [] σ Q) : wp t 305 1031 [some (vR 79), some (vR 0), some (vR 53), some (vR 77), some (vR 78), some (vI i), some (vI z), a7, a8] [vL l] σ Q := by
  simp only [x305_1031, e174, h0, x305_1037, aft_l, aft_r, optL_s, optL_n, xgo_n, xgo_s, List.cons_append, List.nil_append, List.append_nil, true_and, and_true, Nat.sub_zero, Nat.zero_le, true_implies, false_implies, implies_true, not_true_eq_false, not_false_eq_true, true_or, or_true]
  refine ⟨⟨hz, hz⟩, ?_⟩
  rw [x305_1044]
  refine ⟨hz, fun e => ?_, fun e => ?_⟩
  · rw [x305_1049]
    refine ⟨lCmp_in, fun _ => ?_, fun k => absurd (by rw [lCmp_eq]; exact hg e) k⟩
    rw [x305_1060]; exact hq _ _ _
  · rw [x305_1060]; exact hq _ _ _
theorem KL_1248 {i z : Int} {l : BitVec 64} {a7 a8 : Option AV} (hz : inR z) (h0 : gI σ 53 0 = z) (hg : z = 0 → gL σ 77 0 = l) (hq : ∀ a6 a7 a8, wp t 305 1932 [some (vR 79), some (vR 0), some (vR 53), some (vR 77), some (vR 78), some (vI i), a6, a7, a8] [] σ Q) : wp t 305 1248 [some (vR 79), some (vR 0), some (vR 53), some (vR 77), some (vR 78), some (vI i), some (vI z), a7, a8] [vL l] σ Q := by
  simp only [x305_1248, e174, h0, x305_1254, aft_l, aft_r, optL_s, optL_n, xgo_n, xgo_s, List.cons_append, List.nil_append, List.append_nil, true_and, and_true, Nat.sub_zero, Nat.zero_le, true_implies, false_implies, implies_true, not_true_eq_false, not_false_eq_true, true_or, or_true]
  refine ⟨⟨hz, hz⟩, ?_⟩
  rw [x305_1261]
  refine ⟨hz, fun e => ?_, fun e => ?_⟩
  · rw [x305_1266]
    refine ⟨lCmp_in, fun _ => ?_, fun k => absurd (by rw [lCmp_eq]; exact hg e) k⟩
    rw [x305_1277]; exact hq _ _ _
  · rw [x305_1277]; exact hq _ _ _
theorem KL_1391 {i z : Int} {l : BitVec 64} {a7 a8 : Option AV} (hz : inR z) (h0 : gI σ 53 0 = z) (hg : z = 0 → gL σ 77 0 = l) (hq : ∀ a6 a7 a8, wp t 305 1932 [some (vR 79), some (vR 0), some (vR 53), some (vR 77), some (vR 78), some (vI i), a6, a7, a8] [] σ Q) : wp t 305 1391 [some (vR 79), some (vR 0), some (vR 53), some (vR 77), some (vR 78), some (vI i), some (vI z), a7, a8] [vL l] σ Q := by
  simp only [x305_1391, e174, h0, x305_1397, aft_l, aft_r, optL_s, optL_n, xgo_n, xgo_s, List.cons_append, List.nil_append, List.append_nil, true_and, and_true, Nat.sub_zero, Nat.zero_le, true_implies, false_implies, implies_true, not_true_eq_false, not_false_eq_true, true_or, or_true]
  refine ⟨⟨hz, hz⟩, ?_⟩
  rw [x305_1404]
  refine ⟨hz, fun e => ?_, fun e => ?_⟩
  · rw [x305_1409]
    refine ⟨lCmp_in, fun _ => ?_, fun k => absurd (by rw [lCmp_eq]; exact hg e) k⟩
    rw [x305_1420]; exact hq _ _ _
  · rw [x305_1420]; exact hq _ _ _
theorem KL_1641 {i z : Int} {l : BitVec 64} {a7 a8 : Option AV} (hz : inR z) (h0 : gI σ 53 0 = z) (hg : z = 0 → gL σ 77 0 = l) (hq : ∀ a6 a7 a8, wp t 305 1932 [some (vR 79), some (vR 0), some (vR 53), some (vR 77), some (vR 78), some (vI i), a6, a7, a8] [] σ Q) : wp t 305 1641 [some (vR 79), some (vR 0), some (vR 53), some (vR 77), some (vR 78), some (vI i), some (vI z), a7, a8] [vL l] σ Q := by
  simp only [x305_1641, e174, h0, x305_1647, aft_l, aft_r, optL_s, optL_n, xgo_n, xgo_s, List.cons_append, List.nil_append, List.append_nil, true_and, and_true, Nat.sub_zero, Nat.zero_le, true_implies, false_implies, implies_true, not_true_eq_false, not_false_eq_true, true_or, or_true]
  refine ⟨⟨hz, hz⟩, ?_⟩
  rw [x305_1654]
  refine ⟨hz, fun e => ?_, fun e => ?_⟩
  · rw [x305_1659]
    refine ⟨lCmp_in, fun _ => ?_, fun k => absurd (by rw [lCmp_eq]; exact hg e) k⟩
    rw [x305_1670]; exact hq _ _ _
  · rw [x305_1670]; exact hq _ _ _
theorem KL_1708 {i z : Int} {l : BitVec 64} {a7 a8 : Option AV} (hz : inR z) (h0 : gI σ 53 0 = z) (hg : z = 0 → gL σ 77 0 = l) (hq : ∀ a6 a7 a8, wp t 305 1932 [some (vR 79), some (vR 0), some (vR 53), some (vR 77), some (vR 78), some (vI i), a6, a7, a8] [] σ Q) : wp t 305 1708 [some (vR 79), some (vR 0), some (vR 53), some (vR 77), some (vR 78), some (vI i), some (vI z), a7, a8] [vL l] σ Q := by
  simp only [x305_1708, e174, h0, x305_1714, aft_l, aft_r, optL_s, optL_n, xgo_n, xgo_s, List.cons_append, List.nil_append, List.append_nil, true_and, and_true, Nat.sub_zero, Nat.zero_le, true_implies, false_implies, implies_true, not_true_eq_false, not_false_eq_true, true_or, or_true]
  refine ⟨⟨hz, hz⟩, ?_⟩
  rw [x305_1721]
  refine ⟨hz, fun e => ?_, fun e => ?_⟩
  · rw [x305_1726]
    refine ⟨lCmp_in, fun _ => ?_, fun k => absurd (by rw [lCmp_eq]; exact hg e) k⟩
    rw [x305_1737]; exact hq _ _ _
  · rw [x305_1737]; exact hq _ _ _
theorem KB_968 {i z : Int} {b : Bool} {a7 a8 : Option AV} (hz : inR z) (h0 : gI σ 53 0 = z) (hg : z = 0 → gL σ 77 0 = if b = true then BitVec.ofNat 64 1 else BitVec.ofNat 64 0) (hq : ∀ a6 a7 a8, wp t 305 1932 [some (vR 79), some (vR 0), some (vR 53), some (vR 77), some (vR 78), some (vI i), a6, a7, a8] [] σ Q) : wp t 305 968 [some (vR 79), some (vR 0), some (vR 53), some (vR 77), some (vR 78), some (vI i), some (vI z), a7, a8] [vI (b2i b)] σ Q := by
  simp only [x305_968, e174, h0, x305_974, aft_l, aft_r, optL_s, optL_n, xgo_n, xgo_s, List.cons_append, List.nil_append, List.append_nil, true_and, and_true, Nat.sub_zero, Nat.zero_le, true_implies, false_implies, implies_true, not_true_eq_false, not_false_eq_true, true_or, or_true]
  refine ⟨⟨hz, hz⟩, ?_⟩
  rw [x305_981]
  refine ⟨hz, fun e => ?_, fun e => ?_⟩
  · have hg := hg e
    rw [x305_986, b2i_0]
    refine ⟨b2i_in _, fun a => ?_, fun a => ?_⟩
    · rw [a] at hg
      rw [x305_998, x305_999]
      refine ⟨lCmp_in, fun _ => ?_, fun k => absurd (by rw [lCmp_eq]; exact hg) k⟩
      rw [x305_1005]; exact hq _ _ _
    · have a : b = true := by cases b with
        | true => rfl
        | false => exact absurd rfl a
      rw [a] at hg
      rw [x305_994, x305_999]
      refine ⟨lCmp_in, fun _ => ?_, fun k => absurd (by rw [lCmp_eq]; exact hg) k⟩
      rw [x305_1005]; exact hq _ _ _
  · rw [x305_1005]; exact hq _ _ _
theorem KB_1315 {i z : Int} {b : Bool} {a7 a8 : Option AV} (hz : inR z) (h0 : gI σ 53 0 = z) (hg : z = 0 → gL σ 77 0 = if b = true then BitVec.ofNat 64 1 else BitVec.ofNat 64 0) (hq : ∀ a6 a7 a8, wp t 305 1932 [some (vR 79), some (vR 0), some (vR 53), some (vR 77), some (vR 78), some (vI i), a6, a7, a8] [] σ Q) : wp t 305 1315 [some (vR 79), some (vR 0), some (vR 53), some (vR 77), some (vR 78), some (vI i), some (vI z), a7, a8] [vI (b2i b)] σ Q := by
  simp only [x305_1315, e174, h0, x305_1321, aft_l, aft_r, optL_s, optL_n, xgo_n, xgo_s, List.cons_append, List.nil_append, List.append_nil, true_and, and_true, Nat.sub_zero, Nat.zero_le, true_implies, false_implies, implies_true, not_true_eq_false, not_false_eq_true, true_or, or_true]
  refine ⟨⟨hz, hz⟩, ?_⟩
  rw [x305_1328]
  refine ⟨hz, fun e => ?_, fun e => ?_⟩
  · have hg := hg e
    rw [x305_1333, b2i_0]
    refine ⟨b2i_in _, fun a => ?_, fun a => ?_⟩
    · rw [a] at hg
      rw [x305_1345, x305_1346]
      refine ⟨lCmp_in, fun _ => ?_, fun k => absurd (by rw [lCmp_eq]; exact hg) k⟩
      rw [x305_1352]; exact hq _ _ _
    · have a : b = true := by cases b with
        | true => rfl
        | false => exact absurd rfl a
      rw [a] at hg
      rw [x305_1341, x305_1346]
      refine ⟨lCmp_in, fun _ => ?_, fun k => absurd (by rw [lCmp_eq]; exact hg) k⟩
      rw [x305_1352]; exact hq _ _ _
  · rw [x305_1352]; exact hq _ _ _
theorem KB_1446 {i z : Int} {b : Bool} {a7 a8 : Option AV} (hz : inR z) (h0 : gI σ 53 0 = z) (hg : z = 0 → gL σ 77 0 = if b = true then BitVec.ofNat 64 1 else BitVec.ofNat 64 0) (hq : ∀ a6 a7 a8, wp t 305 1932 [some (vR 79), some (vR 0), some (vR 53), some (vR 77), some (vR 78), some (vI i), a6, a7, a8] [] σ Q) : wp t 305 1446 [some (vR 79), some (vR 0), some (vR 53), some (vR 77), some (vR 78), some (vI i), some (vI z), a7, a8] [vI (b2i b)] σ Q := by
  simp only [x305_1446, e174, h0, x305_1452, aft_l, aft_r, optL_s, optL_n, xgo_n, xgo_s, List.cons_append, List.nil_append, List.append_nil, true_and, and_true, Nat.sub_zero, Nat.zero_le, true_implies, false_implies, implies_true, not_true_eq_false, not_false_eq_true, true_or, or_true]
  refine ⟨⟨hz, hz⟩, ?_⟩
  rw [x305_1459]
  refine ⟨hz, fun e => ?_, fun e => ?_⟩
  · have hg := hg e
    rw [x305_1464, b2i_0]
    refine ⟨b2i_in _, fun a => ?_, fun a => ?_⟩
    · rw [a] at hg
      rw [x305_1476, x305_1477]
      refine ⟨lCmp_in, fun _ => ?_, fun k => absurd (by rw [lCmp_eq]; exact hg) k⟩
      rw [x305_1483]; exact hq _ _ _
    · have a : b = true := by cases b with
        | true => rfl
        | false => exact absurd rfl a
      rw [a] at hg
      rw [x305_1472, x305_1477]
      refine ⟨lCmp_in, fun _ => ?_, fun k => absurd (by rw [lCmp_eq]; exact hg) k⟩
      rw [x305_1483]; exact hq _ _ _
  · rw [x305_1483]; exact hq _ _ _
theorem KB_1509 {i z : Int} {b : Bool} {a7 a8 : Option AV} (hz : inR z) (h0 : gI σ 53 0 = z) (hg : z = 0 → gL σ 77 0 = if b = true then BitVec.ofNat 64 1 else BitVec.ofNat 64 0) (hq : ∀ a6 a7 a8, wp t 305 1932 [some (vR 79), some (vR 0), some (vR 53), some (vR 77), some (vR 78), some (vI i), a6, a7, a8] [] σ Q) : wp t 305 1509 [some (vR 79), some (vR 0), some (vR 53), some (vR 77), some (vR 78), some (vI i), some (vI z), a7, a8] [vI (b2i b)] σ Q := by
  simp only [x305_1509, e174, h0, x305_1515, aft_l, aft_r, optL_s, optL_n, xgo_n, xgo_s, List.cons_append, List.nil_append, List.append_nil, true_and, and_true, Nat.sub_zero, Nat.zero_le, true_implies, false_implies, implies_true, not_true_eq_false, not_false_eq_true, true_or, or_true]
  refine ⟨⟨hz, hz⟩, ?_⟩
  rw [x305_1522]
  refine ⟨hz, fun e => ?_, fun e => ?_⟩
  · have hg := hg e
    rw [x305_1527, b2i_0]
    refine ⟨b2i_in _, fun a => ?_, fun a => ?_⟩
    · rw [a] at hg
      rw [x305_1539, x305_1540]
      refine ⟨lCmp_in, fun _ => ?_, fun k => absurd (by rw [lCmp_eq]; exact hg) k⟩
      rw [x305_1546]; exact hq _ _ _
    · have a : b = true := by cases b with
        | true => rfl
        | false => exact absurd rfl a
      rw [a] at hg
      rw [x305_1535, x305_1540]
      refine ⟨lCmp_in, fun _ => ?_, fun k => absurd (by rw [lCmp_eq]; exact hg) k⟩
      rw [x305_1546]; exact hq _ _ _
  · rw [x305_1546]; exact hq _ _ _
/-- kind -/
theorem op_346 {i : Int} {a6 a7 a8 : Option AV} (h : JV P lim PS lS σ) (hi : 0 ≤ i) (hlen : i + 3 < gI σ 79 (-1)) (hn : ∀ j, 0 ≤ j → j < gI σ 79 (-1) → inR (gI σ 79 j)) (ht : 4 ≤ t) (hq : HQ t i σ Q) : wp t 305 346 [some (vR 79), some (vR 0), some (vR 53), some (vR 77), some (vR 78), some (vI i), a6, a7, a8] [] σ Q := by
  obtain ⟨⟨⟨hP, hl⟩, hPS, hlS⟩, hCI, ⟨xs, hC, hLQ⟩, hT⟩ := id h
  have n1 := hn (i + 1) (by omega) (by omega)
  have htr := tot_rng hP.1
  generalize hv : gI σ 79 (i + 1) = v at n1
  have fin : ∀ (σ1 : St) (w z : Int), (σ1 = σ ∨ ∃ l, σ1 = sL σ 77 0 l) → inR w → inR z → (z = 0 → gL σ1 77 0 = BitVec.ofInt 64 w) → wp (t - 1) 305 369 [some (vR 79), some (vR 0), some (vR 53), some (vR 77), some (vR 78), some (vI i), some (vI z), a7, a8] [vI w] (sI σ1 53 0 z) Q := fun σ1 w z hs hw hz hg => by
    have f1 : fr jM σ σ1 := by
      rcases hs with e | ⟨l, e⟩
      · rw [e]; exact fr_refl
      · rw [e]; exact fr_sL fr_refl (Or.inr (Or.inr (Or.inl rfl)))
    have f2 : fr jM σ (sI σ1 53 0 z) := fr_sI f1 (by unfold jM qM; omega)
    have f3 : fr (fun c j => c = 77 ∨ (c = 53 ∧ j = 0)) σ (sI σ1 53 0 z) := by
      rcases hs with e | ⟨l, e⟩
      · rw [e]; exact fr_sI fr_refl (Or.inr ⟨rfl, rfl⟩)
      · rw [e]; exact fr_sI (fr_sL fr_refl (Or.inl rfl)) (Or.inr ⟨rfl, rfl⟩)
    refine KI_369 hz hw (by rw [gI_sI, if_pos ⟨rfl, rfl⟩]) hg (fun b6 b7 b8 => hq _ P lim PS lS _ _ _ _ (JV_q h (CI_fr hCI f3 (fun c j k => by omega)) ⟨xs, hC, LQ_fr hLQ f3 (fun c j k => by omega)⟩ f2) ?_ (by omega))
    funext j
    rcases hs with e | ⟨l, e⟩ <;> rw [e, gI_rne (by decide)] <;> rfl
  rw [x305_346, hv]
  refine ⟨by omega, by omega, ?_⟩
  rw [x281_0]
  refine ⟨by omega, c125 (by omega) hP hCI n1 (fun a => ?_) (fun a => ?_)⟩
  · have hk := (hP.2.1 v a.1 a.2).1
    have e79 : gI (sL σ 77 0 (BitVec.ofInt 64 (kd P v))) 79 = gI σ 79 := rfl
    simp only [x281_7, x281_15, x305_357, e79, hv, aft_l, aft_r, optL_s, optL_n, xgo_n, xgo_s, List.cons_append, List.nil_append, List.append_nil, true_and, and_true, Nat.sub_zero, Nat.zero_le, true_implies, false_implies, implies_true, not_true_eq_false, not_false_eq_true, true_or, or_true]
    refine ⟨⟨by omega, by omega⟩, by omega, by omega, c201 (LP_fr hLQ.1 (fr_sL (M := fun c _ => c = 77) fr_refl rfl) (fun c j k => by omega)) hP n1 (fun b => absurd a b) (fun _ => ?_)⟩
    simp only [aft_l, aft_r, optL_s, optL_n, xgo_n, xgo_s, List.cons_append, List.nil_append, List.append_nil, true_and, and_true, Nat.sub_zero, Nat.zero_le, true_implies, false_implies, implies_true, not_true_eq_false, not_false_eq_true, true_or, or_true]
    exact fin _ _ 0 (Or.inr ⟨_, rfl⟩) ⟨by omega, by omega⟩ ⟨by decide, by decide⟩ (fun _ => by rw [gL_sL, if_pos ⟨rfl, rfl⟩])
  · simp only [show hd 281 4 3 = some (13, 3) from rfl, xgo_s, lk4, x281_13, x305_357, hv, aft_l, aft_r, optL_s, optL_n, xgo_n, xgo_s, List.cons_append, List.nil_append, List.append_nil, true_and, and_true, Nat.sub_zero, Nat.zero_le, true_implies, false_implies, implies_true, not_true_eq_false, not_false_eq_true, true_or, or_true]
    refine ⟨by omega, c201 hLQ.1 hP n1 (fun _ => ?_) (fun b => absurd b a)⟩
    simp only [aft_l, aft_r, optL_s, optL_n, xgo_n, xgo_s, List.cons_append, List.nil_append, List.append_nil, true_and, and_true, Nat.sub_zero, Nat.zero_le, true_implies, false_implies, implies_true, not_true_eq_false, not_false_eq_true, true_or, or_true]
    exact fin _ 0 1 (Or.inl rfl) ⟨by decide, by decide⟩ ⟨by decide, by decide⟩ (fun k => by cases k)
end LO
