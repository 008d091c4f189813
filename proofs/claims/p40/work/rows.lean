section
/-! prelude: printed by wip/p40/prelude.py -/
/-! THE PURE MACHINE: ints are integers (a cell holds them modulo 2^32), longs bit vectors, a reference the number of its cell in the layout -/
abbrev AV : Type := Int ⊕ (BitVec 64 ⊕ (UInt64 ⊕ (UInt32 ⊕ Nat)))
def vI (z : Int) : AV := .inl z
def vL (b : BitVec 64) : AV := .inr (.inl b)
def vD (d : UInt64) : AV := .inr (.inr (.inl d))
def vF (d : UInt32) : AV := .inr (.inr (.inr (.inl d)))
def vR (i : Nat) : AV := .inr (.inr (.inr (.inr i)))
abbrev Lo : Type := List (Option AV)
abbrev St : Type := (Nat → Int → Int) × ((Nat → Int → BitVec 64) × (Nat → Int → UInt64))
abbrev Res : Type := Option AV ⊕ Nat
def gI (σ : St) (c : Nat) (i : Int) : Int := σ.1 c i
def gL (σ : St) (c : Nat) (i : Int) : BitVec 64 := σ.2.1 c i
def gD (σ : St) (c : Nat) (i : Int) : UInt64 := σ.2.2 c i
def sI (σ : St) (c : Nat) (i : Int) (v : Int) : St := (fun d j => if d = c ∧ j = i then v else σ.1 d j, σ.2)
def sL (σ : St) (c : Nat) (i : Int) (v : BitVec 64) : St := (σ.1, (fun d j => if d = c ∧ j = i then v else σ.2.1 d j, σ.2.2))
def sD (σ : St) (c : Nat) (i : Int) (v : UInt64) : St := (σ.1, (σ.2.1, fun d j => if d = c ∧ j = i then v else σ.2.2 d j))
def iAnd (a b : Int) : Int := (BitVec.ofInt 32 a &&& BitVec.ofInt 32 b).toInt
def iOr (a b : Int) : Int := (BitVec.ofInt 32 a ||| BitVec.ofInt 32 b).toInt
def sh6 (z : Int) : Nat := (z % 64).toNat
abbrev n32 (r : UInt32) : Prop := r &&& 0x7fffffff ≤ 0x7f800000
abbrev n64 (r : UInt64) : Prop := r &&& 0x7fffffffffffffff ≤ 0x7ff0000000000000
def dbl (z : Int) : UInt64 := FP.i2d (Int32.ofInt z)
def flt (z : Int) : UInt32 := FP.i2f (Int32.ofInt z)
abbrev inR (z : Int) : Prop := -2147483648 ≤ z ∧ z < 2147483648
def ln (c : Nat) : Nat := if c = 49 then 44 else 0
theorem gI_sI {σ : St} {c d : Nat} {i j v : Int} : gI (sI σ c i v) d j = if d = c ∧ j = i then v else gI σ d j := rfl
theorem gL_sI {σ : St} {c d : Nat} {i j v : Int} : gL (sI σ c i v) d j = gL σ d j := rfl
theorem gD_sI {σ : St} {c d : Nat} {i j v : Int} : gD (sI σ c i v) d j = gD σ d j := rfl
theorem gI_sL {σ : St} {c d : Nat} {i j : Int} {v : BitVec 64} : gI (sL σ c i v) d j = gI σ d j := rfl
theorem gL_sL {σ : St} {c d : Nat} {i j : Int} {v : BitVec 64} : gL (sL σ c i v) d j = if d = c ∧ j = i then v else gL σ d j := rfl
theorem gD_sL {σ : St} {c d : Nat} {i j : Int} {v : BitVec 64} : gD (sL σ c i v) d j = gD σ d j := rfl
theorem gI_sD {σ : St} {c d : Nat} {i j : Int} {v : UInt64} : gI (sD σ c i v) d j = gI σ d j := rfl
theorem gL_sD {σ : St} {c d : Nat} {i j : Int} {v : UInt64} : gL (sD σ c i v) d j = gL σ d j := rfl
theorem gD_sD {σ : St} {c d : Nat} {i j : Int} {v : UInt64} : gD (sD σ c i v) d j = if d = c ∧ j = i then v else gD σ d j := rfl
/-! frames -/
def fr (M : Nat → Int → Prop) (σ σ' : St) : Prop := ∀ c j, ¬ M c j → gI σ' c j = gI σ c j ∧ (gL σ' c j = gL σ c j ∧ gD σ' c j = gD σ c j)
theorem fr_refl {M : Nat → Int → Prop} {σ : St} : fr M σ σ := fun _ _ _ => ⟨rfl, rfl, rfl⟩
theorem fr_trans {M : Nat → Int → Prop} {σ σ1 σ2 : St} (h1 : fr M σ σ1) (h2 : fr M σ1 σ2) : fr M σ σ2 := fun c j h =>
  ⟨(h2 c j h).1.trans (h1 c j h).1, (h2 c j h).2.1.trans (h1 c j h).2.1, (h2 c j h).2.2.trans (h1 c j h).2.2⟩
theorem fr_mono {M M' : Nat → Int → Prop} {σ σ' : St} (h : fr M σ σ') (hm : ∀ c j, M c j → M' c j) : fr M' σ σ' := fun c j hn => h c j (fun g => hn (hm c j g))
theorem fr_I {M : Nat → Int → Prop} {σ σ' : St} (h : fr M σ σ') (c : Nat) (j : Int) (hn : ¬ M c j) : gI σ' c j = gI σ c j := (h c j hn).1
theorem fr_L {M : Nat → Int → Prop} {σ σ' : St} (h : fr M σ σ') (c : Nat) (j : Int) (hn : ¬ M c j) : gL σ' c j = gL σ c j := (h c j hn).2.1
theorem fr_D {M : Nat → Int → Prop} {σ σ' : St} (h : fr M σ σ') (c : Nat) (j : Int) (hn : ¬ M c j) : gD σ' c j = gD σ c j := (h c j hn).2.2
theorem fr_sI {M : Nat → Int → Prop} {σ σ1 : St} {c : Nat} {i v : Int} (h : fr M σ σ1) (hm : M c i) : fr M σ (sI σ1 c i v) := fun d j hn =>
  ⟨by rw [gI_sI, if_neg (fun g => hn (by rw [g.1, g.2]; exact hm))]; exact (h d j hn).1, (h d j hn).2.1, (h d j hn).2.2⟩
theorem fr_sL {M : Nat → Int → Prop} {σ σ1 : St} {c : Nat} {i : Int} {v : BitVec 64} (h : fr M σ σ1) (hm : M c i) : fr M σ (sL σ1 c i v) := fun d j hn =>
  ⟨(h d j hn).1, by rw [gL_sL, if_neg (fun g => hn (by rw [g.1, g.2]; exact hm))]; exact (h d j hn).2.1, (h d j hn).2.2⟩
theorem fr_sD {M : Nat → Int → Prop} {σ σ1 : St} {c : Nat} {i : Int} {v : UInt64} (h : fr M σ σ1) (hm : M c i) : fr M σ (sD σ1 c i v) := fun d j hn =>
  ⟨(h d j hn).1, (h d j hn).2.1, by rw [gD_sD, if_neg (fun g => hn (by rw [g.1, g.2]; exact hm))]; exact (h d j hn).2.2⟩
/-- a whole cell anew -/
def upI (σ : St) (c : Nat) (f : Int → Int) : St := (fun d j => if d = c then f j else σ.1 d j, σ.2)
def upL (σ : St) (c : Nat) (f : Int → BitVec 64) : St := (σ.1, (fun d j => if d = c then f j else σ.2.1 d j, σ.2.2))
theorem gI_upI {σ : St} {c d : Nat} {f : Int → Int} {j : Int} : gI (upI σ c f) d j = if d = c then f j else gI σ d j := rfl
theorem gL_upI {σ : St} {c d : Nat} {f : Int → Int} {j : Int} : gL (upI σ c f) d j = gL σ d j := rfl
theorem gD_upI {σ : St} {c d : Nat} {f : Int → Int} {j : Int} : gD (upI σ c f) d j = gD σ d j := rfl
theorem gI_upL {σ : St} {c d : Nat} {f : Int → BitVec 64} {j : Int} : gI (upL σ c f) d j = gI σ d j := rfl
theorem gL_upL {σ : St} {c d : Nat} {f : Int → BitVec 64} {j : Int} : gL (upL σ c f) d j = if d = c then f j else gL σ d j := rfl
theorem gD_upL {σ : St} {c d : Nat} {f : Int → BitVec 64} {j : Int} : gD (upL σ c f) d j = gD σ d j := rfl
theorem fr_upI {M : Nat → Int → Prop} {σ σ1 : St} {c : Nat} {f : Int → Int} (h : fr M σ σ1) (hm : ∀ j, M c j) : fr M σ (upI σ1 c f) := fun d j hn =>
  ⟨by rw [gI_upI, if_neg (fun g => hn (by rw [g]; exact hm j))]; exact (h d j hn).1, (h d j hn).2.1, (h d j hn).2.2⟩
theorem fr_upL {M : Nat → Int → Prop} {σ σ1 : St} {c : Nat} {f : Int → BitVec 64} (h : fr M σ σ1) (hm : ∀ j, M c j) : fr M σ (upL σ1 c f) := fun d j hn =>
  ⟨(h d j hn).1, by rw [gL_upL, if_neg (fun g => hn (by rw [g]; exact hm j))]; exact (h d j hn).2.1, (h d j hn).2.2⟩
theorem st_ext {σ τ : St} (h1 : ∀ c j, gI σ c j = gI τ c j) (h2 : ∀ c j, gL σ c j = gL τ c j) (h3 : ∀ c j, gD σ c j = gD τ c j) : σ = τ := by
  obtain ⟨a, b, c⟩ := σ
  obtain ⟨a2, b2, c2⟩ := τ
  have e1 : a = a2 := funext fun x => funext fun y => h1 x y
  have e2 : b = b2 := funext fun x => funext fun y => h2 x y
  have e3 : c = c2 := funext fun x => funext fun y => h3 x y
  subst e1; subst e2; subst e3; rfl
theorem sI_sI {σ : St} {c : Nat} {i v w : Int} : sI (sI σ c i v) c i w = sI σ c i w := st_ext (fun d j => by
  rw [gI_sI, gI_sI, gI_sI]; split <;> rfl) (fun _ _ => rfl) (fun _ _ => rfl)
theorem sI_self {σ : St} {c : Nat} {i : Int} : sI σ c i (gI σ c i) = σ := st_ext (fun d j => by
  rw [gI_sI]; split
  · rename_i h; rw [h.1, h.2]
  · rfl) (fun _ _ => rfl) (fun _ _ => rfl)
/-! bits -/
theorem bb_and1 (l : BitVec 64) : (l &&& BitVec.ofNat 64 1 = BitVec.ofNat 64 0) ↔ l.getLsbD 0 = false := by
  rw [BitVec.and_one_eq_setWidth_ofBool_getLsbD]
  cases l.getLsbD 0 <;> simp
theorem bb_and1' (l : BitVec 64) : (l &&& BitVec.ofNat 64 1 = BitVec.ofNat 64 1) ↔ l.getLsbD 0 = true := by
  rw [BitVec.and_one_eq_setWidth_ofBool_getLsbD]
  cases l.getLsbD 0 <;> simp
theorem bb_shr (l : BitVec 64) (k : Nat) : (l >>> k).getLsbD 0 = l.getLsbD k := by
  rw [BitVec.getLsbD_ushiftRight, Nat.add_zero]
theorem bb_sar (l : BitVec 64) {k : Nat} (hk : k < 64) : (l.sshiftRight k).getLsbD 0 = l.getLsbD k := by
  rw [BitVec.getLsbD_sshiftRight]
  simp
  intro h; omega
theorem bb_one {n i : Nat} (hn : n < 64) : (BitVec.ofNat 64 1 <<< n).getLsbD i = decide (i = n) := by
  rw [BitVec.getLsbD_shiftLeft, BitVec.getLsbD_one]
  by_cases h : i = n
  · subst h; simp [hn]
  · simp only [h, decide_false]
    by_cases h2 : i < n
    · simp [h2]
    · have : ¬ (i - n = 0) := by omega
      simp [this]
theorem sh6_id {z : Int} (h0 : 0 ≤ z) (h1 : z < 64) : sh6 z = z.toNat := by unfold sh6; omega
/-! counting -/
def cn (g : Int → Bool) : Nat → Int
  | 0 => 0
  | n + 1 => cn g n + (if g n = true then 1 else 0)
theorem cn_succ (g : Int → Bool) (n : Nat) : cn g (n + 1) = cn g n + (if g n = true then 1 else 0) := rfl
theorem cn_rng (g : Int → Bool) : ∀ n : Nat, 0 ≤ cn g n ∧ cn g n ≤ n
  | 0 => ⟨Int.le_refl 0, Int.le_refl 0⟩
  | n + 1 => by
    have := cn_rng g n
    rw [cn_succ]
    split <;> omega
theorem cn_mono (g : Int → Bool) {m n : Nat} (h : m ≤ n) : cn g m ≤ cn g n := by
  induction h with
  | refl => exact Int.le_refl _
  | step _ ih => rw [cn_succ]; split <;> omega
theorem cn_congr {g g' : Int → Bool} : ∀ {n : Nat}, (∀ m : Int, 0 ≤ m → m < n → g m = g' m) → cn g n = cn g' n
  | 0, _ => rfl
  | n + 1, h => by rw [cn_succ, cn_succ, cn_congr (n := n) (fun m h0 h1 => h m h0 (by omega)), h n (by omega) (by omega)]
theorem cn_sub {g : Int → Bool} {m n : Nat} (h : m ≤ n) : cn g n - cn g m ≤ (n : Int) - m := by
  induction h with
  | refl => omega
  | step _ ih => rw [cn_succ]; split <;> omega

/-! the program, as the law's cells hold it: P 54 the kinds by place, P 55, P 56, P 57 the operands, P 58 the sizes -/
abbrev Pg : Type := Nat → Int → Int
def tot (P : Pg) : Int := P 58 0 + P 58 1 + P 58 2 + P 58 3
def stt (P : Pg) (f : Int) : Int := if f = 0 then 0 else if f = 1 then P 58 0 else if f = 2 then P 58 0 + P 58 1 else if f = 3 then P 58 0 + P 58 1 + P 58 2 else tot P
def own (P : Pg) (n : Int) : Int := if n < P 58 0 then 0 else if n < P 58 0 + P 58 1 then 1 else if n < P 58 0 + P 58 1 + P 58 2 then 2 else 3
def plc (P : Pg) (n : Int) : Int := 12 * own P n + (n - stt P (own P n))
def num (P : Pg) (p : Int) : Int := stt P (p / 12) + p % 12
def okZ (P : Pg) : Prop := (0 ≤ P 58 0 ∧ P 58 0 ≤ 12) ∧ ((0 ≤ P 58 1 ∧ P 58 1 ≤ 12) ∧ ((0 ≤ P 58 2 ∧ P 58 2 ≤ 12) ∧ (0 ≤ P 58 3 ∧ P 58 3 ≤ 12)))
theorem f4 {f : Int} (h0 : 0 ≤ f) (h1 : f ≤ 3) : f = 0 ∨ f = 1 ∨ f = 2 ∨ f = 3 := by omega
theorem stt0 (P : Pg) : stt P 0 = 0 := rfl
theorem stt1 (P : Pg) : stt P 1 = P 58 0 := rfl
theorem stt2 (P : Pg) : stt P 2 = P 58 0 + P 58 1 := rfl
theorem stt3 (P : Pg) : stt P 3 = P 58 0 + P 58 1 + P 58 2 := rfl
theorem stt4 (P : Pg) : stt P 4 = tot P := rfl
theorem stt_succ (P : Pg) {f : Int} (h0 : 0 ≤ f) (h1 : f ≤ 3) : stt P (f + 1) = stt P f + P 58 f := by
  rcases f4 h0 h1 with rfl | rfl | rfl | rfl
  · rw [stt0, show (0 : Int) + 1 = 1 from rfl, stt1]; omega
  · rw [stt1, show (1 : Int) + 1 = 2 from rfl, stt2]
  · rw [stt2, show (2 : Int) + 1 = 3 from rfl, stt3]
  · rw [stt3, show (3 : Int) + 1 = 4 from rfl, stt4]; rfl
theorem okZ_at {P : Pg} (h : okZ P) {f : Int} (h0 : 0 ≤ f) (h1 : f ≤ 3) : 0 ≤ P 58 f ∧ P 58 f ≤ 12 := by
  rcases f4 h0 h1 with rfl | rfl | rfl | rfl
  · exact h.1
  · exact h.2.1
  · exact h.2.2.1
  · exact h.2.2.2
theorem tot_rng {P : Pg} (h : okZ P) : 0 ≤ tot P ∧ tot P ≤ 48 := by
  obtain ⟨h0, h1, h2, h3⟩ := h
  unfold tot; omega
theorem stt_rng {P : Pg} (h : okZ P) {f : Int} (h0 : 0 ≤ f) (h1 : f ≤ 3) : 0 ≤ stt P f ∧ stt P f + P 58 f ≤ tot P := by
  obtain ⟨g0, g1, g2, g3⟩ := h
  rcases f4 h0 h1 with rfl | rfl | rfl | rfl
  · rw [stt0]; unfold tot; omega
  · rw [stt1]; unfold tot; omega
  · rw [stt2]; unfold tot; omega
  · rw [stt3]; unfold tot; omega
theorem own_of {P : Pg} (h : okZ P) {f k : Int} (h0 : 0 ≤ f) (h1 : f ≤ 3) (k0 : 0 ≤ k) (k1 : k < P 58 f) : own P (stt P f + k) = f := by
  obtain ⟨g0, g1, g2, g3⟩ := h
  rcases f4 h0 h1 with rfl | rfl | rfl | rfl
  · rw [stt0, own, if_pos (by omega)]
  · rw [stt1, own, if_neg (by omega), if_pos (by omega)]
  · rw [stt2, own, if_neg (by omega), if_neg (by omega), if_pos (by omega)]
  · rw [stt3, own, if_neg (by omega), if_neg (by omega), if_neg (by omega)]
theorem plc_of {P : Pg} (h : okZ P) {f k : Int} (h0 : 0 ≤ f) (h1 : f ≤ 3) (k0 : 0 ≤ k) (k1 : k < P 58 f) : plc P (stt P f + k) = 12 * f + k := by
  unfold plc; rw [own_of h h0 h1 k0 k1]; omega
theorem own_spec {P : Pg} (h : okZ P) {n : Int} (h0 : 0 ≤ n) (h1 : n < tot P) : (0 ≤ own P n ∧ own P n ≤ 3) ∧ (stt P (own P n) ≤ n ∧ n < stt P (own P n) + P 58 (own P n)) := by
  obtain ⟨g0, g1, g2, g3⟩ := h
  unfold tot at h1
  unfold own
  by_cases c0 : n < P 58 0
  · simp only [if_pos c0]; rw [stt0]; omega
  · simp only [if_neg c0]
    by_cases c1 : n < P 58 0 + P 58 1
    · simp only [if_pos c1]; rw [stt1]; omega
    · simp only [if_neg c1]
      by_cases c2 : n < P 58 0 + P 58 1 + P 58 2
      · simp only [if_pos c2]; rw [stt2]; omega
      · simp only [if_neg c2]; rw [stt3]; omega
/-- every statement is some function's some statement -/
theorem n_split {P : Pg} (h : okZ P) {n : Int} (h0 : 0 ≤ n) (h1 : n < tot P) : ∃ f k : Int, (0 ≤ f ∧ f ≤ 3) ∧ (0 ≤ k ∧ k < P 58 f) ∧ n = stt P f + k := by
  obtain ⟨h2, h3, h4⟩ := own_spec h h0 h1
  exact ⟨own P n, n - stt P (own P n), h2, ⟨by omega, by omega⟩, by omega⟩
theorem plc_rng {P : Pg} (h : okZ P) {n : Int} (h0 : 0 ≤ n) (h1 : n < tot P) : 0 ≤ plc P n ∧ plc P n < 48 := by
  obtain ⟨h2, h3, h4⟩ := own_spec h h0 h1
  have := okZ_at h h2.1 h2.2
  unfold plc; omega
theorem plc_div {P : Pg} (h : okZ P) {n : Int} (h0 : 0 ≤ n) (h1 : n < tot P) : plc P n / 12 = own P n := by
  obtain ⟨h2, h3, h4⟩ := own_spec h h0 h1
  have := okZ_at h h2.1 h2.2
  unfold plc; omega
theorem num_plc {P : Pg} (h : okZ P) {n : Int} (h0 : 0 ≤ n) (h1 : n < tot P) : num P (plc P n) = n := by
  unfold num
  rw [plc_div h h0 h1]
  obtain ⟨h2, h3, h4⟩ := own_spec h h0 h1
  have := okZ_at h h2.1 h2.2
  have e : plc P n % 12 = n - stt P (own P n) := by unfold plc; omega
  rw [e]; omega
theorem num_of {P : Pg} {f k : Int} (k0 : 0 ≤ k) (k1 : k < 12) : num P (12 * f + k) = stt P f + k := by
  unfold num
  rw [show (12 * f + k) / 12 = f by omega, show (12 * f + k) % 12 = k by omega]
/-- of a statement by its number: kind, operands, site -/
def kd (P : Pg) (n : Int) : Int := P 54 (plc P n)
def vv (P : Pg) (n : Int) : Int := P 55 (plc P n)
def ww (P : Pg) (n : Int) : Int := P 56 (plc P n)
def nn (P : Pg) (n : Int) : Int := P 57 (plc P n)
def sn (P : Pg) (n : Int) : Int := cn (fun m => kd P m == 4) n.toNat
/-- statements of a kind, but those of a function -/
def mny (P : Pg) (q wo : Int) : Int := cn (fun m => (own P m != wo) && (kd P m == q)) (tot P).toNat
def okP (P : Pg) : Prop := okZ P ∧ ((∀ n, 0 ≤ n → n < tot P → (0 ≤ kd P n ∧ kd P n ≤ 6) ∧ ((0 ≤ vv P n ∧ vv P n ≤ 19) ∧ ((0 ≤ ww P n ∧ ww P n ≤ 19) ∧ (0 ≤ nn P n ∧ nn P n ≤ 3))) ∧ (kd P n = 5 → nn P n ≤ 2)) ∧ (mny P 4 (-1) ≤ 8 ∧ mny P 6 (-1) ≤ 5))
theorem sn_succ {P : Pg} {n : Int} (h : 0 ≤ n) : sn P (n + 1) = sn P n + (if kd P n = 4 then 1 else 0) := by
  unfold sn
  rw [show (n + 1).toNat = n.toNat + 1 by omega, cn_succ, show ((n.toNat : Nat) : Int) = n by omega]
  simp only [beq_iff_eq]
theorem sn_rng {P : Pg} {n : Int} (h : 0 ≤ n) : 0 ≤ sn P n ∧ sn P n ≤ n := by
  have := cn_rng (fun m => kd P m == 4) n.toNat
  unfold sn; omega
theorem sn_mono {P : Pg} {m n : Int} (h : m ≤ n) : sn P m ≤ sn P n := cn_mono _ (by omega)
theorem mny_all {P : Pg} (h : okZ P) : mny P 4 (-1) = sn P (tot P) := by
  unfold mny sn
  apply cn_congr
  intro m h0 h1
  have := tot_rng h
  obtain ⟨h2, -⟩ := own_spec h h0 (by omega)
  have : (own P m != -1) = true := by simp; omega
  rw [this, Bool.true_and]

/-! contexts: a function and a key as one number, e = 2353 * f + key -/
def lst (k : Int) : Int := if 49 ≤ k then (k - 49) % 48 else k - 1
def ext (lim k c : Int) : Int := if lim = 0 then 0 else if lim = 1 ∨ k = 0 then 1 + c else 49 + lst k * 48 + c
def isCall (P : Pg) (c : Int) : Prop := 0 ≤ c ∧ (c < tot P ∧ kd P c = 6)
def stepC (P : Pg) (lim e e' : Int) : Prop := ∃ c, isCall P c ∧ (own P c = e / 2353 ∧ e' = nn P c * 2353 + ext lim (e % 2353) c)
/-- the contexts there are -/
def RS (P : Pg) (lim e : Int) : Prop := ∀ X : Int → Prop, X 0 → (∀ a b, X a → stepC P lim a b → X b) → X e
theorem RS_0 (P : Pg) (lim : Int) : RS P lim 0 := fun _ h _ => h
theorem RS_step {P : Pg} {lim a b : Int} (ha : RS P lim a) (h : stepC P lim a b) : RS P lim b := fun X h0 hs => hs a b (ha X h0 hs) h
/-- what a context looks like -/
def VE (P : Pg) (lim e : Int) : Prop := e = 0 ∨ ∃ c, isCall P c ∧ ((lim = 0 ∧ e = nn P c * 2353) ∨ ((lim ≠ 0 ∧ e = nn P c * 2353 + (1 + c)) ∨ (lim ≠ 0 ∧ ∃ l, isCall P l ∧ e = nn P c * 2353 + (49 + l * 48 + c))))
theorem call_rng {P : Pg} (hP : okP P) {c : Int} (h : isCall P c) : (0 ≤ c ∧ c < 48) ∧ (0 ≤ nn P c ∧ nn P c ≤ 3) := by
  have h1 := tot_rng hP.1
  have h2 := (hP.2.1 c h.1 h.2.1).2.1.2.2
  exact ⟨⟨h.1, by have := h.2.1; omega⟩, h2⟩
theorem VE_key {P : Pg} (hP : okP P) {lim e : Int} (h : VE P lim e) : (0 ≤ e ∧ e < 9412) ∧ (e % 2353 = 0 ∨ ((1 ≤ e % 2353 ∧ e % 2353 < 49 ∧ isCall P (e % 2353 - 1)) ∨ (49 ≤ e % 2353 ∧ isCall P ((e % 2353 - 49) / 48) ∧ isCall P ((e % 2353 - 49) % 48)))) := by
  rcases h with rfl | ⟨c, hc, h⟩
  · exact ⟨by omega, Or.inl rfl⟩
  · have h1 := call_rng hP hc
    rcases h with ⟨_, rfl⟩ | ⟨_, rfl⟩ | ⟨_, l, hl, rfl⟩
    · exact ⟨by omega, Or.inl (by omega)⟩
    · refine ⟨by omega, Or.inr (Or.inl ?_)⟩
      rw [show (nn P c * 2353 + (1 + c)) % 2353 = 1 + c by omega]
      exact ⟨by omega, by omega, by rw [show 1 + c - 1 = c by omega]; exact hc⟩
    · have h2 := call_rng hP hl
      refine ⟨by omega, Or.inr (Or.inr ?_)⟩
      rw [show (nn P c * 2353 + (49 + l * 48 + c)) % 2353 = 49 + l * 48 + c by omega]
      refine ⟨by omega, ?_, ?_⟩
      · rw [show (49 + l * 48 + c - 49) / 48 = l by omega]; exact hl
      · rw [show (49 + l * 48 + c - 49) % 48 = c by omega]; exact hc
theorem lst_call {P : Pg} (hP : okP P) {lim e : Int} (h : VE P lim e) (hk : e % 2353 ≠ 0) : isCall P (lst (e % 2353)) := by
  obtain ⟨-, h0 | ⟨h1, h2, h3⟩ | ⟨h1, -, h3⟩⟩ := VE_key hP h
  · exact absurd h0 hk
  · unfold lst; rw [if_neg (by omega)]; exact h3
  · unfold lst; rw [if_pos h1]; exact h3
theorem VE_step {P : Pg} (hP : okP P) {lim a b : Int} (ha : VE P lim a) (h : stepC P lim a b) : VE P lim b := by
  obtain ⟨c, hc, -, rfl⟩ := h
  refine Or.inr ⟨c, hc, ?_⟩
  unfold ext
  by_cases h0 : lim = 0
  · rw [if_pos h0]; exact Or.inl ⟨h0, by omega⟩
  · rw [if_neg h0]
    by_cases h1 : lim = 1 ∨ a % 2353 = 0
    · rw [if_pos h1]; exact Or.inr (Or.inl ⟨h0, rfl⟩)
    · rw [if_neg h1]
      exact Or.inr (Or.inr ⟨h0, lst (a % 2353), lst_call hP ha (fun g => h1 (Or.inr g)), rfl⟩)
theorem RS_VE {P : Pg} (hP : okP P) {lim e : Int} (h : RS P lim e) : VE P lim e := h (VE P lim) (Or.inl rfl) (fun _ _ ha hs => VE_step hP ha hs)
theorem RS_rng {P : Pg} (hP : okP P) {lim e : Int} (h : RS P lim e) : 0 ≤ e ∧ e < 9412 := (VE_key hP (RS_VE hP h)).1
/-- how many calls before a statement -/
def co (P : Pg) (c : Int) : Int := cn (fun m => kd P m == 6) c.toNat
theorem co_lt {P : Pg} {c d : Int} (hc : isCall P c) (h : c < d) : co P c < co P d := by
  unfold co
  have h0 := hc.1
  have e : cn (fun m => kd P m == 6) (c.toNat + 1) = cn (fun m => kd P m == 6) c.toNat + 1 := by
    rw [cn_succ, if_pos]
    have : ((c.toNat : Nat) : Int) = c := by omega
    rw [this, beq_iff_eq]; exact hc.2.2
  have := cn_mono (fun m => kd P m == 6) (m := c.toNat + 1) (n := d.toNat) (by omega)
  omega
theorem co_inj {P : Pg} {c d : Int} (hc : isCall P c) (hd : isCall P d) (h : co P c = co P d) : c = d := by
  rcases Int.lt_trichotomy c d with g | g | g
  · have := co_lt hc g; omega
  · exact g
  · have := co_lt hd g; omega
theorem mny_all6 {P : Pg} (h : okZ P) (q : Int) : mny P q (-1) = cn (fun m => kd P m == q) (tot P).toNat := by
  unfold mny
  apply cn_congr
  intro m h0 h1
  have := tot_rng h
  obtain ⟨h2, -⟩ := own_spec h h0 (by omega)
  have : (own P m != -1) = true := by simp; omega
  rw [this, Bool.true_and]
theorem co_rng {P : Pg} (hP : okP P) {c : Int} (hc : isCall P c) : 0 ≤ co P c ∧ co P c < 5 := by
  have h1 := co_lt hc (d := tot P) hc.2.1
  have h2 : co P (tot P) = mny P 6 (-1) := by rw [mny_all6 hP.1]; rfl
  have h3 := hP.2.2.2
  have h4 := cn_rng (fun m => kd P m == 6) c.toNat
  unfold co at *; omega
def cix (P : Pg) (e : Int) : Int := if e % 2353 = 0 then e / 2353 else if e % 2353 < 49 then 1 + co P (e % 2353 - 1) else 6 + 5 * co P ((e % 2353 - 49) / 48) + co P ((e % 2353 - 49) % 48)
theorem cix_rng {P : Pg} (hP : okP P) {lim e : Int} (h : VE P lim e) : 0 ≤ cix P e ∧ cix P e < 31 := by
  obtain ⟨h0, h1 | ⟨h1, h2, h3⟩ | ⟨h1, h2, h3⟩⟩ := VE_key hP h
  · unfold cix; rw [if_pos h1]; omega
  · have := co_rng hP h3
    unfold cix; rw [if_neg (by omega), if_pos h2]; omega
  · have g2 := co_rng hP h2
    have g3 := co_rng hP h3
    unfold cix; rw [if_neg (by omega), if_neg (by omega)]; omega
/-- a context, by what its key says -/
theorem VE_cases {P : Pg} (hP : okP P) {lim e : Int} (h : VE P lim e) :
    (e % 2353 = 0 ∧ (lim = 0 ∨ e = 0)) ∨ (lim ≠ 0 ∧ e % 2353 ≠ 0 ∧ e / 2353 = nn P (lst (e % 2353))) := by
  rcases h with rfl | ⟨c, hc, h⟩
  · exact Or.inl ⟨rfl, Or.inr rfl⟩
  · have h1 := call_rng hP hc
    rcases h with ⟨h0, rfl⟩ | ⟨h0, rfl⟩ | ⟨h0, l, hl, rfl⟩
    · exact Or.inl ⟨by omega, Or.inl h0⟩
    · refine Or.inr ⟨h0, by omega, ?_⟩
      rw [show (nn P c * 2353 + (1 + c)) % 2353 = 1 + c by omega, show (nn P c * 2353 + (1 + c)) / 2353 = nn P c by omega]
      unfold lst; rw [if_neg (by omega), show 1 + c - 1 = c by omega]
    · have h2 := call_rng hP hl
      have e9 : (nn P c * 2353 + (49 + l * 48 + c)) % 2353 = 49 + l * 48 + c := by omega
      refine Or.inr ⟨h0, by rw [e9]; omega, ?_⟩
      rw [e9, show (nn P c * 2353 + (49 + l * 48 + c)) / 2353 = nn P c by omega]
      unfold lst; rw [if_pos (by omega), show (49 + l * 48 + c - 49) % 48 = c by omega]
theorem cix_inj {P : Pg} (hP : okP P) {lim a b : Int} (ha : VE P lim a) (hb : VE P lim b) (h : cix P a = cix P b) : a = b := by
  have ka := VE_key hP ha
  have kb := VE_key hP hb
  have ca := VE_cases hP ha
  have cb := VE_cases hP hb
  have key : a % 2353 = b % 2353 → a = b := fun g => by
    rcases ca with ⟨h1, h2⟩ | ⟨h1, h2, h3⟩
    · rcases cb with ⟨h4, h5⟩ | ⟨h4, h5, h6⟩
      · unfold cix at h; rw [if_pos h1, if_pos h4] at h; omega
      · omega
    · rcases cb with ⟨h4, h5⟩ | ⟨h4, h5, h6⟩
      · omega
      · rw [g] at h3; omega
  apply key
  obtain ⟨a0, a1 | ⟨a1, a2, a3⟩ | ⟨a1, a2, a3⟩⟩ := ka <;> obtain ⟨b0, b1 | ⟨b1, b2, b3⟩ | ⟨b1, b2, b3⟩⟩ := kb
  · omega
  · have := co_rng hP b3
    rcases ca with ⟨_, h2⟩ | ⟨_, h2, _⟩
    · rcases cb with ⟨h4, _⟩ | ⟨h4, _, _⟩
      · omega
      · unfold cix at h; rw [if_pos a1, if_neg (by omega), if_pos b2] at h; omega
    · omega
  · have := co_rng hP b3
    have := co_rng hP b2
    rcases ca with ⟨_, h2⟩ | ⟨_, h2, _⟩
    · rcases cb with ⟨h4, _⟩ | ⟨h4, _, _⟩
      · omega
      · unfold cix at h; rw [if_pos a1, if_neg (by omega), if_neg (by omega)] at h; omega
    · omega
  · have := co_rng hP a3
    rcases cb with ⟨_, h2⟩ | ⟨_, h2, _⟩
    · rcases ca with ⟨h4, _⟩ | ⟨h4, _, _⟩
      · omega
      · unfold cix at h; rw [if_pos b1, if_neg (by omega), if_pos a2] at h; omega
    · omega
  · unfold cix at h; rw [if_neg (by omega), if_pos a2, if_neg (by omega), if_pos b2] at h
    have := co_inj a3 b3 (by omega)
    omega
  · have g1 := co_rng hP a3
    have g2 := co_rng hP b2
    have g3 := co_rng hP b3
    unfold cix at h; rw [if_neg (by omega), if_pos a2, if_neg (by omega), if_neg (by omega)] at h
    omega
  · have := co_rng hP a3
    have := co_rng hP a2
    rcases cb with ⟨_, h2⟩ | ⟨_, h2, _⟩
    · rcases ca with ⟨h4, _⟩ | ⟨h4, _, _⟩
      · omega
      · unfold cix at h; rw [if_pos b1, if_neg (by omega), if_neg (by omega)] at h; omega
    · omega
  · have g1 := co_rng hP b3
    have g2 := co_rng hP a2
    have g3 := co_rng hP a3
    unfold cix at h; rw [if_neg (by omega), if_neg (by omega), if_neg (by omega), if_pos b2] at h
    omega
  · have g1 := co_rng hP b3
    have g2 := co_rng hP a2
    have g3 := co_rng hP a3
    have g4 := co_rng hP b2
    unfold cix at h; rw [if_neg (by omega), if_neg (by omega), if_neg (by omega), if_neg (by omega)] at h
    have e1 := co_inj a2 b2 (by omega)
    have e2 := co_inj a3 b3 (by omega)
    omega
/-! lists of ints -/
theorem pig : ∀ (n : Nat) (xs : List Int), xs.Nodup → (∀ x ∈ xs, 0 ≤ x ∧ x < n) → xs.length ≤ n
  | 0, [], _, _ => Nat.le_refl 0
  | 0, x :: _, _, h => by have := h x List.mem_cons_self; omega
  | n + 1, xs, hd, h => by
    by_cases hm : (n : Int) ∈ xs
    · have h1 := pig n (xs.erase n) (hd.erase _) (fun x hx => by
        have h2 := (hd.mem_erase_iff).mp hx
        have h3 := h x h2.2
        have : x ≠ (n : Int) := h2.1
        omega)
      rw [List.length_erase_of_mem hm] at h1
      omega
    · have h1 := pig n xs hd (fun x hx => by
        have h3 := h x hx
        have : x ≠ (n : Int) := fun e => hm (e ▸ hx)
        omega)
      omega
theorem cx_len {P : Pg} (hP : okP P) {lim : Int} {xs : List Int} (hd : xs.Nodup) (h : ∀ e ∈ xs, RS P lim e) : xs.length ≤ 31 := by
  have h1 := pig 31 (xs.map (cix P)) (by
    unfold List.Nodup
    rw [List.pairwise_map]
    refine List.Pairwise.imp_of_mem (fun {a b} ha hb hne e => hne (cix_inj hP (RS_VE hP (h a ha)) (RS_VE hP (h b hb)) e)) hd) (fun x hx => by
    obtain ⟨e, he, rfl⟩ := List.mem_map.mp hx
    exact cix_rng hP (RS_VE hP (h e he)))
  rw [List.length_map] at h1
  exact h1
/-- strictly ascending lists with the same members are the same -/
theorem asc_eq : ∀ {xs ys : List Int}, xs.Pairwise (· < ·) → ys.Pairwise (· < ·) → (∀ e, e ∈ xs ↔ e ∈ ys) → xs = ys
  | [], [], _, _, _ => rfl
  | [], y :: ys, _, _, h => absurd ((h y).mpr List.mem_cons_self) (List.not_mem_nil)
  | x :: xs, [], _, _, h => absurd ((h x).mp List.mem_cons_self) (List.not_mem_nil)
  | x :: xs, y :: ys, hx, hy, h => by
    rw [List.pairwise_cons] at hx hy
    have e : x = y := by
      rcases List.mem_cons.mp ((h x).mp List.mem_cons_self) with g | g
      · exact g
      · rcases List.mem_cons.mp ((h y).mpr List.mem_cons_self) with g2 | g2
        · exact g2.symm
        · have := hy.1 x g; have := hx.1 y g2; omega
    subst e
    have : xs = ys := asc_eq hx.2 hy.2 (fun e => by
      constructor
      · intro he
        rcases List.mem_cons.mp ((h e).mp (List.mem_cons_of_mem _ he)) with g | g
        · have := hx.1 e he; omega
        · exact g
      · intro he
        rcases List.mem_cons.mp ((h e).mpr (List.mem_cons_of_mem _ he)) with g | g
        · have := hy.1 e he; omega
        · exact g)
    rw [this]
def isC (P : Pg) (lim : Int) (xs : List Int) : Prop := xs.Pairwise (· < ·) ∧ ∀ e, e ∈ xs ↔ RS P lim e
theorem isC_eq {P : Pg} {lim : Int} {xs ys : List Int} (hx : isC P lim xs) (hy : isC P lim ys) : xs = ys := asc_eq hx.1 hy.1 (fun e => (hx.2 e).trans (hy.2 e).symm)
theorem asc_nd {xs : List Int} (h : xs.Pairwise (· < ·)) : xs.Nodup := List.Pairwise.imp (fun {a b} (g : a < b) e => by omega) h
theorem isC_len {P : Pg} (hP : okP P) {lim : Int} {xs : List Int} (h : isC P lim xs) : xs.length ≤ 31 := cx_len hP (asc_nd h.1) (fun e he => (h.2 e).mp he)
/-- the law's code of a key -/
def cod (k : Int) : Int := if k = 0 then 0 else if k < 49 then 10000 + (k - 1) else 20000 + (k - 49) / 48 * 100 + (k - 49) % 48
theorem cod_0 : cod 0 = 0 := rfl
theorem cod_s {k : Int} (h0 : k ≠ 0) (h1 : k < 49) : cod k = 10000 + (k - 1) := by unfold cod; rw [if_neg h0, if_pos h1]
theorem cod_p {k : Int} (h1 : 49 ≤ k) : cod k = 20000 + (k - 49) / 48 * 100 + (k - 49) % 48 := by unfold cod; rw [if_neg (by omega), if_neg (by omega)]
theorem cod_lt {j k : Int} (h0 : 0 ≤ j) (h1 : j < k) (h2 : k < 2353) : cod j < cod k := by
  by_cases a : j = 0
  · subst a
    rw [cod_0]
    by_cases b : k < 49
    · rw [cod_s (by omega) b]; omega
    · rw [cod_p (by omega)]; omega
  · by_cases b : k < 49
    · rw [cod_s (by omega) b, cod_s a (by omega)]; omega
    · rw [cod_p (k := k) (by omega)]
      by_cases c : j < 49
      · rw [cod_s a c]; omega
      · rw [cod_p (by omega)]; omega
theorem cod_ext {k c lim : Int} (h0 : 0 ≤ k) (h1 : k < 2353) (c0 : 0 ≤ c) (c1 : c < 48) : cod (ext lim k c) = if lim = 0 then 0 else if lim = 1 ∨ cod k = 0 then 10000 + c else 20000 + cod k % 100 * 100 + c := by
  have e0 : cod k = 0 ↔ k = 0 := by
    unfold cod
    by_cases a : k = 0
    · simp [a]
    · rw [if_neg a]; split <;> omega
  unfold ext
  by_cases l0 : lim = 0
  · rw [if_pos l0, if_pos l0]; rfl
  · rw [if_neg l0, if_neg l0]
    by_cases l1 : lim = 1 ∨ k = 0
    · rw [if_pos l1, if_pos (by rw [e0]; exact l1)]
      unfold cod; rw [if_neg (by omega), if_pos (by omega)]; omega
    · rw [if_neg l1, if_neg (by rw [e0]; exact l1)]
      have hk : k ≠ 0 := fun g => l1 (Or.inr g)
      have hl : cod k % 100 = lst k := by
        unfold cod lst
        rw [if_neg hk]
        by_cases b : k < 49
        · rw [if_pos b, if_neg (by omega)]; omega
        · rw [if_neg b, if_pos (by omega)]; omega
      rw [hl]
      have : 0 ≤ lst k ∧ lst k < 48 := by unfold lst; split <;> omega
      rw [show cod (49 + lst k * 48 + c) = 20000 + (49 + lst k * 48 + c - 49) / 48 * 100 + (49 + lst k * 48 + c - 49) % 48 by
        unfold cod; rw [if_neg (by omega), if_neg (by omega)]]
      omega

/-! closing a graph -/
def TC (E : Int → Int → Prop) (a b : Int) : Prop := ∀ X : Int → Int → Prop, (∀ a b, E a b → X a b) → (∀ a b c, X a b → X b c → X a c) → X a b
theorem TC_base {E : Int → Int → Prop} {a b : Int} (h : E a b) : TC E a b := fun _ h1 _ => h1 a b h
theorem TC_trans {E : Int → Int → Prop} {a b c : Int} (h : TC E a b) (g : TC E b c) : TC E a c := fun X h1 h2 => h2 a b c (h X h1 h2) (g X h1 h2)
/-- what is closed under the edges holds all that is reached -/
theorem TC_sub {E : Int → Int → Prop} {v t : Int} {S : Int → Prop} (h : TC E v t) (h1 : ∀ t, E v t → S t) (h2 : ∀ a b, S a → E a b → S b) : S t :=
  h (fun a b => (a = v ∨ S a) → S b) (fun a b e g => by
    rcases g with rfl | g
    · exact h1 b e
    · exact h2 a b g e) (fun a b c x y g => y (Or.inr (x g))) (Or.inl rfl)
theorem TC_mono {E F : Int → Int → Prop} (h : ∀ a b, E a b → F a b) {a b : Int} (g : TC E a b) : TC F a b := g (TC F) (fun a b e => TC_base (h a b e)) (fun _ _ _ x y => TC_trans x y)
theorem TC_iff {E F : Int → Int → Prop} (h : ∀ a b, E a b ↔ F a b) {a b : Int} : TC E a b ↔ TC F a b := ⟨TC_mono (fun a b => (h a b).mp), TC_mono (fun a b => (h a b).mpr)⟩
/-- one middle more -/
theorem ws_step {R R' : Int → Int → Prop} {m : Int} (hR : ∀ a b, R' a b ↔ (R a b ∨ (R a m ∧ R m b))) (h : ∀ k, 0 ≤ k → k < m → ∀ a b, R a k → R k b → R a b) : ∀ k, 0 ≤ k → k < m + 1 → ∀ a b, R' a k → R' k b → R' a b := by
  intro k h0 h1 a b ha hb
  rw [hR] at ha hb ⊢
  by_cases hk : k = m
  · subst hk
    have ha2 : R a k := by rcases ha with g | ⟨g, -⟩ <;> exact g
    have hb2 : R k b := by rcases hb with g | ⟨-, g⟩ <;> exact g
    exact Or.inr ⟨ha2, hb2⟩
  · have hk2 : k < m := by omega
    rcases ha with ha | ⟨ha1, ha2⟩
    · rcases hb with hb | ⟨hb1, hb2⟩
      · exact Or.inl (h k h0 hk2 a b ha hb)
      · exact Or.inr ⟨h k h0 hk2 a m ha hb1, hb2⟩
    · rcases hb with hb | ⟨hb1, hb2⟩
      · exact Or.inr ⟨ha1, h k h0 hk2 m b ha2 hb⟩
      · exact Or.inr ⟨ha1, hb2⟩
/-! terms T(T(..x)), congruence -/
abbrev Tm : Type := Int × Nat
def tU (a : Tm) : Tm := (a.1, a.2 + 1)
def cg (Eq : Tm → Tm → Prop) (a b : Tm) : Prop := ∀ R : Tm → Tm → Prop, (∀ x, R x x) → (∀ x y, R x y → R y x) → (∀ x y z, R x y → R y z → R x z) → (∀ x y, R x y → R (tU x) (tU y)) → (∀ x y, Eq x y → R x y) → R a b
theorem cg_refl {Eq : Tm → Tm → Prop} (a : Tm) : cg Eq a a := fun _ h _ _ _ _ => h a
theorem cg_symm {Eq : Tm → Tm → Prop} {a b : Tm} (h : cg Eq a b) : cg Eq b a := fun R h1 h2 h3 h4 h5 => h2 a b (h R h1 h2 h3 h4 h5)
theorem cg_trans {Eq : Tm → Tm → Prop} {a b c : Tm} (h : cg Eq a b) (g : cg Eq b c) : cg Eq a c := fun R h1 h2 h3 h4 h5 => h3 a b c (h R h1 h2 h3 h4 h5) (g R h1 h2 h3 h4 h5)
theorem cg_U {Eq : Tm → Tm → Prop} {a b : Tm} (h : cg Eq a b) : cg Eq (tU a) (tU b) := fun R h1 h2 h3 h4 h5 => h4 a b (h R h1 h2 h3 h4 h5)
theorem cg_eq {Eq : Tm → Tm → Prop} {a b : Tm} (h : Eq a b) : cg Eq a b := fun _ _ _ _ _ h5 => h5 a b h
theorem cg_mono {E F : Tm → Tm → Prop} (h : ∀ a b, E a b → cg F a b) {a b : Tm} (g : cg E a b) : cg F a b :=
  g (cg F) (fun _ => cg_refl _) (fun _ _ => cg_symm) (fun _ _ _ => cg_trans) (fun _ _ => cg_U) h
/-- what a term stands for: a root, and how often T stands before it -/
def dU (ρ π : Int → Int) (d : Int × Nat) : Int × Nat := if d.2 = 0 then (if π d.1 = -1 then (d.1, 1) else (ρ (π d.1), 0)) else (d.1, d.2 + 1)
def den (ρ π : Int → Int) (x : Int) : Nat → Int × Nat
  | 0 => (ρ x, 0)
  | n + 1 => dU ρ π (den ρ π x n)
def dn (ρ π : Int → Int) (a : Tm) : Int × Nat := den ρ π a.1 a.2
theorem dn_U (ρ π : Int → Int) (a : Tm) : dn ρ π (tU a) = dU ρ π (dn ρ π a) := rfl
theorem dn_cg {ρ π : Int → Int} {Eq : Tm → Tm → Prop} (h : ∀ a b, Eq a b → dn ρ π a = dn ρ π b) {a b : Tm} (g : cg Eq a b) : dn ρ π a = dn ρ π b :=
  g (fun a b => dn ρ π a = dn ρ π b) (fun _ => rfl) (fun _ _ h => h.symm) (fun _ _ _ h k => h.trans k) (fun x y h => by rw [dn_U, dn_U, h]) h
/-- roots and pointees, N nodes, tm the nodes' terms -/
def UR (N : Int) (ρ π : Int → Int) : Prop := ∀ k, 0 ≤ k → k < N → ((0 ≤ ρ k ∧ ρ k < N) ∧ ρ (ρ k) = ρ k) ∧ (ρ k = k → π k = -1 ∨ (0 ≤ π k ∧ π k < N))
def USnd (N : Int) (ρ π : Int → Int) (tm : Int → Tm) (Eq : Tm → Tm → Prop) : Prop := ∀ k, 0 ≤ k → k < N → cg Eq (tm k) (tm (ρ k)) ∧ (ρ k = k → π k ≠ -1 → cg Eq (tU (tm k)) (tm (π k)))
def UC (N : Int) (ρ π : Int → Int) (tm : Int → Tm) (Eq : Tm → Tm → Prop) : Prop := (∀ a b, Eq a b → dn ρ π a = dn ρ π b) ∧ (∀ k, 0 ≤ k → k < N → dn ρ π (tm k) = (ρ k, 0))
def US (N : Int) (ρ π : Int → Int) (tm : Int → Tm) (Eq : Tm → Tm → Prop) : Prop := UR N ρ π ∧ (USnd N ρ π tm Eq ∧ (UC N ρ π tm Eq ∧ (∀ k, 0 ≤ k → k < N → ((tm k).1 ≥ 0 ∧ (tm k).1 < N))))
theorem US_iff {N : Int} {ρ π : Int → Int} {tm : Int → Tm} {Eq : Tm → Tm → Prop} (h : US N ρ π tm Eq) {a b : Int} (a0 : 0 ≤ a) (a1 : a < N) (b0 : 0 ≤ b) (b1 : b < N) : ρ a = ρ b ↔ cg Eq (tm a) (tm b) := by
  constructor
  · intro e
    have h1 := (h.2.1 a a0 a1).1
    have h2 := (h.2.1 b b0 b1).1
    rw [e] at h1
    exact cg_trans h1 (cg_symm h2)
  · intro g
    have := dn_cg h.2.2.1.1 g
    rw [h.2.2.1.2 a a0 a1, h.2.2.1.2 b b0 b1] at this
    exact congrArg Prod.fst this
theorem US_eqv {N : Int} {ρ π : Int → Int} {tm : Int → Tm} {E F : Tm → Tm → Prop} (h : US N ρ π tm E) (h1 : ∀ a b, E a b → cg F a b) (h2 : ∀ a b, F a b → cg E a b) : US N ρ π tm F :=
  ⟨h.1, fun k k0 k1 => ⟨cg_mono h1 (h.2.1 k k0 k1).1, fun e n => cg_mono h1 ((h.2.1 k k0 k1).2 e n)⟩, ⟨fun a b g => dn_cg h.2.2.1.1 (h2 a b g), h.2.2.1.2⟩, h.2.2.2⟩
/-- from one state to another that joins more -/
def Hom (N : Int) (ρ π ρ' π' : Int → Int) : Prop := (∀ k, 0 ≤ k → k < N → ρ' (ρ k) = ρ' k) ∧ (∀ k, 0 ≤ k → k < N → ρ k = k → π k ≠ -1 → π' (ρ' k) ≠ -1 ∧ ρ' (π' (ρ' k)) = ρ' (π k))
def hmm (ρ' π' : Int → Int) (r : Int) : Nat → Int × Nat
  | 0 => (ρ' r, 0)
  | n + 1 => dU ρ' π' (hmm ρ' π' r n)
theorem hom_dn {N : Int} {ρ π ρ' π' : Int → Int} (hU : UR N ρ π) (h : Hom N ρ π ρ' π') {x : Int} (x0 : 0 ≤ x) (x1 : x < N) : ∀ n, (0 ≤ (den ρ π x n).1 ∧ (den ρ π x n).1 < N ∧ ρ (den ρ π x n).1 = (den ρ π x n).1) ∧ den ρ' π' x n = hmm ρ' π' (den ρ π x n).1 (den ρ π x n).2
  | 0 => by
    have h1 := (hU x x0 x1).1
    refine ⟨⟨h1.1.1, h1.1.2, h1.2⟩, ?_⟩
    show (ρ' x, 0) = (ρ' (ρ x), 0)
    rw [h.1 x x0 x1]
  | n + 1 => by
    obtain ⟨⟨g0, g1, g2⟩, g3⟩ := hom_dn hU h x0 x1 n
    have e1 : den ρ π x (n + 1) = dU ρ π (den ρ π x n) := rfl
    have e2 : den ρ' π' x (n + 1) = dU ρ' π' (den ρ' π' x n) := rfl
    rw [e1, e2, g3]
    generalize den ρ π x n = d at g0 g1 g2 g3 ⊢
    obtain ⟨r, m⟩ := d
    cases m with
    | succ m => exact ⟨⟨g0, g1, g2⟩, rfl⟩
    | zero =>
      by_cases hp : π r = -1
      · have e : dU ρ π (r, 0) = (r, 1) := by unfold dU; rw [if_pos rfl, if_pos hp]
        rw [e]
        exact ⟨⟨g0, g1, g2⟩, rfl⟩
      · have e : dU ρ π (r, 0) = (ρ (π r), 0) := by unfold dU; rw [if_pos rfl, if_neg hp]
        rw [e]
        have hr := hU r g0 g1
        have hq : 0 ≤ π r ∧ π r < N := by
          rcases hr.2 g2 with q | q
          · exact absurd q hp
          · exact q
        have h1 := (hU (π r) hq.1 hq.2).1
        refine ⟨⟨h1.1.1, h1.1.2, h1.2⟩, ?_⟩
        obtain ⟨k1, k2⟩ := h.2 r g0 g1 g2 hp
        show dU ρ' π' (ρ' r, 0) = (ρ' (ρ (π r)), 0)
        unfold dU
        rw [if_pos rfl, if_neg k1, k2, h.1 (π r) hq.1 hq.2]
theorem hom_eq {N : Int} {ρ π ρ' π' : Int → Int} (hU : UR N ρ π) (h : Hom N ρ π ρ' π') {a b : Tm} (ha : a.1 ≥ 0 ∧ a.1 < N) (hb : b.1 ≥ 0 ∧ b.1 < N) (e : dn ρ π a = dn ρ π b) : dn ρ' π' a = dn ρ' π' b := by
  have h1 := (hom_dn hU h ha.1 ha.2 a.2).2
  have h2 := (hom_dn hU h hb.1 hb.2 b.2).2
  unfold dn at *
  rw [h1, h2, e]
/-- the join's state: (p, q) are still to be joined -/
def smj (ρ : Int → Int) (p q x y : Int) : Prop := ρ x = ρ y ∨ (ρ x = ρ p ∧ ρ y = ρ q) ∨ (ρ x = ρ q ∧ ρ y = ρ p)
def JI (N : Int) (ρ0 π0 : Int → Int) (a b : Int) (tm : Int → Tm) (Eq : Tm → Tm → Prop) (ρ π : Int → Int) (p q : Int) : Prop :=
  UR N ρ π ∧ (USnd N ρ π tm Eq ∧ (((0 ≤ p ∧ p < N) ∧ (0 ≤ q ∧ q < N)) ∧ (cg Eq (tm p) (tm q) ∧ ((∀ k, 0 ≤ k → k < N → ρ (ρ0 k) = ρ k) ∧ ((∀ k, 0 ≤ k → k < N → ρ0 k = k → π0 k ≠ -1 → π (ρ k) ≠ -1 ∧ smj ρ p q (π (ρ k)) (π0 k)) ∧ smj ρ p q a b)))))
def jρ (ρ : Int → Int) (x y : Int) : Int → Int := fun k => if ρ k = y then x else ρ k
def jπ (π : Int → Int) (x y : Int) : Int → Int := fun k => if k = x then (if π x = -1 then π y else π x) else π k
theorem JI_0 {N : Int} {ρ π : Int → Int} {tm : Int → Tm} {Eq : Tm → Tm → Prop} (h : US N ρ π tm Eq) {a b : Int} (ha : 0 ≤ a ∧ a < N) (hb : 0 ≤ b ∧ b < N) : JI N ρ π a b tm (fun s t => Eq s t ∨ (s = tm a ∧ t = tm b)) ρ π a b := by
  have hm : ∀ s t, cg Eq s t → cg (fun s t => Eq s t ∨ (s = tm a ∧ t = tm b)) s t := fun s t g => cg_mono (fun _ _ e => cg_eq (Or.inl e)) g
  refine ⟨h.1, fun k k0 k1 => ⟨hm _ _ (h.2.1 k k0 k1).1, fun e n => hm _ _ ((h.2.1 k k0 k1).2 e n)⟩, ⟨ha, hb⟩, cg_eq (Or.inr ⟨rfl, rfl⟩), fun k k0 k1 => (h.1 k k0 k1).1.2, fun k k0 k1 e n => ?_, Or.inr (Or.inl ⟨rfl, rfl⟩)⟩
  rw [e]; exact ⟨n, Or.inl rfl⟩
/-- one link of the join: y under x; what is still to be joined, if anything -/
theorem JI_step {N : Int} {ρ0 π0 : Int → Int} {a b : Int} {tm : Int → Tm} {Eq : Tm → Tm → Prop} {ρ π : Int → Int} {p q x y : Int} (hx : x = ρ p) (hy : y = ρ q) (hne : x ≠ y)
    (h : JI N ρ0 π0 a b tm Eq ρ π p q) :
    ((π x = -1 ∨ π y = -1) → ∀ z, 0 ≤ z → z < N → JI N ρ0 π0 a b tm Eq (jρ ρ x y) (jπ π x y) z z) ∧
    (π x ≠ -1 → π y ≠ -1 → JI N ρ0 π0 a b tm Eq (jρ ρ x y) (jπ π x y) (π x) (π y)) := by
  obtain ⟨h1, h2, ⟨hp, hq⟩, h3, h4, h5, h6⟩ := h
  have rp := (h1 p hp.1 hp.2).1
  have rq := (h1 q hq.1 hq.2).1
  rw [← hx] at rp
  rw [← hy] at rq
  have gx : jρ ρ x y x = x := by unfold jρ; rw [rp.2, if_neg hne]
  have gy : jρ ρ x y y = x := by unfold jρ; rw [rq.2, if_pos rfl]
  have gρ : ∀ k, 0 ≤ k → k < N → (0 ≤ jρ ρ x y k ∧ jρ ρ x y k < N) ∧ jρ ρ x y (jρ ρ x y k) = jρ ρ x y k := fun k k0 k1 => by
    by_cases c : ρ k = y
    · have e : jρ ρ x y k = x := if_pos c
      rw [e]; exact ⟨rp.1, gx⟩
    · have e : jρ ρ x y k = ρ k := if_neg c
      rw [e]; refine ⟨(h1 k k0 k1).1.1, ?_⟩
      show (if ρ (ρ k) = y then x else ρ (ρ k)) = ρ k
      rw [(h1 k k0 k1).1.2, if_neg c]
  have gs : ∀ s t, ρ s = ρ t → jρ ρ x y s = jρ ρ x y t := fun s t e => by unfold jρ; rw [e]
  have gsm : ∀ s t, smj ρ p q s t → jρ ρ x y s = jρ ρ x y t := fun s t e => by
    rcases e with e | ⟨e1, e2⟩ | ⟨e1, e2⟩
    · exact gs s t e
    · unfold jρ; rw [e1, e2, ← hx, ← hy, if_neg hne, if_pos rfl]
    · unfold jρ; rw [e1, e2, ← hx, ← hy, if_neg hne, if_pos rfl]
  have cxy : cg Eq (tm x) (tm y) := by
    have e1 := (h2 p hp.1 hp.2).1
    have e2 := (h2 q hq.1 hq.2).1
    rw [← hx] at e1
    rw [← hy] at e2
    exact cg_trans (cg_symm e1) (cg_trans h3 e2)
  have π_rng : ∀ r, 0 ≤ r → r < N → ρ r = r → π r ≠ -1 → 0 ≤ π r ∧ π r < N := fun r r0 r1 e n => by
    rcases (h1 r r0 r1).2 e with g | g
    · exact absurd g n
    · exact g
  have c1 : UR N (jρ ρ x y) (jπ π x y) := fun k k0 k1 => by
    refine ⟨gρ k k0 k1, fun e => ?_⟩
    have hk : ρ k = k := by
      by_cases c : ρ k = y
      · have e2 : jρ ρ x y k = x := if_pos c
        rw [e2] at e; rw [← e]; exact rp.2
      · have e2 : jρ ρ x y k = ρ k := if_neg c
        rw [e2] at e; exact e
    show (if k = x then (if π x = -1 then π y else π x) else π k) = -1 ∨ _
    by_cases c : k = x
    · have e3 : jπ π x y k = if π x = -1 then π y else π x := if_pos c
      rw [e3]
      by_cases c2 : π x = -1
      · rw [if_pos c2]; rw [if_pos c]; exact (h1 y rq.1.1 rq.1.2).2 rq.2
      · rw [if_neg c2]; rw [if_pos c]; exact (h1 x rp.1.1 rp.1.2).2 rp.2
    · have e3 : jπ π x y k = π k := if_neg c
      rw [e3, if_neg c]; exact (h1 k k0 k1).2 hk
  have c2 : USnd N (jρ ρ x y) (jπ π x y) tm Eq := fun k k0 k1 => by
    refine ⟨?_, fun e n => ?_⟩
    · by_cases c : ρ k = y
      · have e : jρ ρ x y k = x := if_pos c
        rw [e]
        have := (h2 k k0 k1).1
        rw [c] at this
        exact cg_trans this (cg_symm cxy)
      · have e : jρ ρ x y k = ρ k := if_neg c
        rw [e]; exact (h2 k k0 k1).1
    · have hk : ρ k = k := by
        by_cases c : ρ k = y
        · have e2 : jρ ρ x y k = x := if_pos c
          rw [e2] at e; rw [← e]; exact rp.2
        · have e2 : jρ ρ x y k = ρ k := if_neg c
          rw [e2] at e; exact e
      by_cases c : k = x
      · have e3 : jπ π x y k = if π x = -1 then π y else π x := if_pos c
        rw [e3] at n ⊢
        by_cases c2 : π x = -1
        · rw [if_pos c2] at n ⊢
          rw [c]
          exact cg_trans (cg_U cxy) ((h2 y rq.1.1 rq.1.2).2 rq.2 n)
        · rw [if_neg c2] at n ⊢
          rw [c]
          exact (h2 x rp.1.1 rp.1.2).2 rp.2 c2
      · have e3 : jπ π x y k = π k := if_neg c
        rw [e3] at n ⊢
        exact (h2 k k0 k1).2 hk n
  have c4 : ∀ k, 0 ≤ k → k < N → jρ ρ x y (ρ0 k) = jρ ρ x y k := fun k k0 k1 => gs _ _ (h4 k k0 k1)
  have ex : jπ π x y x = if π x = -1 then π y else π x := if_pos rfl
  -- the pointee of a joined class
  have c5 : ∀ k, 0 ≤ k → k < N → ρ0 k = k → π0 k ≠ -1 → jπ π x y (jρ ρ x y k) ≠ -1 ∧ (jρ ρ x y (jπ π x y (jρ ρ x y k)) = jρ ρ x y (π0 k) ∨ (π x ≠ -1 ∧ π y ≠ -1 ∧ jρ ρ x y (jπ π x y (jρ ρ x y k)) = jρ ρ x y (π x) ∧ jρ ρ x y (π0 k) = jρ ρ x y (π y))) := fun k k0 k1 e n => by
    obtain ⟨g1, g2⟩ := h5 k k0 k1 e n
    have g3 := gsm _ _ g2
    by_cases c : ρ k = y
    · have e1 : jρ ρ x y k = x := if_pos c
      rw [e1, ex]
      rw [c] at g1 g3
      by_cases c2 : π x = -1
      · rw [if_pos c2]; exact ⟨g1, Or.inl g3⟩
      · rw [if_neg c2]; exact ⟨c2, Or.inr ⟨c2, g1, rfl, g3.symm⟩⟩
    · have e1 : jρ ρ x y k = ρ k := if_neg c
      rw [e1]
      by_cases c3 : ρ k = x
      · rw [c3] at g1 g3 ⊢
        rw [ex, if_neg g1]; exact ⟨g1, Or.inl g3⟩
      · have e2 : jπ π x y (ρ k) = π (ρ k) := if_neg c3
        rw [e2]; exact ⟨g1, Or.inl g3⟩
  refine ⟨fun hn z z0 z1 => ⟨c1, c2, ⟨⟨z0, z1⟩, ⟨z0, z1⟩⟩, cg_refl _, c4, fun k k0 k1 e n => ?_, Or.inl (gsm _ _ h6)⟩, fun hpx hpy => ?_⟩
  · obtain ⟨g1, g2 | ⟨g2, g3, -⟩⟩ := c5 k k0 k1 e n
    · exact ⟨g1, Or.inl g2⟩
    · rcases hn with g | g
      · exact absurd g g2
      · exact absurd g g3
  · have b1 := π_rng x rp.1.1 rp.1.2 rp.2 hpx
    have b2 := π_rng y rq.1.1 rq.1.2 rq.2 hpy
    refine ⟨c1, c2, ⟨b1, b2⟩, cg_trans (cg_symm ((h2 x rp.1.1 rp.1.2).2 rp.2 hpx)) (cg_trans (cg_U cxy) ((h2 y rq.1.1 rq.1.2).2 rq.2 hpy)), c4, fun k k0 k1 e n => ?_, Or.inl (gsm _ _ h6)⟩
    obtain ⟨g1, g2 | ⟨-, -, g3, g4⟩⟩ := c5 k k0 k1 e n
    · exact ⟨g1, Or.inl g2⟩
    · exact ⟨g1, Or.inr (Or.inl ⟨g3, g4⟩)⟩
/-- the join is over -/
theorem JI_end {N : Int} {ρ0 π0 : Int → Int} {a b : Int} {tm : Int → Tm} {Eq : Tm → Tm → Prop} {ρ π : Int → Int} {p q : Int}
    (h0 : US N ρ0 π0 tm Eq) (hE : ∀ s t, Eq s t → (s.1 ≥ 0 ∧ s.1 < N) ∧ (t.1 ≥ 0 ∧ t.1 < N)) (ha : 0 ≤ a ∧ a < N) (hb : 0 ≤ b ∧ b < N)
    (h : JI N ρ0 π0 a b tm (fun s t => Eq s t ∨ (s = tm a ∧ t = tm b)) ρ π p q) (he : ρ p = ρ q) : US N ρ π tm (fun s t => Eq s t ∨ (s = tm a ∧ t = tm b)) := by
  obtain ⟨h1, h2, -, -, h4, h5, h6⟩ := h
  have hs : ∀ x y, smj ρ p q x y → ρ x = ρ y := fun x y g => by
    rcases g with g | ⟨g, g2⟩ | ⟨g, g2⟩
    · exact g
    · rw [g, g2, he]
    · rw [g, g2, he]
  have hh : Hom N ρ0 π0 ρ π := ⟨h4, fun k k0 k1 e n => ⟨(h5 k k0 k1 e n).1, hs _ _ (h5 k k0 k1 e n).2⟩⟩
  have hden : ∀ k, 0 ≤ k → k < N → dn ρ π (tm k) = (ρ k, 0) := fun k k0 k1 => by
    have e1 := (hom_dn h0.1 hh (h0.2.2.2 k k0 k1).1 (h0.2.2.2 k k0 k1).2 (tm k).2).2
    have e2 : den ρ0 π0 (tm k).1 (tm k).2 = (ρ0 k, 0) := h0.2.2.1.2 k k0 k1
    rw [e2] at e1
    show den ρ π (tm k).1 (tm k).2 = _
    rw [e1]
    show (ρ (ρ0 k), 0) = _
    rw [h4 k k0 k1]
  refine ⟨h1, h2, ⟨fun s t g => ?_, hden⟩, h0.2.2.2⟩
  rcases g with g | ⟨rfl, rfl⟩
  · exact hom_eq h0.1 hh (hE s t g).1 (hE s t g).2 (h0.2.2.1.1 s t g)
  · rw [hden a ha.1 ha.2, hden b hb.1 hb.2, hs a b h6]
/-! chains of parents -/
def itp (par : Int → Int) (k : Int) : Nat → Int
  | 0 => k
  | j + 1 => itp par (par k) j
theorem itp_root {par : Int → Int} {r : Int} (h : par r = r) : ∀ j, itp par r j = r
  | 0 => rfl
  | j + 1 => by show itp par (par r) j = r; rw [h]; exact itp_root h j
/-- ρ is the roots of the forest par; no chain is longer than u -/
def FO (N : Int) (par ρ : Int → Int) (u : Nat) : Prop := ∀ k, 0 ≤ k → k < N → (0 ≤ par k ∧ par k < N) ∧ ((0 ≤ ρ k ∧ ρ k < N) ∧ (par (ρ k) = ρ k ∧ ∃ j, j ≤ u ∧ itp par k j = ρ k))
def par' (par : Int → Int) (x y : Int) : Int → Int := fun k => if k = y then x else par k
theorem FO_root {N : Int} {par ρ : Int → Int} {u : Nat} (h : FO N par ρ u) {k : Int} (k0 : 0 ≤ k) (k1 : k < N) (e : par k = k) : ρ k = k := by
  obtain ⟨-, -, -, j, -, h4⟩ := h k k0 k1
  rw [itp_root e] at h4; exact h4.symm
theorem FO_par {N : Int} {par ρ : Int → Int} {u : Nat} (h : FO N par ρ u) {k : Int} (k0 : 0 ≤ k) (k1 : k < N) : ρ (par k) = ρ k := by
  obtain ⟨hp, -, h3, j, -, h4⟩ := h k k0 k1
  obtain ⟨-, -, h5, i, -, h6⟩ := h (par k) hp.1 hp.2
  have key : ∀ (j i : Nat) (k r s : Int), itp par k j = r → par r = r → itp par k i = s → par s = s → r = s := by
    intro j
    induction j with
    | zero => intro i k r s h1 h2 h3 h4; have h1 : k = r := h1; subst h1; rw [itp_root h2] at h3; exact h3
    | succ j ih =>
      intro i k r s h1 h2 h3 h4
      cases i with
      | zero => have h3 : k = s := h3; subst h3; rw [itp_root h4] at h1; exact h1.symm
      | succ i => exact ih i (par k) r s h1 h2 h3 h4
  cases j with
  | zero =>
    have h4 : k = ρ k := h4
    rw [← h4] at h3
    rw [h3]
  | succ j => exact (key j i (par k) _ _ h4 h3 h6 h5).symm
theorem FO_link {N : Int} {par ρ : Int → Int} {u : Nat} (h : FO N par ρ u) {x y : Int} (hx : (0 ≤ x ∧ x < N) ∧ par x = x) (hy : (0 ≤ y ∧ y < N) ∧ par y = y) (hne : x ≠ y) : FO N (par' par x y) (jρ ρ x y) (u + 1) := by
  have px : par' par x y x = x := by unfold par'; rw [if_neg hne]; exact hx.2
  have k1 : ∀ (j : Nat) (k : Int), itp par k j = y → ∃ i, i ≤ j + 1 ∧ itp (par' par x y) k i = x := by
    intro j
    induction j with
    | zero => intro k e; have e : k = y := e; subst e; exact ⟨1, Nat.le_refl _, by show par' par x k k = x; unfold par'; rw [if_pos rfl]⟩
    | succ j ih =>
      intro k e
      by_cases c : k = y
      · subst c; exact ⟨1, by omega, by show par' par x k k = x; unfold par'; rw [if_pos rfl]⟩
      · obtain ⟨i, hi, e2⟩ := ih (par k) e
        refine ⟨i + 1, by omega, ?_⟩
        show itp (par' par x y) (par' par x y k) i = x
        have e3 : par' par x y k = par k := if_neg c
        rw [e3]; exact e2
  have k2 : ∀ (j : Nat) (k r : Int), r ≠ y → itp par k j = r → itp (par' par x y) k j = r := by
    intro j
    induction j with
    | zero => intro k r _ e; exact e
    | succ j ih =>
      intro k r hr e
      have c : k ≠ y := fun c => by subst c; rw [itp_root hy.2] at e; exact hr e.symm
      show itp (par' par x y) (par' par x y k) j = r
      have e3 : par' par x y k = par k := if_neg c
      rw [e3]; exact ih (par k) r hr e
  intro k k0 kN
  obtain ⟨h1, h2, h3, j, hj, h4⟩ := h k k0 kN
  refine ⟨?_, ?_⟩
  · by_cases c : k = y
    · have e3 : par' par x y k = x := if_pos c
      rw [e3]; exact hx.1
    · have e3 : par' par x y k = par k := if_neg c
      rw [e3]; exact h1
  · by_cases c : ρ k = y
    · have e : jρ ρ x y k = x := if_pos c
      rw [e]
      rw [c] at h4
      obtain ⟨i, hi, e2⟩ := k1 j k h4
      exact ⟨hx.1, px, i, by omega, e2⟩
    · have e : jρ ρ x y k = ρ k := if_neg c
      rw [e]
      refine ⟨h2, ?_, j, by omega, k2 j k _ c h4⟩
      have e3 : par' par x y (ρ k) = par (ρ k) := if_neg c
      rw [e3]; exact h3
/-- how many roots -/
def nrt (par : Int → Int) (N : Nat) : Int := cn (fun k => par k == k) N
theorem nrt_link {par : Int → Int} {x y : Int} {N : Nat} (hy : 0 ≤ y ∧ y < N) (py : par y = y) (hne : x ≠ y) : nrt (par' par x y) N + 1 = nrt par N := by
  have key : ∀ n : Nat, nrt (par' par x y) n + (if y < n then 1 else 0) = nrt par n := by
    intro n
    induction n with
    | zero => rw [if_neg (by omega)]; rfl
    | succ n ih =>
      have e1 : nrt (par' par x y) (n + 1) = nrt (par' par x y) n + (if (par' par x y n == n) = true then 1 else 0) := rfl
      have e2 : nrt par (n + 1) = nrt par n + (if (par n == n) = true then 1 else 0) := rfl
      rw [e1, e2, ← ih]
      by_cases c : (n : Int) = y
      · have e3 : par' par x y n = x := if_pos c
        rw [e3]
        have e4 : (x == (n : Int)) = false := by rw [beq_eq_false_iff_ne, c]; exact hne
        have e5 : (par n == (n : Int)) = true := by rw [beq_iff_eq, c, py]
        rw [e4, e5, if_neg (show ¬ (false = true) by decide), if_pos (show true = true from rfl), if_neg (show ¬ (y < (n : Int)) by omega), if_pos (show y < ((n + 1 : Nat) : Int) by omega)]
      · have e3 : par' par x y n = par n := if_neg c
        rw [e3]
        by_cases c2 : y < n
        · rw [if_pos c2, if_pos (show y < ((n + 1 : Nat) : Int) by omega)]; omega
        · rw [if_neg c2, if_neg (show ¬ (y < ((n + 1 : Nat) : Int)) by omega)]; omega
  have := key N
  rw [if_pos hy.2] at this
  exact this
theorem nrt_pos {par : Int → Int} {r : Int} {N : Nat} (hr : 0 ≤ r ∧ r < N) (pr : par r = r) : 1 ≤ nrt par N := by
  have h1 := cn_mono (fun k => par k == k) (m := r.toNat + 1) (n := N) (by omega)
  have h2 := (cn_rng (fun k => par k == k) r.toNat).1
  rw [cn_succ, show ((r.toNat : Nat) : Int) = r by omega, pr] at h1
  unfold nrt
  simp at h1
  omega

/-! lists as arrays -/
def la (xs : List Int) (i : Int) : Int := xs.getD i.toNat 0
theorem la_lt {xs : List Int} {i : Int} (h1 : i.toNat < xs.length) : la xs i = xs[i.toNat] := by
  unfold la; rw [List.getD_eq_getElem?_getD, List.getElem?_eq_getElem h1]; rfl
theorem la_mem {xs : List Int} {i : Int} (h0 : 0 ≤ i) (h1 : i < xs.length) : la xs i ∈ xs := by
  rw [la_lt (by omega)]; exact List.getElem_mem _
theorem mem_la {xs : List Int} {w : Int} (h : w ∈ xs) : ∃ i : Int, 0 ≤ i ∧ i < xs.length ∧ la xs i = w := by
  obtain ⟨n, hn, e⟩ := List.mem_iff_getElem.mp h
  refine ⟨n, by omega, by omega, ?_⟩
  rw [la_lt (by simpa using hn)]
  simpa using e
theorem la_app_l {xs ys : List Int} {i : Int} (h0 : 0 ≤ i) (h1 : i < xs.length) : la (xs ++ ys) i = la xs i := by
  unfold la
  rw [List.getD_eq_getElem?_getD, List.getD_eq_getElem?_getD, List.getElem?_append_left (by omega)]
theorem la_app_r {xs ys : List Int} {i : Int} (h1 : (xs.length : Int) ≤ i) : la (xs ++ ys) i = la ys (i - xs.length) := by
  unfold la
  rw [List.getD_eq_getElem?_getD, List.getD_eq_getElem?_getD, List.getElem?_append_right (by omega)]
  congr 3; omega
theorem la_cons0 {x : Int} {xs : List Int} : la (x :: xs) 0 = x := rfl
theorem la_cons {x : Int} {xs : List Int} {i : Int} (h : 0 < i) : la (x :: xs) i = la xs (i - 1) := by
  unfold la
  rw [show i.toNat = (i - 1).toNat + 1 by omega]; rfl
theorem la_take {xs : List Int} {p : Nat} {i : Int} (h0 : 0 ≤ i) (h : i < p) : la (xs.take p) i = la xs i := by
  unfold la
  rw [List.getD_eq_getElem?_getD, List.getD_eq_getElem?_getD, List.getElem?_take_of_lt (by omega)]
theorem la_drop {xs : List Int} {p : Nat} {i : Int} (h0 : 0 ≤ i) : la (xs.drop p) i = la xs (i + p) := by
  unfold la
  rw [List.getD_eq_getElem?_getD, List.getD_eq_getElem?_getD, List.getElem?_drop]
  congr 3; omega
theorem asc_la {xs : List Int} (h : xs.Pairwise (· < ·)) {i j : Int} (h0 : 0 ≤ i) (h1 : i < j) (h2 : j < xs.length) : la xs i < la xs j := by
  rw [la_lt (by omega), la_lt (by omega)]
  exact (List.pairwise_iff_getElem.mp h) i.toNat j.toNat (by omega) (by omega) (by omega)
theorem la_asc {xs : List Int} (h : ∀ i j : Int, 0 ≤ i → i < j → j < xs.length → la xs i < la xs j) : xs.Pairwise (· < ·) := by
  rw [List.pairwise_iff_getElem]
  intro i j hi hj hij
  have := h i j (by omega) (by omega) (by omega)
  rw [la_lt (by simpa using hi), la_lt (by simpa using hj)] at this
  simpa using this
theorem nd_la {xs : List Int} (h : xs.Nodup) {i j : Int} (i0 : 0 ≤ i) (i1 : i < xs.length) (j0 : 0 ≤ j) (j1 : j < xs.length) (e : la xs i = la xs j) : i = j := by
  have key : ∀ a b : Int, 0 ≤ a → a < b → b < xs.length → la xs a ≠ la xs b := fun a b a0 ab b1 => by
    rw [la_lt (by omega), la_lt (by omega)]
    exact (List.pairwise_iff_getElem.mp h) a.toNat b.toNat (by omega) (by omega) (by omega)
  rcases Int.lt_trichotomy i j with g | g | g
  · exact absurd e (key i j i0 g j1)
  · exact g
  · exact absurd e.symm (key j i j0 g i1)
/-- put in at a place -/
def insA (p : Nat) (x : Int) (zs : List Int) : List Int := zs.take p ++ x :: zs.drop p
theorem insA_len {p : Nat} {x : Int} {zs : List Int} (h : p ≤ zs.length) : (insA p x zs).length = zs.length + 1 := by
  unfold insA; rw [List.length_append, List.length_cons, List.length_take, List.length_drop]; omega
theorem insA_la {p : Nat} {x : Int} {zs : List Int} (h : p ≤ zs.length) {i : Int} (i0 : 0 ≤ i) : la (insA p x zs) i = if i < p then la zs i else if i = p then x else la zs (i - 1) := by
  have hl : (zs.take p).length = p := by rw [List.length_take]; omega
  unfold insA
  by_cases c : i < p
  · rw [if_pos c, la_app_l i0 (by omega), la_take i0 c]
  · rw [if_neg c, la_app_r (by omega), hl]
    by_cases c2 : i = p
    · rw [if_pos c2, c2, Int.sub_self, la_cons0]
    · rw [if_neg c2, la_cons (by omega), la_drop (by omega)]; congr 1; omega
theorem insA_mem {p : Nat} {x : Int} {zs : List Int} {e : Int} : e ∈ insA p x zs ↔ e = x ∨ e ∈ zs := by
  unfold insA
  rw [List.mem_append, List.mem_cons]
  have h : e ∈ zs ↔ e ∈ zs.take p ∨ e ∈ zs.drop p := by
    rw [← List.mem_append, List.take_append_drop]
  rw [h]
  constructor
  · rintro (g | g | g)
    · exact Or.inr (Or.inl g)
    · exact Or.inl g
    · exact Or.inr (Or.inr g)
  · rintro (g | g | g)
    · exact Or.inr (Or.inl g)
    · exact Or.inl g
    · exact Or.inr (Or.inr g)
theorem insA_asc {p : Nat} {x : Int} {zs : List Int} (h : zs.Pairwise (· < ·)) (hp : p ≤ zs.length) (h1 : ∀ i : Int, 0 ≤ i → i < p → la zs i < x) (h2 : ∀ i : Int, p ≤ i → i < zs.length → x < la zs i) : (insA p x zs).Pairwise (· < ·) := by
  apply la_asc
  intro i j i0 ij j1
  rw [insA_len hp] at j1
  rw [insA_la hp i0, insA_la hp (by omega)]
  by_cases c : i < p
  · rw [if_pos c]
    by_cases d : j < p
    · rw [if_pos d]; exact asc_la h i0 ij (by omega)
    · rw [if_neg d]
      by_cases d2 : j = p
      · rw [if_pos d2]; exact h1 i i0 c
      · rw [if_neg d2]; exact asc_la h i0 (by omega) (by omega)
  · rw [if_neg c, if_neg (show ¬ j < p by omega), if_neg (show ¬ j = p by omega)]
    by_cases c2 : i = p
    · rw [if_pos c2]; exact h2 (j - 1) (by omega) (by omega)
    · rw [if_neg c2]; exact asc_la h (by omega) (by omega) (by omega)
/-- how many are below -/
def cbl (xs : List Int) (b : Int) : Int := cn (fun i => decide (la xs i < b)) xs.length
theorem cn_down {g : Int → Bool} : ∀ {n : Nat}, (∀ i j : Int, 0 ≤ i → i ≤ j → j < n → g j = true → g i = true) → ∀ m : Int, 0 ≤ m → m < n → (g m = true ↔ m < cn g n)
  | 0, _, m, m0, m1 => by omega
  | n + 1, h, m, m0, m1 => by
    have ih := cn_down (n := n) (fun i j i0 ij j1 => h i j i0 ij (by omega))
    have hr := cn_rng g n
    rw [cn_succ]
    by_cases c : g n = true
    · rw [if_pos c]
      have all : ∀ k : Int, 0 ≤ k → k < n → g k = true := fun k k0 k1 => h k n k0 (by omega) (by omega) c
      have e : cn g n = n := by
        have : ∀ k : Nat, k ≤ n → cn g k = k := by
          intro k
          induction k with
          | zero => intro _; rfl
          | succ k ik => intro hk; rw [cn_succ, ik (by omega), if_pos (all k (by omega) (by omega))]; omega
        exact this n (Nat.le_refl n)
      rw [e]
      by_cases d : m = n
      · rw [d]; exact ⟨fun _ => by omega, fun _ => c⟩
      · exact ⟨fun _ => by omega, fun _ => all m m0 (by omega)⟩
    · rw [if_neg c]
      by_cases d : m = n
      · rw [d]; exact ⟨fun g => absurd g c, fun g => by omega⟩
      · rw [ih m m0 (by omega)]; omega
theorem cbl_iff {xs : List Int} (h : xs.Pairwise (· < ·)) {b i : Int} (i0 : 0 ≤ i) (i1 : i < xs.length) : la xs i < b ↔ i < cbl xs b := by
  have := cn_down (g := fun i => decide (la xs i < b)) (n := xs.length) (fun i j i0 ij j1 g => by
    rw [decide_eq_true_eq] at g ⊢
    by_cases e : i = j
    · rw [e]; exact g
    · have := asc_la h i0 (show i < j by omega) j1; omega) i i0 i1
  rw [decide_eq_true_eq] at this
  exact this
theorem cbl_rng (xs : List Int) (b : Int) : 0 ≤ cbl xs b ∧ cbl xs b ≤ xs.length := cn_rng _ _
theorem cbl_mono {xs : List Int} {a b : Int} (h : a ≤ b) : cbl xs a ≤ cbl xs b := by
  unfold cbl
  have key : ∀ n : Nat, cn (fun i => decide (la xs i < a)) n ≤ cn (fun i => decide (la xs i < b)) n := by
    intro n
    induction n with
    | zero => exact Int.le_refl _
    | succ n ih =>
      rw [cn_succ, cn_succ]
      by_cases c : la xs n < a
      · rw [if_pos (by rw [decide_eq_true_eq]; exact c), if_pos (by rw [decide_eq_true_eq]; omega)]; omega
      · rw [if_neg (by rw [decide_eq_true_eq]; exact c)]; split <;> omega
  exact key _
/-- an array holds a list -/
def asA (σ : St) (c : Nat) (xs : List Int) : Prop := ∀ i : Int, 0 ≤ i → i < xs.length → gI σ c i = la xs i
theorem asA_fr {M : Nat → Int → Prop} {σ σ' : St} {c : Nat} {xs : List Int} (h : asA σ c xs) (g : fr M σ σ') (h1 : ∀ j, ¬ M c j) : asA σ' c xs := fun i i0 i1 => (fr_I g _ _ (h1 i)).trans (h i i0 i1)
theorem asA_app {σ : St} {c : Nat} {xs : List Int} {w : Int} (h : asA σ c xs) : asA (sI σ c xs.length w) c (xs ++ [w]) := fun i i0 i1 => by
  rw [List.length_append, List.length_singleton] at i1
  rw [gI_sI]
  by_cases e : i = xs.length
  · rw [if_pos ⟨rfl, e⟩, la_app_r (by omega), e, Int.sub_self, la_cons0]
  · rw [if_neg (fun g => e g.2), la_app_l i0 (by omega)]; exact h i i0 (by omega)
theorem nd_app {xs : List Int} {w : Int} (h : xs.Nodup) (hw : w ∉ xs) : (xs ++ [w]).Nodup := by
  unfold List.Nodup at *
  rw [List.pairwise_append]
  refine ⟨h, List.pairwise_singleton _ _, fun a ha b hb e => ?_⟩
  rw [List.mem_singleton] at hb
  subst hb; subst e; exact hw ha

/-! the class's contexts: questions -/
def nc (xs : List Int) (f : Int) : Int := cbl xs ((f + 1) * 2353) - cbl xs (f * 2353)
theorem nc_rng (xs : List Int) (f : Int) : 0 ≤ nc xs f ∧ cbl xs (f * 2353) + nc xs f ≤ xs.length := by
  have h1 := cbl_mono (xs := xs) (a := f * 2353) (b := (f + 1) * 2353) (by omega)
  have h2 := cbl_rng xs ((f + 1) * 2353)
  unfold nc; omega
/-! sets of pairs of cells as words -/
def bt (F : Int → BitVec 64) (c u : Int) : Bool := (F (3 * c + u / 64)).getLsbD (u % 64).toNat
theorem cn_or {g g1 g2 : Int → Bool} : ∀ {n : Nat}, (∀ m : Int, 0 ≤ m → m < n → g m = (g1 m || g2 m) ∧ ¬ (g1 m = true ∧ g2 m = true)) → cn g n = cn g1 n + cn g2 n
  | 0, _ => rfl
  | n + 1, h => by
    have ih := cn_or (n := n) (fun m m0 m1 => h m m0 (by omega))
    obtain ⟨h1, h2⟩ := h n (by omega) (by omega)
    rw [cn_succ, cn_succ, cn_succ, ih, h1]
    cases a : g1 n <;> cases b : g2 n
    · simp
    · simp; omega
    · simp; omega
    · exact absurd ⟨a, b⟩ h2
theorem cn_le {g g' : Int → Bool} : ∀ {n : Nat}, (∀ m : Int, 0 ≤ m → m < n → g m = true → g' m = true) → cn g n ≤ cn g' n
  | 0, _ => Int.le_refl _
  | n + 1, h => by
    have ih := cn_le (n := n) (fun m m0 m1 => h m m0 (by omega))
    have h1 := h n (by omega) (by omega)
    rw [cn_succ, cn_succ]
    by_cases c : g n = true
    · rw [if_pos c, if_pos (h1 c)]; omega
    · rw [if_neg c]; split <;> omega
theorem cn_eq {g g' : Int → Bool} : ∀ {n : Nat}, (∀ m : Int, 0 ≤ m → m < n → g m = true → g' m = true) → cn g' n ≤ cn g n → ∀ m : Int, 0 ≤ m → m < n → g' m = true → g m = true
  | 0, _, _, m, m0, m1, _ => by omega
  | n + 1, h, e, m, m0, m1, hm => by
    have h2 := cn_le (n := n) (fun m m0 m1 => h m m0 (by omega))
    have h1 := h n (by omega) (by omega)
    rw [cn_succ, cn_succ] at e
    by_cases c : g n = true
    · rw [if_pos c, if_pos (h1 c)] at e
      by_cases d : m = n
      · rw [d]; exact c
      · exact cn_eq (n := n) (fun m m0 m1 => h m m0 (by omega)) (by omega) m m0 (by omega) hm
    · rw [if_neg c] at e
      by_cases f : g' n = true
      · rw [if_pos f] at e; omega
      · by_cases d : m = n
        · rw [d] at hm; exact absurd hm f
        · rw [if_neg f] at e
          exact cn_eq (n := n) (fun m m0 m1 => h m m0 (by omega)) (by omega) m m0 (by omega) hm
theorem cn_cut {g : Int → Bool} {k : Nat} : ∀ {n : Nat}, k ≤ n → (∀ m : Int, (k : Int) ≤ m → m < n → g m = false) → cn g n = cn g k
  | 0, hk, _ => by rw [show k = 0 by omega]
  | n + 1, hk, h => by
    by_cases c : k = n + 1
    · rw [c]
    · rw [cn_succ, cn_cut (n := n) (by omega) (fun m m0 m1 => h m m0 (by omega)), if_neg (by rw [h n (by omega) (by omega)]; decide), Int.add_zero]
def pw (x : BitVec 64) : Int := cn (fun j => x.getLsbD j.toNat) 64
theorem pw_rng (x : BitVec 64) : 0 ≤ pw x ∧ pw x ≤ 64 := cn_rng _ _
theorem pw_le {x y : BitVec 64} (h : ∀ j : Nat, x.getLsbD j = true → y.getLsbD j = true) : pw x ≤ pw y := cn_le (fun m _ _ g => h m.toNat g)
theorem pw_eq {x y : BitVec 64} (h : ∀ j : Nat, x.getLsbD j = true → y.getLsbD j = true) (e : pw y ≤ pw x) : x = y := by
  apply BitVec.eq_of_getLsbD_eq
  intro i hi
  have := cn_eq (g := fun j => x.getLsbD j.toNat) (g' := fun j => y.getLsbD j.toNat) (n := 64) (fun m _ _ g => h m.toNat g) e i (by omega) (by omega)
  rw [Int.toNat_natCast] at this
  cases a : x.getLsbD i <;> cases b : y.getLsbD i
  · rfl
  · rw [this b] at a; cases a
  · rw [h i a] at b; cases b
  · rfl
theorem pw_or {x y : BitVec 64} (h : ∀ j : Nat, ¬ (x.getLsbD j = true ∧ y.getLsbD j = true)) : pw (x ||| y) = pw x + pw y :=
  cn_or (fun m _ _ => ⟨by rw [BitVec.getLsbD_or], h m.toNat⟩)
def fsum (F : Int → BitVec 64) : Nat → Int
  | 0 => 0
  | n + 1 => fsum F n + pw (F n)
theorem fsum_succ (F : Int → BitVec 64) (n : Nat) : fsum F (n + 1) = fsum F n + pw (F n) := rfl
theorem fsum_congr {F F' : Int → BitVec 64} : ∀ {n : Nat}, (∀ k : Int, 0 ≤ k → k < n → F k = F' k) → fsum F n = fsum F' n
  | 0, _ => rfl
  | n + 1, h => by rw [fsum_succ, fsum_succ, fsum_congr (n := n) (fun k k0 k1 => h k k0 (by omega)), h n (by omega) (by omega)]
theorem fsum_upd {F F' : Int → BitVec 64} {k : Int} : ∀ {n : Nat}, 0 ≤ k → k < n → (∀ j : Int, j ≠ k → F' j = F j) → fsum F' n = fsum F n + (pw (F' k) - pw (F k))
  | 0, k0, k1, _ => by omega
  | n + 1, k0, k1, h => by
    rw [fsum_succ, fsum_succ]
    by_cases c : k = n
    · rw [fsum_congr (F := F') (F' := F) (fun j j0 j1 => h j (by omega)), c]; omega
    · rw [fsum_upd (n := n) k0 (by omega) h, h n (by omega)]; omega
theorem fsum_le {F F' : Int → BitVec 64} : ∀ {n : Nat}, (∀ k : Int, 0 ≤ k → k < n → ∀ j : Nat, (F k).getLsbD j = true → (F' k).getLsbD j = true) → fsum F n ≤ fsum F' n
  | 0, _ => Int.le_refl _
  | n + 1, h => by
    have := fsum_le (n := n) (fun k k0 k1 => h k k0 (by omega))
    have := pw_le (h n (by omega) (by omega))
    rw [fsum_succ, fsum_succ]; omega
theorem fsum_eq {F F' : Int → BitVec 64} : ∀ {n : Nat}, (∀ k : Int, 0 ≤ k → k < n → ∀ j : Nat, (F k).getLsbD j = true → (F' k).getLsbD j = true) → fsum F' n ≤ fsum F n → ∀ k : Int, 0 ≤ k → k < n → F k = F' k
  | 0, _, _, k, k0, k1 => by omega
  | n + 1, h, e, k, k0, k1 => by
    have h1 := fsum_le (n := n) (fun k k0 k1 => h k k0 (by omega))
    have h2 := pw_le (h n (by omega) (by omega))
    rw [fsum_succ, fsum_succ] at e
    by_cases c : k = n
    · rw [c]; exact pw_eq (h n (by omega) (by omega)) (by omega)
    · exact fsum_eq (n := n) (fun k k0 k1 => h k k0 (by omega)) (by omega) k k0 (by omega)
theorem bt_word {F : Int → BitVec 64} {c w : Int} {j : Nat} (hj : j < 64) : bt F c (64 * w + j) = (F (3 * c + w)).getLsbD j := by
  unfold bt
  rw [show (64 * w + (j : Int)) / 64 = w by omega, show ((64 * w + (j : Int)) % 64).toNat = j by omega]
theorem k_split {k : Int} (h0 : 0 ≤ k) (h1 : k < 456) : ∃ c w : Int, (0 ≤ c ∧ c < 152) ∧ (0 ≤ w ∧ w < 3) ∧ k = 3 * c + w := ⟨k / 3, k % 3, by omega, by omega, by omega⟩
/-- words with the same bits -/
theorem bt_words {F F' : Int → BitVec 64} (h : ∀ c u, 0 ≤ c → c < 152 → 0 ≤ u → u < 192 → bt F c u = bt F' c u) {k : Int} (h0 : 0 ≤ k) (h1 : k < 456) : F k = F' k := by
  obtain ⟨c, w, hc, hw, rfl⟩ := k_split h0 h1
  apply BitVec.eq_of_getLsbD_eq
  intro j hj
  have := h c (64 * w + j) hc.1 hc.2 (by omega) (by omega)
  rw [bt_word hj, bt_word hj] at this
  exact this
theorem fsum_bound {F : Int → BitVec 64} (h : ∀ c u, 0 ≤ c → c < 152 → 0 ≤ u → u < 192 → bt F c u = true → u < 152) : ∀ n : Nat, n ≤ 152 → fsum F (3 * n) ≤ 152 * n
  | 0, _ => Int.le_refl _
  | n + 1, hn => by
    have ih := fsum_bound h n (by omega)
    have e : fsum F (3 * (n + 1)) = fsum F (3 * n) + pw (F (3 * n : Nat)) + pw (F ((3 * n + 1 : Nat) : Int)) + pw (F ((3 * n + 2 : Nat) : Int)) := rfl
    have h1 := pw_rng (F (3 * n : Nat))
    have h2 := pw_rng (F ((3 * n + 1 : Nat) : Int))
    have h3 : pw (F ((3 * n + 2 : Nat) : Int)) ≤ 24 := by
      unfold pw
      rw [cn_cut (k := 24) (by omega) (fun m m0 m1 => ?_)]
      · exact (cn_rng _ 24).2
      · have hb := h n (64 * 2 + (m.toNat : Int)) (by omega) (by omega) (by omega) (by omega)
        rw [bt_word (by omega)] at hb
        rw [show ((3 * n + 2 : Nat) : Int) = 3 * (n : Int) + 2 by omega]
        cases g : (F (3 * (n : Int) + 2)).getLsbD m.toNat with
        | false => rfl
        | true => have := hb g; omega
    rw [e]; omega
def fpop (F : Int → BitVec 64) : Int := fsum F 456
theorem fpop_bound {F : Int → BitVec 64} (h : ∀ c u, 0 ≤ c → c < 152 → 0 ≤ u → u < 192 → bt F c u = true → u < 152) : fpop F ≤ 23104 := fsum_bound h 152 (Nat.le_refl _)
theorem fpop_nn (F : Int → BitVec 64) : 0 ≤ fpop F := by
  have : ∀ n, 0 ≤ fsum F n := by
    intro n
    induction n with
    | zero => exact Int.le_refl _
    | succ n ih => rw [fsum_succ]; have := pw_rng (F n); omega
  exact this _
theorem fpop_le {F F' : Int → BitVec 64} (h : ∀ c u, 0 ≤ c → c < 152 → 0 ≤ u → u < 192 → bt F c u = true → bt F' c u = true) : fpop F ≤ fpop F' := by
  refine fsum_le (fun k k0 k1 j hj => ?_)
  obtain ⟨c, w, hc, hw, rfl⟩ := k_split k0 k1
  have hj2 : j < 64 := BitVec.lt_of_getLsbD hj
  have := h c (64 * w + j) hc.1 hc.2 (by omega) (by omega)
  rw [bt_word hj2, bt_word hj2] at this
  exact this hj
theorem fpop_eq {F F' : Int → BitVec 64} (h : ∀ c u, 0 ≤ c → c < 152 → 0 ≤ u → u < 192 → bt F c u = true → bt F' c u = true) (e : fpop F' ≤ fpop F) {k : Int} (k0 : 0 ≤ k) (k1 : k < 456) : F k = F' k := by
  refine fsum_eq (fun k k0 k1 j hj => ?_) e k k0 k1
  obtain ⟨c, w, hc, hw, rfl⟩ := k_split k0 k1
  have hj2 : j < 64 := BitVec.lt_of_getLsbD hj
  have := h c (64 * w + j) hc.1 hc.2 (by omega) (by omega)
  rw [bt_word hj2, bt_word hj2] at this
  exact this hj
/-! cells, codes, what a statement brings -/
abbrev Fa : Type := Int → Int → Prop
def vld (xs : List Int) (c : Int) : Prop := 0 ≤ c ∧ (c < 4 ∨ (4 ≤ c ∧ c < 4 + 4 * (xs.length : Int)) ∨ (128 ≤ c ∧ c < 152))
def clo (x i : Int) : Int := if x < 4 then x else 4 + 4 * i + (x - 4) % 4
def cdf (xs : List Int) (c : Int) : Int := if 128 ≤ c then 20 + c - 128 else if c < 4 then c else 4 + 4 * (la xs ((c - 4) / 4) / 2353) + (c - 4) % 4
def itm (P : Pg) (xs : List Int) (i n : Int) : Prop := (0 ≤ i ∧ i < xs.length) ∧ ((0 ≤ n ∧ n < tot P) ∧ own P n = la xs i / 2353)
/-- the place to which a call leads -/
def plf (P : Pg) (xs : List Int) (lim i n : Int) : Int := cbl xs (nn P n * 2353 + ext lim (la xs i % 2353) n)
def DD (P : Pg) (xs : List Int) (lim : Int) (A : Fa) (i n c u : Int) : Prop :=
  (kd P n = 0 ∧ (c = clo (vv P n) i ∧ u = clo (ww P n) i)) ∨
  ((kd P n = 1 ∧ (c = clo (vv P n) i ∧ A (clo (ww P n) i) u)) ∨
  ((kd P n = 2 ∧ (c = clo (vv P n) i ∧ ∃ x, A (clo (ww P n) i) x ∧ A x u)) ∨
  ((kd P n = 3 ∧ (A (clo (vv P n) i) c ∧ A (clo (ww P n) i) u)) ∨
  ((kd P n = 4 ∧ (c = clo (vv P n) i ∧ u = 128 + 3 * sn P n)) ∨
  ((kd P n = 5 ∧ (c = clo (vv P n) i ∧ ((nn P n = 0 ∧ A (clo (ww P n) i) u) ∨ (nn P n ≠ 0 ∧ ∃ x, A (clo (ww P n) i) x ∧ (128 ≤ x ∧ ((x - 128) % 3 + nn P n ≤ 2 ∧ u = x + nn P n)))))) ∨
  (kd P n = 6 ∧ ((c = 4 + 4 * plf P xs lim i n ∧ A (clo (ww P n) i) u) ∨ (c = clo (vv P n) i ∧ A (4 + 4 * plf P xs lim i n + 1) u))))))))
theorem DD_mono {P : Pg} {xs : List Int} {lim : Int} {A B : Fa} (h : ∀ c u, A c u → B c u) {i n c u : Int} (g : DD P xs lim A i n c u) : DD P xs lim B i n c u := by
  rcases g with g | ⟨g0, g1, g2⟩ | ⟨g0, g1, x, g2, g3⟩ | ⟨g0, g1, g2⟩ | g | ⟨g0, g1, ⟨g2, g3⟩ | ⟨g2, x, g3, g4⟩⟩ | ⟨g0, ⟨g1, g2⟩ | ⟨g1, g2⟩⟩
  · exact Or.inl g
  · exact Or.inr (Or.inl ⟨g0, g1, h _ _ g2⟩)
  · exact Or.inr (Or.inr (Or.inl ⟨g0, g1, x, h _ _ g2, h _ _ g3⟩))
  · exact Or.inr (Or.inr (Or.inr (Or.inl ⟨g0, h _ _ g1, h _ _ g2⟩)))
  · exact Or.inr (Or.inr (Or.inr (Or.inr (Or.inl g))))
  · exact Or.inr (Or.inr (Or.inr (Or.inr (Or.inr (Or.inl ⟨g0, g1, Or.inl ⟨g2, h _ _ g3⟩⟩)))))
  · exact Or.inr (Or.inr (Or.inr (Or.inr (Or.inr (Or.inl ⟨g0, g1, Or.inr ⟨g2, x, h _ _ g3, g4⟩⟩)))))
  · exact Or.inr (Or.inr (Or.inr (Or.inr (Or.inr (Or.inr ⟨g0, Or.inl ⟨g1, h _ _ g2⟩⟩)))))
  · exact Or.inr (Or.inr (Or.inr (Or.inr (Or.inr (Or.inr ⟨g0, Or.inr ⟨g1, h _ _ g2⟩⟩)))))
def okF (xs : List Int) (A : Fa) : Prop := ∀ c u, A c u → vld xs c ∧ vld xs u
theorem clo_vld {xs : List Int} {x i : Int} (hx : 0 ≤ x) (i0 : 0 ≤ i) (i1 : i < xs.length) : vld xs (clo x i) := by
  unfold clo vld
  split
  · exact ⟨hx, Or.inl (by omega)⟩
  · exact ⟨by omega, Or.inr (Or.inl ⟨by omega, by omega⟩)⟩
theorem la_cbl {xs : List Int} (h : xs.Pairwise (· < ·)) {e : Int} (he : e ∈ xs) : (0 ≤ cbl xs e ∧ cbl xs e < xs.length) ∧ la xs (cbl xs e) = e := by
  obtain ⟨j, j0, j1, rfl⟩ := mem_la he
  have h1 := cbl_rng xs (la xs j)
  have e1 : cbl xs (la xs j) = j := by
    have a := cbl_iff h (b := la xs j) j0 j1
    by_cases c : cbl xs (la xs j) < j
    · have b := cbl_iff h (b := la xs j) (i := cbl xs (la xs j)) h1.1 (by omega)
      have := asc_la h h1.1 c j1
      omega
    · omega
  rw [e1]; exact ⟨⟨j0, j1⟩, rfl⟩
/-- where a call leads, there is a context -/
theorem plf_ok {P : Pg} {xs : List Int} {lim i n : Int} (hX : isC P lim xs) (h : itm P xs i n) (hk : kd P n = 6) : (0 ≤ plf P xs lim i n ∧ plf P xs lim i n < xs.length) ∧ la xs (plf P xs lim i n) = nn P n * 2353 + ext lim (la xs i % 2353) n := by
  have hm : la xs i ∈ xs := la_mem h.1.1 h.1.2
  have hs : stepC P lim (la xs i) (nn P n * 2353 + ext lim (la xs i % 2353) n) := ⟨n, ⟨h.2.1.1, h.2.1.2, hk⟩, h.2.2, rfl⟩
  exact la_cbl hX.1 ((hX.2 _).mpr (RS_step ((hX.2 _).mp hm) hs))
theorem sn_lt {P : Pg} (hP : okP P) {n : Int} (n0 : 0 ≤ n) (n1 : n < tot P) (hk : kd P n = 4) : 0 ≤ sn P n ∧ sn P n < 8 := by
  have h1 := sn_succ (P := P) n0
  rw [if_pos hk] at h1
  have h2 := sn_mono (P := P) (show n + 1 ≤ tot P by omega)
  have h3 := mny_all hP.1
  have h4 := hP.2.2.1
  have h5 := (sn_rng (P := P) n0).1
  omega
theorem DD_ok {P : Pg} (hP : okP P) {xs : List Int} {lim : Int} (hX : isC P lim xs) {A : Fa} (hA : okF xs A) {i n c u : Int} (hi : itm P xs i n) (g : DD P xs lim A i n c u) : vld xs c ∧ vld xs u := by
  obtain ⟨-, ⟨hv, hw, hn⟩, -⟩ := hP.2.1 n hi.2.1.1 hi.2.1.2
  have cv := clo_vld (xs := xs) hv.1 hi.1.1 hi.1.2
  have cw := clo_vld (xs := xs) hw.1 hi.1.1 hi.1.2
  have hlen := isC_len hP hX
  rcases g with ⟨g0, g1, g2⟩ | ⟨g0, g1, g2⟩ | ⟨g0, g1, x, g2, g3⟩ | ⟨g0, g1, g2⟩ | ⟨g0, g1, g2⟩ | ⟨g0, g1, ⟨g2, g3⟩ | ⟨g2, x, g3, g4, g5, g6⟩⟩ | ⟨g0, ⟨g1, g2⟩ | ⟨g1, g2⟩⟩
  · rw [g1, g2]; exact ⟨cv, cw⟩
  · rw [g1]; exact ⟨cv, (hA _ _ g2).2⟩
  · rw [g1]; exact ⟨cv, (hA _ _ g3).2⟩
  · exact ⟨(hA _ _ g1).2, (hA _ _ g2).2⟩
  · have := sn_lt hP hi.2.1.1 hi.2.1.2 g0
    rw [g1]; exact ⟨cv, ⟨by omega, Or.inr (Or.inr ⟨by omega, by omega⟩)⟩⟩
  · rw [g1]; exact ⟨cv, (hA _ _ g3).2⟩
  · have hx := (hA _ _ g3).2
    unfold vld at hx
    have hl := hlen
    have q : (x - 128) / 3 ≤ 7 := by omega
    rw [g1]; exact ⟨cv, ⟨by omega, Or.inr (Or.inr ⟨by omega, by omega⟩)⟩⟩
  · have := (plf_ok hX hi g0).1
    rw [g1]; exact ⟨⟨by omega, Or.inr (Or.inl ⟨by omega, by omega⟩)⟩, (hA _ _ g2).2⟩
  · rw [g1]; exact ⟨cv, (hA _ _ g2).2⟩
/-- round by round -/
def Gr (P : Pg) (xs : List Int) (lim : Int) : Nat → Fa
  | 0 => fun _ _ => False
  | j + 1 => fun c u => Gr P xs lim j c u ∨ ∃ i n, itm P xs i n ∧ DD P xs lim (Gr P xs lim j) i n c u
/-- within a round: what is before -/
def GB (P : Pg) (xs : List Int) (lim : Int) (j : Nat) (B : Int → Int → Prop) : Fa := fun c u => Gr P xs lim j c u ∨ ∃ i n, (itm P xs i n ∧ B i n) ∧ DD P xs lim (Gr P xs lim j) i n c u
def lx (i n : Int) : Int → Int → Prop := fun i' n' => i' < i ∨ (i' = i ∧ n' < n)
/-- the least closed set -/
def Lf (P : Pg) (xs : List Int) (lim : Int) : Fa := fun c u => ∀ X : Fa, (∀ i n c u, itm P xs i n → DD P xs lim X i n c u → X c u) → X c u
theorem LF_closed {P : Pg} {xs : List Int} {lim i n c u : Int} (hi : itm P xs i n) (h : DD P xs lim (Lf P xs lim) i n c u) : Lf P xs lim c u := fun X hX =>
  hX i n c u hi (DD_mono (fun c u g => g X hX) h)
theorem LF_least {P : Pg} {xs : List Int} {lim : Int} {X : Fa} (hX : ∀ i n c u, itm P xs i n → DD P xs lim X i n c u → X c u) {c u : Int} (h : Lf P xs lim c u) : X c u := h X hX
theorem Gr_LF {P : Pg} {xs : List Int} {lim : Int} : ∀ (j : Nat) {c u : Int}, Gr P xs lim j c u → Lf P xs lim c u
  | 0, _, _, h => h.elim
  | j + 1, c, u, h => by
    rcases h with h | ⟨i, n, hi, h⟩
    · exact Gr_LF j h
    · exact LF_closed hi (DD_mono (fun c u g => Gr_LF j g) h)
theorem LF_Gr {P : Pg} {xs : List Int} {lim : Int} {j : Nat} (h : ∀ c u, Gr P xs lim (j + 1) c u → Gr P xs lim j c u) {c u : Int} : Lf P xs lim c u ↔ Gr P xs lim j c u :=
  ⟨LF_least (fun i n c u hi g => h c u (Or.inr ⟨i, n, hi, g⟩)), Gr_LF j⟩
theorem Gr_ok {P : Pg} (hP : okP P) {xs : List Int} {lim : Int} (hX : isC P lim xs) : ∀ j, okF xs (Gr P xs lim j)
  | 0 => fun _ _ h => h.elim
  | j + 1 => fun c u h => by
    rcases h with h | ⟨i, n, hi, h⟩
    · exact Gr_ok hP hX j c u h
    · exact DD_ok hP hX (Gr_ok hP hX j) hi h
theorem GB_ok {P : Pg} (hP : okP P) {xs : List Int} {lim : Int} (hX : isC P lim xs) (j : Nat) (B : Int → Int → Prop) : okF xs (GB P xs lim j B) := fun c u h => by
  rcases h with h | ⟨i, n, hi, h⟩
  · exact Gr_ok hP hX j c u h
  · exact DD_ok hP hX (Gr_ok hP hX j) hi.1 h
theorem Lf_okF {P : Pg} (hP : okP P) {xs : List Int} {lim : Int} (hX : isC P lim xs) : okF xs (Lf P xs lim) := fun c u h =>
  LF_least (X := fun c u => Lf P xs lim c u ∧ (vld xs c ∧ vld xs u)) (fun i n c u hi g => ⟨LF_closed hi (DD_mono (fun _ _ k => k.1) g), DD_ok hP hX (A := fun c u => Lf P xs lim c u ∧ (vld xs c ∧ vld xs u)) (fun c u k => k.2) hi g⟩) h |>.2
/-- the pair of codes of some fact -/
def im (xs : List Int) (F : Fa) (a b : Int) : Prop := ∃ c u, F c u ∧ (cdf xs c = a ∧ cdf xs u = b)
theorem im_mono {xs : List Int} {F F' : Fa} (h : ∀ c u, F c u → F' c u) {a b : Int} (g : im xs F a b) : im xs F' a b := by
  obtain ⟨c, u, g1, g2⟩ := g
  exact ⟨c, u, h c u g1, g2⟩
/-- round and statement in which a pair of codes comes -/
def RKp (P : Pg) (xs : List Int) (lim : Int) (a b r s : Int) : Prop := ∃ (j : Nat) (i : Int), r = j + 1 ∧ (itm P xs i s ∧ (¬ im xs (GB P xs lim j (lx i s)) a b ∧ im xs (GB P xs lim j (lx i (s + 1))) a b))
theorem GB_Gr {P : Pg} {xs : List Int} {lim : Int} {j : Nat} {B : Int → Int → Prop} {c u : Int} (h : GB P xs lim j B c u) : Gr P xs lim (j + 1) c u := by
  rcases h with h | ⟨i, n, hi, h⟩
  · exact Or.inl h
  · exact Or.inr ⟨i, n, hi.1, h⟩
theorem Gr_le {P : Pg} {xs : List Int} {lim : Int} {j k : Nat} (hjk : j ≤ k) {c u : Int} (h : Gr P xs lim j c u) : Gr P xs lim k c u := by
  induction hjk with
  | refl => exact h
  | step _ ih => exact Or.inl ih
theorem GB_lx {P : Pg} {xs : List Int} {lim : Int} {j : Nat} {B B' : Int → Int → Prop} (hB : ∀ i n, B i n → B' i n) {c u : Int} (h : GB P xs lim j B c u) : GB P xs lim j B' c u := by
  rcases h with h | ⟨i, n, hi, h⟩
  · exact Or.inl h
  · exact Or.inr ⟨i, n, ⟨hi.1, hB i n hi.2⟩, h⟩
theorem RKp_uniq {P : Pg} {xs : List Int} {lim a b r s r' s' : Int} (h : RKp P xs lim a b r s) (h' : RKp P xs lim a b r' s') : r = r' ∧ s = s' := by
  obtain ⟨j, i, e, h1, h2, h3⟩ := h
  obtain ⟨j', i', e', h1', h2', h3'⟩ := h'
  have key : ∀ (j j' : Nat) (i i' s s' : Int), im xs (GB P xs lim j (lx i (s + 1))) a b → ¬ im xs (GB P xs lim j' (lx i' s')) a b → j' ≤ j ∧ (j' = j → i' ≤ i ∧ (i' = i → s' ≤ s)) := by
    intro j j' i i' s s' g1 g2
    refine ⟨?_, fun ej => ⟨?_, fun ei => ?_⟩⟩
    · rcases Nat.lt_or_ge j j' with q | q
      · exact absurd (im_mono (fun c u k => Or.inl (Gr_le (show j + 1 ≤ j' by omega) (GB_Gr k))) g1) g2
      · exact q
    · subst ej
      by_cases q : i < i'
      · exact absurd (im_mono (fun c u k => GB_lx (fun x y z => by unfold lx at *; omega) k) g1) g2
      · omega
    · subst ej; subst ei
      by_cases q : s < s'
      · exact absurd (im_mono (fun c u k => GB_lx (fun x y z => by unfold lx at *; omega) k) g1) g2
      · omega
  have k1 := key j j' i i' s s' h3 h2'
  have k2 := key j' j i' i s' s h3' h2
  have ej : j = j' := by omega
  have k3 := k1.2 ej.symm
  have k4 := k2.2 ej
  have ei : i = i' := by omega
  have k5 := k3.2 ei.symm
  have k6 := k4.2 ei
  exact ⟨by omega, by omega⟩

def xok (xs : List Int) : Prop := (∀ e ∈ xs, 0 ≤ e ∧ e < 9412) ∧ xs.length ≤ 31
theorem xok_of {P : Pg} (hP : okP P) {lim : Int} {xs : List Int} (h : isC P lim xs) : xok xs := ⟨fun e he => RS_rng hP ((h.2 e).mp he), isC_len hP h⟩
theorem cdf_rng {xs : List Int} {c : Int} (hx : xok xs) (h : vld xs c) : 0 ≤ cdf xs c ∧ cdf xs c < 44 := by
  obtain ⟨h0, h1⟩ := h
  have hl := hx.2
  unfold cdf
  by_cases a : 128 ≤ c
  · rw [if_pos a]; omega
  · rw [if_neg a]
    by_cases b : c < 4
    · rw [if_pos b]; omega
    · rw [if_neg b]
      have : (c - 4) / 4 < xs.length := by omega
      have := hx.1 _ (la_mem (xs := xs) (i := (c - 4) / 4) (by omega) this)
      omega
theorem GB_step {P : Pg} {xs : List Int} {lim i n : Int} {j : Nat} (hi : itm P xs i n) (c u : Int) : GB P xs lim j (lx i (n + 1)) c u ↔ (GB P xs lim j (lx i n) c u ∨ DD P xs lim (Gr P xs lim j) i n c u) := by
  unfold GB
  constructor
  · rintro (h | ⟨i', n', ⟨h1, h2⟩, h3⟩)
    · exact Or.inl (Or.inl h)
    · unfold lx at h2
      by_cases q : i' = i ∧ n' = n
      · rw [q.1, q.2] at h3; exact Or.inr h3
      · exact Or.inl (Or.inr ⟨i', n', ⟨h1, by unfold lx; omega⟩, h3⟩)
  · rintro ((h | ⟨i', n', ⟨h1, h2⟩, h3⟩) | h)
    · exact Or.inl h
    · exact Or.inr ⟨i', n', ⟨h1, by unfold lx at *; omega⟩, h3⟩
    · exact Or.inr ⟨i, n, ⟨hi, by unfold lx; omega⟩, h⟩
/-! the class's inclusion: questions -/
def SW (l : BitVec 64) (S : Int → Prop) : Prop := ∀ t : Nat, t < 64 → (l.getLsbD t = true ↔ S t)
theorem SW_eq {l l' : BitVec 64} {S : Int → Prop} (h : SW l S) (h' : SW l' S) : l = l' := by
  apply BitVec.eq_of_getLsbD_eq
  intro i hi
  have h1 := h i hi
  have h2 := h' i hi
  cases a : l.getLsbD i <;> cases b : l'.getLsbD i
  · rfl
  · rw [h1.mpr (h2.mp b)] at a; cases a
  · rw [h2.mpr (h1.mp a)] at b; cases b
  · rfl
theorem SW_congr {l : BitVec 64} {S S' : Int → Prop} (h : SW l S) (hS : ∀ t : Nat, t < 64 → (S t ↔ S' t)) : SW l S' := fun t ht => (h t ht).trans (hS t ht)
theorem SW_or {l l' : BitVec 64} {S S' : Int → Prop} (h : SW l S) (h' : SW l' S') : SW (l ||| l') (fun t => S t ∨ S' t) := fun t ht => by
  rw [BitVec.getLsbD_or, Bool.or_eq_true, h t ht, h' t ht]
/-! the class's unification -/
def EQ (P : Pg) (n : Int) (s t : Tm) : Prop :=
  (kd P n = 0 ∧ (s = (vv P n, 1) ∧ t = (ww P n, 0))) ∨
  ((kd P n = 2 ∧ (s = (vv P n, 1) ∧ t = (ww P n, 2))) ∨
  ((kd P n = 3 ∧ (s = (vv P n, 2) ∧ t = (ww P n, 1))) ∨
  ((kd P n = 4 ∧ (s = (vv P n, 1) ∧ t = (20 + sn P n, 0))) ∨
  ((kd P n = 6 ∧ ((s = (4 + 4 * nn P n, 1) ∧ t = (ww P n, 1)) ∨ (s = (vv P n, 1) ∧ t = (4 + 4 * nn P n + 1, 1)))) ∨
  ((kd P n = 1 ∨ kd P n = 5) ∧ (s = (vv P n, 1) ∧ t = (ww P n, 1)))))))
def EQs (P : Pg) (m : Int) (s t : Tm) : Prop := ∃ n, 0 ≤ n ∧ (n < m ∧ EQ P n s t)
theorem EQs_0 (P : Pg) : EQs P 0 = fun _ _ => False := by
  funext s t
  apply propext
  exact ⟨fun ⟨n, n0, n1, _⟩ => by omega, fun h => h.elim⟩
theorem EQs_succ {P : Pg} {m : Int} (m0 : 0 ≤ m) : EQs P (m + 1) = fun s t => EQs P m s t ∨ EQ P m s t := by
  funext s t
  apply propext
  constructor
  · rintro ⟨n, n0, n1, h⟩
    by_cases q : n = m
    · rw [q] at h; exact Or.inr h
    · exact Or.inl ⟨n, n0, by omega, h⟩
  · rintro (⟨n, n0, n1, h⟩ | h)
    · exact ⟨n, n0, by omega, h⟩
    · exact ⟨m, m0, by omega, h⟩
theorem gI_row {σ : St} {c : Nat} {i v : Int} : gI (sI σ c i v) c = fun j => if j = i then v else gI σ c j := funext fun j => by
  rw [gI_sI]
  by_cases q : j = i
  · rw [if_pos ⟨rfl, q⟩, if_pos q]
  · rw [if_neg (fun k => q k.2), if_neg q]
theorem gI_rne {σ : St} {c d : Nat} {i v : Int} (h : d ≠ c) : gI (sI σ c i v) d = gI σ d := funext fun j => by rw [gI_sI, if_neg (fun k => h k.1)]
/-! the class's unification: questions -/
noncomputable def dcl (p : Prop) : Bool := @decide p (Classical.propDecidable p)
theorem dcl_t {p : Prop} (h : p) : dcl p = true := @decide_eq_true p (Classical.propDecidable p) h
theorem dcl_f {p : Prop} (h : ¬ p) : dcl p = false := @decide_eq_false p (Classical.propDecidable p) h
theorem dcl_iff {p : Prop} : dcl p = true ↔ p := ⟨fun h => Classical.byContradiction (fun n => by rw [dcl_f n] at h; cases h), dcl_t⟩
def ugE (P : Pg) : Tm → Tm → Prop := cg (EQs P (tot P))
/-- what a unified variable's targets are -/
def ugT (P : Pg) (st v t : Int) : Prop := (t < 20 ∧ ugE P (v, 1) (t, 0)) ∨ ∃ s, 0 ≤ s ∧ (s < st ∧ ((20 + 3 * s ≤ t ∧ t < 23 + 3 * s) ∧ ugE P (v, 1) (20 + s, 0)))
def ugF (P : Pg) (t : Int) : Prop := ∀ e, 0 ≤ e → e < t → ¬ ugE P (e, 0) (t, 0)
/-! the pure machine, on the class's cells -/
def mwr (a p : Int) (s : St) : St := if p = 0 then sI s 47 a p else sL (sI s 47 a p) 49 (gI s 48 a) (gL s 49 (gI s 48 a) ||| (BitVec.ofNat 64 1 <<< sh6 (gI s 48 p)))
def mtk (c n : Int) (s : St) : St := sI (upI (upI s 47 (fun j => if gI s 46 7 ≤ j ∧ j < gI s 46 7 + n then 0 else gI s 47 j)) 48 (fun j => if gI s 46 7 ≤ j ∧ j < gI s 46 7 + n then c + (j - gI s 46 7) else gI s 48 j)) 46 7 (gI s 46 7 + n)
def mop (P : Pg) (f : Int) (s : St) : St := sI (sI (mtk (4 + 4 * f) 4 (sI (sI s 50 (gI s 46 6) f) 51 (gI s 46 6) (stt P f))) 52 (gI s 46 6) (gI s 46 7)) 46 6 (gI s 46 6 + 1)
def madr (v : Int) (s : St) : Int := if v < 4 then 1 + v else gI s 52 (gI s 46 6 - 1) + (v - 4) % 4
def mfl (s : St) : St := sI s 46 9 (gI s 46 9 + 1)
def mex1 (P : Pg) (n l r : Int) (s : St) : St :=
  if kd P n = 0 then mwr l r s
  else if kd P n = 1 then mwr l (gI s 47 r) s
  else if kd P n = 2 then (if gI s 47 r = 0 then mfl s else mwr l (gI s 47 (gI s 47 r)) s)
  else if kd P n = 3 then (if gI s 47 l = 0 then mfl s else mwr (gI s 47 l) (gI s 47 r) s)
  else if kd P n = 4 then mwr l (gI s 46 7) (mtk (20 + 3 * sn P n + 0) 3 (sI s 46 10 (gI s 46 10 + 1)))
  else if kd P n = 5 then (if gI s 47 r = 0 ∨ nn P n = 0 then mwr l (gI s 47 r) s else if gI s 48 (gI s 47 r) - 20 < 0 ∨ ¬ ((gI s 48 (gI s 47 r) - 20) % 3 + nn P n < 3) then mfl s else mwr l (gI s 47 r + nn P n) s)
  else (if gI s 46 6 < 6 ∧ gI s 46 8 < 200 then mwr (madr (4 + 4 * nn P n) (mop P (nn P n) s)) (gI s 47 r) (mop P (nn P n) s) else s)
def mex (P : Pg) (n : Int) (s : St) : St := mex1 P n (madr (vv P n) s) (madr (ww P n) s) (sI s 46 8 (gI s 46 8 + 1))
def mcl (P : Pg) (s : St) : St :=
  if 0 < gI s 46 6 - 1 then mwr (madr (vv P (gI s 51 (gI s 46 6 - 1 - 1) - 1)) (sI s 46 6 (gI s 46 6 - 1))) (gI s 47 (madr (4 + 4 * gI s 50 (gI s 46 6 - 1) + 1) s)) (sI s 46 6 (gI s 46 6 - 1))
  else sI s 46 6 (gI s 46 6 - 1)
def mst (P : Pg) (s : St) : St :=
  if gI s 51 (gI s 46 6 - 1) < stt P (gI s 50 (gI s 46 6 - 1) + 1) then mex P (gI s 51 (gI s 46 6 - 1)) (sI s 51 (gI s 46 6 - 1) (gI s 51 (gI s 46 6 - 1) + 1))
  else mcl P s
def mgo (s : St) : Prop := 0 < gI s 46 6 ∧ gI s 46 8 < 200
def mit (P : Pg) : Nat → St → St
  | 0, s => s
  | k + 1, s => mit P k (mst P s)
theorem mit_succ (P : Pg) : ∀ (k : Nat) (s : St), mit P (k + 1) s = mst P (mit P k s)
  | 0, _ => rfl
  | k + 1, s => by show mit P (k + 1) (mst P s) = mst P (mit P k (mst P s)); exact mit_succ P k (mst P s)
/-- the machine at its start, but for its first activation -/
def mcr (s : St) : St := mtk 0 4 (upL (sI (sI (sI (sI (sI s 46 6 0) 46 7 1) 46 8 0) 46 9 0) 46 10 0) 49 (fun j => if 0 ≤ j ∧ j < (ln 49 : Int) then BitVec.ofNat 64 0 else gL s 49 j))
def ms0 (P : Pg) (s : St) : St := mop P 0 (mcr s)
/-! cells of such states -/
theorem mwr_47 {a p : Int} {s : St} : gI (mwr a p s) 47 = fun j => if j = a then p else gI s 47 j := by
  unfold mwr
  by_cases h : p = 0
  · rw [if_pos h, gI_row]
  · rw [if_neg h]
    show gI (sI s 47 a p) 47 = _
    rw [gI_row]
theorem mwr_ne {a p : Int} {s : St} {c : Nat} (hc : c ≠ 47) : gI (mwr a p s) c = gI s c := by
  unfold mwr
  by_cases h : p = 0
  · rw [if_pos h, gI_rne hc]
  · rw [if_neg h]
    show gI (sI s 47 a p) c = _
    rw [gI_rne hc]
theorem mtk_47 {c n : Int} {s : St} : gI (mtk c n s) 47 = fun j => if gI s 46 7 ≤ j ∧ j < gI s 46 7 + n then 0 else gI s 47 j := rfl
theorem mtk_48 {c n : Int} {s : St} : gI (mtk c n s) 48 = fun j => if gI s 46 7 ≤ j ∧ j < gI s 46 7 + n then c + (j - gI s 46 7) else gI s 48 j := rfl
theorem mtk_46 {c n : Int} {s : St} {j : Int} : gI (mtk c n s) 46 j = if j = 7 then gI s 46 7 + n else gI s 46 j := by
  show (if 46 = 46 ∧ j = 7 then _ else _) = _
  by_cases h : j = 7
  · rw [if_pos ⟨rfl, h⟩, if_pos h]
  · rw [if_neg (fun k => h k.2), if_neg h]; rfl
theorem mtk_ne {c n : Int} {s : St} {d : Nat} (h1 : d ≠ 46) (h2 : d ≠ 47) (h3 : d ≠ 48) : gI (mtk c n s) d = gI s d := funext fun j => by
  show (if d = 46 ∧ j = 7 then _ else _) = _
  rw [if_neg (fun k => h1 k.1)]
  show (if d = 48 then _ else _) = _
  rw [if_neg h3]
  show (if d = 47 then _ else _) = _
  rw [if_neg h2]; rfl
theorem mtk_L {c n : Int} {s : St} : gL (mtk c n s) = gL s := rfl
theorem mop_46 {P : Pg} {f : Int} {s : St} {j : Int} : gI (mop P f s) 46 j = if j = 6 then gI s 46 6 + 1 else if j = 7 then gI s 46 7 + 4 else gI s 46 j := by
  unfold mop
  rw [gI_sI]
  by_cases h : j = 6
  · rw [if_pos ⟨rfl, h⟩, if_pos h]
  · rw [if_neg (fun k => h k.2), if_neg h, gI_sI, if_neg (by omega), mtk_46]
    by_cases h2 : j = 7
    · rw [if_pos h2, if_pos h2]; rfl
    · rw [if_neg h2, if_neg h2]; rfl
theorem mop_47 {P : Pg} {f : Int} {s : St} : gI (mop P f s) 47 = fun j => if gI s 46 7 ≤ j ∧ j < gI s 46 7 + 4 then 0 else gI s 47 j := rfl
theorem mop_48 {P : Pg} {f : Int} {s : St} : gI (mop P f s) 48 = fun j => if gI s 46 7 ≤ j ∧ j < gI s 46 7 + 4 then 4 + 4 * f + (j - gI s 46 7) else gI s 48 j := rfl
theorem mop_50 {P : Pg} {f : Int} {s : St} : gI (mop P f s) 50 = fun j => if j = gI s 46 6 then f else gI s 50 j := by
  show gI (mtk (4 + 4 * f) 4 (sI (sI s 50 (gI s 46 6) f) 51 (gI s 46 6) (stt P f))) 50 = _
  rw [mtk_ne (by decide) (by decide) (by decide), gI_rne (by decide), gI_row]
theorem mop_51 {P : Pg} {f : Int} {s : St} : gI (mop P f s) 51 = fun j => if j = gI s 46 6 then stt P f else gI s 51 j := by
  show gI (mtk (4 + 4 * f) 4 (sI (sI s 50 (gI s 46 6) f) 51 (gI s 46 6) (stt P f))) 51 = _
  rw [mtk_ne (by decide) (by decide) (by decide), gI_row, gI_rne (by decide)]
theorem mop_52 {P : Pg} {f : Int} {s : St} : gI (mop P f s) 52 = fun j => if j = gI s 46 6 then gI s 46 7 else gI s 52 j := by
  show gI (sI (mtk (4 + 4 * f) 4 (sI (sI s 50 (gI s 46 6) f) 51 (gI s 46 6) (stt P f))) 52 (gI s 46 6) (gI s 46 7)) 52 = _
  rw [gI_row, mtk_ne (by decide) (by decide) (by decide), gI_rne (by decide), gI_rne (by decide)]
/-- what a machine's state keeps -/
def WFf (P : Pg) (D U X fa ob : Int) (m c f n r : Int → Int) : Prop :=
  (0 ≤ D ∧ D ≤ 6) ∧ ((0 ≤ X ∧ X ≤ 200) ∧ ((5 ≤ U ∧ U ≤ 9 + 4 * X) ∧ (((0 ≤ fa ∧ fa ≤ X) ∧ (0 ≤ ob ∧ ob ≤ X)) ∧
  ((∀ a, 1 ≤ a → a < U → (0 ≤ m a ∧ m a < U) ∧ (0 ≤ c a ∧ c a < 44)) ∧
  ((∀ a k, 1 ≤ a → a < U → 20 ≤ c a → 0 ≤ k → (c a - 20) % 3 + k ≤ 2 → a + k < U ∧ c (a + k) = c a + k) ∧
  ((∀ i, 0 ≤ i → i < D → (0 ≤ f i ∧ f i ≤ 3) ∧ ((stt P (f i) ≤ n i ∧ n i ≤ stt P (f i + 1)) ∧ (5 ≤ r i ∧ r i + 3 < U))) ∧
  (∀ i, 0 ≤ i → i + 1 < D → stt P (f i) < n i)))))))
def WFM (P : Pg) (s : St) : Prop := WFf P (gI s 46 6) (gI s 46 7) (gI s 46 8) (gI s 46 9) (gI s 46 10) (gI s 47) (gI s 48) (gI s 50) (gI s 51) (gI s 52)
theorem WF_mem {P : Pg} {D U X fa ob : Int} {m c f n r : Int → Int} (h : WFf P D U X fa ob m c f n r) {a p : Int} (hp : 0 ≤ p ∧ p < U) : WFf P D U X fa ob (fun j => if j = a then p else m j) c f n r := by
  obtain ⟨h1, h2, h3, h4, h5, h6, h7, h8⟩ := h
  refine ⟨h1, h2, h3, h4, fun b b0 b1 => ⟨?_, (h5 b b0 b1).2⟩, h6, h7, h8⟩
  show 0 ≤ (if b = a then p else m b) ∧ (if b = a then p else m b) < U
  by_cases q : b = a
  · rw [if_pos q]; exact hp
  · rw [if_neg q]; exact (h5 b b0 b1).1
theorem WF_X {P : Pg} {D U X fa ob X' : Int} {m c f n r : Int → Int} (h : WFf P D U X fa ob m c f n r) (hx : X ≤ X' ∧ X' ≤ 200) : WFf P D U X' fa ob m c f n r := by
  obtain ⟨h1, h2, h3, h4, h5⟩ := h
  exact ⟨h1, by omega, by omega, by omega, h5⟩
theorem WF_fa {P : Pg} {D U X fa ob fa' : Int} {m c f n r : Int → Int} (h : WFf P D U X fa ob m c f n r) (hx : 0 ≤ fa' ∧ fa' ≤ X) : WFf P D U X fa' ob m c f n r := by
  obtain ⟨h1, h2, h3, h4, h5⟩ := h
  exact ⟨h1, h2, h3, ⟨hx, h4.2⟩, h5⟩
theorem WF_ob {P : Pg} {D U X fa ob ob' : Int} {m c f n r : Int → Int} (h : WFf P D U X fa ob m c f n r) (hx : 0 ≤ ob' ∧ ob' ≤ X) : WFf P D U X fa ob' m c f n r := by
  obtain ⟨h1, h2, h3, h4, h5⟩ := h
  exact ⟨h1, h2, h3, ⟨h4.1, hx⟩, h5⟩
theorem WF_tk {P : Pg} {D U X fa ob : Int} {m c f n r : Int → Int} (h : WFf P D U X fa ob m c f n r) {k c0 : Int} (hk : 0 ≤ k ∧ U + k ≤ 9 + 4 * X) (hc : 0 ≤ c0 ∧ c0 + k ≤ 44) (h20 : c0 + k ≤ 20 ∨ (k = 3 ∧ 20 ≤ c0 ∧ (c0 - 20) % 3 = 0)) :
    WFf P D (U + k) X fa ob (fun j => if U ≤ j ∧ j < U + k then 0 else m j) (fun j => if U ≤ j ∧ j < U + k then c0 + (j - U) else c j) f n r := by
  obtain ⟨h1, h2, h3, h4, h5, h6, h7, h8⟩ := h
  refine ⟨h1, h2, ⟨by omega, hk.2⟩, h4, fun a a0 a1 => ⟨?_, ?_⟩, fun a j a0 a1 a2 j0 j1 => ?_, fun i i0 i1 => ⟨(h7 i i0 i1).1, (h7 i i0 i1).2.1, (h7 i i0 i1).2.2.1, ?_⟩, h8⟩
  · show 0 ≤ (if U ≤ a ∧ a < U + k then 0 else m a) ∧ (if U ≤ a ∧ a < U + k then 0 else m a) < U + k
    by_cases q : U ≤ a ∧ a < U + k
    · rw [if_pos q]; omega
    · rw [if_neg q]; have := (h5 a a0 (by omega)).1; omega
  · show 0 ≤ (if U ≤ a ∧ a < U + k then c0 + (a - U) else c a) ∧ (if U ≤ a ∧ a < U + k then c0 + (a - U) else c a) < 44
    by_cases q : U ≤ a ∧ a < U + k
    · rw [if_pos q]; omega
    · rw [if_neg q]; exact (h5 a a0 (by omega)).2
  · revert a2 j1
    show 20 ≤ (if U ≤ a ∧ a < U + k then c0 + (a - U) else c a) → ((if U ≤ a ∧ a < U + k then c0 + (a - U) else c a) - 20) % 3 + j ≤ 2 → a + j < U + k ∧ (if U ≤ a + j ∧ a + j < U + k then c0 + (a + j - U) else c (a + j)) = (if U ≤ a ∧ a < U + k then c0 + (a - U) else c a) + j
    by_cases q : U ≤ a ∧ a < U + k
    · rw [if_pos q]
      intro a2 j1
      have e : a + j < U + k := by omega
      rw [if_pos ⟨by omega, e⟩]
      exact ⟨e, by omega⟩
    · rw [if_neg q]
      intro a2 j1
      have e := h6 a j a0 (by omega) a2 j0 j1
      rw [if_neg (by omega)]
      exact ⟨by omega, e.2⟩
  · have := (h7 i i0 i1).2.2.2; omega
theorem WF_nx {P : Pg} {D U X fa ob : Int} {m c f n r : Int → Int} (h : WFf P D U X fa ob m c f n r) {i v : Int} (hi : i = D - 1) (hv : stt P (f i) < v ∧ v ≤ stt P (f i + 1)) : WFf P D U X fa ob m c f (fun j => if j = i then v else n j) r := by
  obtain ⟨h1, h2, h3, h4, h5, h6, h7, h8⟩ := h
  refine ⟨h1, h2, h3, h4, h5, h6, fun j j0 j1 => ⟨(h7 j j0 j1).1, ?_, (h7 j j0 j1).2.2⟩, fun j j0 j1 => ?_⟩
  · show stt P (f j) ≤ (if j = i then v else n j) ∧ (if j = i then v else n j) ≤ stt P (f j + 1)
    by_cases q : j = i
    · rw [if_pos q, q]; omega
    · rw [if_neg q]; exact (h7 j j0 j1).2.1
  · show stt P (f j) < (if j = i then v else n j)
    rw [if_neg (by omega)]; exact h8 j j0 j1
theorem WF_push {P : Pg} (hz : okZ P) {D U X fa ob g : Int} {m c f n r : Int → Int} (h : WFf P D U X fa ob m c f n r) (hD : D < 6) (hg : 0 ≤ g ∧ g ≤ 3) (hn : 0 < D → stt P (f (D - 1)) < n (D - 1)) (hu : U + 4 ≤ 9 + 4 * X) :
    WFf P (D + 1) (U + 4) X fa ob (fun j => if U ≤ j ∧ j < U + 4 then 0 else m j) (fun j => if U ≤ j ∧ j < U + 4 then 4 + 4 * g + (j - U) else c j) (fun j => if j = D then g else f j) (fun j => if j = D then stt P g else n j) (fun j => if j = D then U else r j) := by
  obtain ⟨h1, h2, h3, h4, h5, h6, h7, h8⟩ := WF_tk h (k := 4) (c0 := 4 + 4 * g) (by omega) (by omega) (Or.inl (by omega))
  have hs := stt_succ P hg.1 hg.2
  have hz := okZ_at hz hg.1 hg.2
  have h3' := h.2.2.1
  refine ⟨by omega, h2, h3, h4, h5, h6, fun i i0 i1 => ?_, fun i i0 i1 => ?_⟩
  · show (0 ≤ (if i = D then g else f i) ∧ (if i = D then g else f i) ≤ 3) ∧ ((stt P (if i = D then g else f i) ≤ (if i = D then stt P g else n i) ∧ (if i = D then stt P g else n i) ≤ stt P ((if i = D then g else f i) + 1)) ∧ (5 ≤ (if i = D then U else r i) ∧ (if i = D then U else r i) + 3 < U + 4))
    by_cases q : i = D
    · simp only [if_pos q]; refine ⟨hg, ⟨by omega, by omega⟩, by omega, by omega⟩
    · simp only [if_neg q]; exact h7 i i0 (by omega)
  · show stt P (if i = D then g else f i) < (if i = D then stt P g else n i)
    rw [if_neg (by omega), if_neg (by omega)]
    by_cases q : i + 1 < D
    · exact h8 i i0 q
    · have e : i = D - 1 := by omega
      rw [e]; exact hn (by omega)
theorem WF_pop {P : Pg} {D U X fa ob : Int} {m c f n r : Int → Int} (h : WFf P D U X fa ob m c f n r) (hD : 0 < D) : WFf P (D - 1) U X fa ob m c f n r := by
  obtain ⟨h1, h2, h3, h4, h5, h6, h7, h8⟩ := h
  exact ⟨by omega, h2, h3, h4, h5, h6, fun i i0 i1 => h7 i i0 (by omega), fun i i0 i1 => h8 i i0 (by omega)⟩
theorem W_wr {P : Pg} {s : St} {a p : Int} (h : WFM P s) (hp : 0 ≤ p ∧ p < gI s 46 7) : WFM P (mwr a p s) := by
  unfold WFM at *
  rw [mwr_47, mwr_ne (by decide), mwr_ne (by decide), mwr_ne (by decide), mwr_ne (by decide), mwr_ne (by decide)]
  exact WF_mem h hp
theorem W_fl {P : Pg} {s : St} (h : WFM P s) (hf : gI s 46 9 + 1 ≤ gI s 46 8) : WFM P (mfl s) := by
  have h9 := h.2.2.2.1.1
  exact WF_fa (fa' := gI s 46 9 + 1) h ⟨by omega, hf⟩
theorem W_X {P : Pg} {s : St} (h : WFM P s) (hx : gI s 46 8 < 200) : WFM P (sI s 46 8 (gI s 46 8 + 1)) :=
  WF_X (X' := gI s 46 8 + 1) h ⟨by omega, by omega⟩
theorem W_op {P : Pg} (hz : okZ P) {s : St} {g : Int} (h : WFM P s) (hD : gI s 46 6 < 6) (hg : 0 ≤ g ∧ g ≤ 3) (hn : 0 < gI s 46 6 → stt P (gI s 50 (gI s 46 6 - 1)) < gI s 51 (gI s 46 6 - 1)) (hu : gI s 46 7 + 4 ≤ 9 + 4 * gI s 46 8) : WFM P (mop P g s) := by
  have := WF_push hz h hD hg hn hu
  unfold WFM
  rw [mop_46, mop_46, mop_46, mop_46, mop_46, mop_47, mop_48, mop_50, mop_51, mop_52]
  exact this
theorem W_tk {P : Pg} {s : St} {k c0 : Int} (h : WFM P s) (hk : 0 ≤ k ∧ gI s 46 7 + k ≤ 9 + 4 * gI s 46 8) (hc : 0 ≤ c0 ∧ c0 + k ≤ 44) (h20 : c0 + k ≤ 20 ∨ (k = 3 ∧ 20 ≤ c0 ∧ (c0 - 20) % 3 = 0)) : WFM P (mtk c0 k s) := by
  have := WF_tk h hk hc h20
  unfold WFM
  rw [mtk_46, mtk_46, mtk_46, mtk_46, mtk_46, mtk_47, mtk_48, mtk_ne (by decide) (by decide) (by decide), mtk_ne (by decide) (by decide) (by decide), mtk_ne (by decide) (by decide) (by decide)]
  exact this
theorem madr_rng {P : Pg} {s : St} (h : WFM P s) {v : Int} (hD : 0 < gI s 46 6) (hv : 0 ≤ v) : 1 ≤ madr v s ∧ madr v s < gI s 46 7 := by
  have h3 := h.2.2.1
  unfold madr
  by_cases q : v < 4
  · rw [if_pos q]; omega
  · rw [if_neg q]
    have := (h.2.2.2.2.2.2.1 (gI s 46 6 - 1) (by omega) (by omega)).2.2
    omega
theorem madr_46 {s : St} {v j x : Int} (hj : j ≠ 6) : madr v (sI s 46 j x) = madr v s := by
  unfold madr
  rw [gI_rne (show (52 : Nat) ≠ 46 by decide), show gI (sI s 46 j x) 46 6 = gI s 46 6 from by rw [gI_sI, if_neg (fun k => hj k.2.symm)]]
theorem mtk_U {s : St} {c n : Int} : gI (mtk c n s) 46 7 = gI s 46 7 + n := by rw [mtk_46, if_pos rfl]
/-- an executed statement keeps it -/
theorem W_ex1 {P : Pg} (hP : okP P) {s : St} {n l r : Int} (h : WFM P s) (n0 : 0 ≤ n) (n1 : n < tot P) (hD : 0 < gI s 46 6) (hl : 1 ≤ l ∧ l < gI s 46 7) (hr : 1 ≤ r ∧ r < gI s 46 7) (hX : 1 ≤ gI s 46 8) (hfa : gI s 46 9 + 1 ≤ gI s 46 8) (hob : gI s 46 10 + 1 ≤ gI s 46 8) (hu : gI s 46 7 + 4 ≤ 9 + 4 * gI s 46 8)
    (hn : stt P (gI s 50 (gI s 46 6 - 1)) < gI s 51 (gI s 46 6 - 1)) : WFM P (mex1 P n l r s) := by
  obtain ⟨hk, ⟨hv, hw, hnn⟩, h5⟩ := hP.2.1 n n0 n1
  have hm := h.2.2.2.2.1
  have hob0 := h.2.2.2.1.2
  have mr := (hm r hr.1 hr.2).1
  have ml := (hm l hl.1 hl.2).1
  unfold mex1
  by_cases e0 : kd P n = 0
  · rw [if_pos e0]; exact W_wr h (by omega)
  rw [if_neg e0]
  by_cases e1 : kd P n = 1
  · rw [if_pos e1]; exact W_wr h mr
  rw [if_neg e1]
  by_cases e2 : kd P n = 2
  · rw [if_pos e2]
    by_cases q : gI s 47 r = 0
    · rw [if_pos q]; exact W_fl h hfa
    · rw [if_neg q]; exact W_wr h (hm _ (by omega) mr.2).1
  rw [if_neg e2]
  by_cases e3 : kd P n = 3
  · rw [if_pos e3]
    by_cases q : gI s 47 l = 0
    · rw [if_pos q]; exact W_fl h hfa
    · rw [if_neg q]; exact W_wr h mr
  rw [if_neg e3]
  by_cases e4 : kd P n = 4
  · rw [if_pos e4]
    have hs := sn_lt hP n0 n1 e4
    have h1 : WFM P (sI s 46 10 (gI s 46 10 + 1)) := WF_ob (ob' := gI s 46 10 + 1) h ⟨by omega, hob⟩
    have h2 := W_tk (k := 3) (c0 := 20 + 3 * sn P n + 0) h1 (by refine ⟨by omega, ?_⟩; show gI s 46 7 + 3 ≤ 9 + 4 * gI s 46 8; omega) (by omega) (Or.inr ⟨rfl, by omega, by omega⟩)
    refine W_wr h2 ?_
    rw [mtk_U]
    show 0 ≤ gI s 46 7 ∧ gI s 46 7 < gI s 46 7 + 3
    omega
  rw [if_neg e4]
  by_cases e5 : kd P n = 5
  · rw [if_pos e5]
    by_cases q : gI s 47 r = 0 ∨ nn P n = 0
    · rw [if_pos q]; exact W_wr h mr
    · rw [if_neg q]
      by_cases q2 : gI s 48 (gI s 47 r) - 20 < 0 ∨ ¬ ((gI s 48 (gI s 47 r) - 20) % 3 + nn P n < 3)
      · rw [if_pos q2]; exact W_fl h hfa
      · rw [if_neg q2]
        have := (h.2.2.2.2.2.1 (gI s 47 r) (nn P n) (by omega) mr.2 (by omega) hnn.1 (by omega)).1
        exact W_wr h (by omega)
  rw [if_neg e5]
  by_cases q : gI s 46 6 < 6 ∧ gI s 46 8 < 200
  · rw [if_pos q]
    have h2 := W_op hP.1 (g := nn P n) h q.1 hnn (fun _ => hn) hu
    refine W_wr h2 ?_
    rw [mop_46, if_neg (by decide), if_pos rfl]
    omega
  · rw [if_neg q]; exact h
theorem W_st {P : Pg} (hP : okP P) {s : St} (h : WFM P s) (hg : mgo s) : WFM P (mst P s) := by
  have hD := hg.1
  have hX := hg.2
  have hs := h.2.2.2.2.2.2.1 (gI s 46 6 - 1) (by omega) (by omega)
  have h2 := h.2.1
  have h4 := h.2.2.2.1
  have h3 := h.2.2.1
  unfold mst
  by_cases q : gI s 51 (gI s 46 6 - 1) < stt P (gI s 50 (gI s 46 6 - 1) + 1)
  · rw [if_pos q]
    have hst := stt_rng hP.1 hs.1.1 hs.1.2
    have hss := stt_succ P hs.1.1 hs.1.2
    have w1 : WFM P (sI s 51 (gI s 46 6 - 1) (gI s 51 (gI s 46 6 - 1) + 1)) := by
      have := WF_nx h (i := gI s 46 6 - 1) (v := gI s 51 (gI s 46 6 - 1) + 1) rfl (by omega)
      unfold WFM
      rw [gI_row, gI_rne (by decide), gI_rne (by decide), gI_rne (by decide), gI_rne (by decide), gI_rne (by decide)]
      exact this
    have w2 := W_X w1 hX
    unfold mex
    refine W_ex1 hP w2 (by omega) (by omega) hD ?_ ?_ ?_ ?_ ?_ ?_ ?_
    · exact madr_rng w1 hD (hP.2.1 _ (by omega) (by omega)).2.1.1.1
    · exact madr_rng w1 hD (hP.2.1 _ (by omega) (by omega)).2.1.2.1.1
    · show 1 ≤ gI s 46 8 + 1; omega
    · show gI s 46 9 + 1 ≤ gI s 46 8 + 1; omega
    · show gI s 46 10 + 1 ≤ gI s 46 8 + 1; omega
    · show gI s 46 7 + 4 ≤ 9 + 4 * (gI s 46 8 + 1); omega
    · show stt P (gI s 50 (gI s 46 6 - 1)) < gI (sI s 51 (gI s 46 6 - 1) (gI s 51 (gI s 46 6 - 1) + 1)) 51 (gI s 46 6 - 1)
      rw [gI_sI, if_pos ⟨rfl, rfl⟩]; omega
  · rw [if_neg q]
    have w1 : WFM P (sI s 46 6 (gI s 46 6 - 1)) := WF_pop h hD
    have hm := h.2.2.2.2.1
    have ha := madr_rng h hD (v := 4 + 4 * gI s 50 (gI s 46 6 - 1) + 1) (by omega)
    unfold mcl
    by_cases q2 : 0 < gI s 46 6 - 1
    · rw [if_pos q2]; exact W_wr w1 (hm _ ha.1 ha.2).1
    · rw [if_neg q2]; exact w1

theorem wr_46 {a p : Int} {s : St} {j : Int} : gI (mwr a p s) 46 j = gI s 46 j := by rw [mwr_ne (by decide)]
theorem ex1_46 {P : Pg} {n l r : Int} {s : St} : gI (mex1 P n l r s) 46 8 = gI s 46 8 ∧ gI (mex1 P n l r s) 46 6 ≤ gI s 46 6 + 1 := by
  have z : gI s 46 6 ≤ gI s 46 6 + 1 := by omega
  have fl : gI (mfl s) 46 8 = gI s 46 8 ∧ gI (mfl s) 46 6 ≤ gI s 46 6 + 1 := ⟨rfl, z⟩
  unfold mex1
  repeat' split
  · rw [wr_46, wr_46]; exact ⟨rfl, z⟩
  · rw [wr_46, wr_46]; exact ⟨rfl, z⟩
  · exact fl
  · rw [wr_46, wr_46]; exact ⟨rfl, z⟩
  · exact fl
  · rw [wr_46, wr_46]; exact ⟨rfl, z⟩
  · rw [wr_46, wr_46, mtk_46, mtk_46, if_neg (by decide), if_neg (by decide)]; exact ⟨rfl, z⟩
  · rw [wr_46, wr_46]; exact ⟨rfl, z⟩
  · exact fl
  · rw [wr_46, wr_46]; exact ⟨rfl, z⟩
  · rw [wr_46, wr_46, mop_46, mop_46, if_neg (by decide), if_neg (by decide), if_pos rfl]; exact ⟨rfl, Int.le_refl _⟩
  · exact ⟨rfl, z⟩
theorem st_46 {P : Pg} {s : St} : gI (mst P s) 46 6 - 2 * gI (mst P s) 46 8 + 1 ≤ gI s 46 6 - 2 * gI s 46 8 := by
  unfold mst
  split
  · unfold mex
    obtain ⟨h1, h2⟩ := ex1_46 (P := P) (n := gI s 51 (gI s 46 6 - 1)) (l := madr (vv P (gI s 51 (gI s 46 6 - 1))) (sI s 51 (gI s 46 6 - 1) (gI s 51 (gI s 46 6 - 1) + 1))) (r := madr (ww P (gI s 51 (gI s 46 6 - 1))) (sI s 51 (gI s 46 6 - 1) (gI s 51 (gI s 46 6 - 1) + 1))) (s := sI (sI s 51 (gI s 46 6 - 1) (gI s 51 (gI s 46 6 - 1) + 1)) 46 8 (gI (sI s 51 (gI s 46 6 - 1) (gI s 51 (gI s 46 6 - 1) + 1)) 46 8 + 1))
    have e8 : gI (sI (sI s 51 (gI s 46 6 - 1) (gI s 51 (gI s 46 6 - 1) + 1)) 46 8 (gI (sI s 51 (gI s 46 6 - 1) (gI s 51 (gI s 46 6 - 1) + 1)) 46 8 + 1)) 46 8 = gI s 46 8 + 1 := rfl
    have e6 : gI (sI (sI s 51 (gI s 46 6 - 1) (gI s 51 (gI s 46 6 - 1) + 1)) 46 8 (gI (sI s 51 (gI s 46 6 - 1) (gI s 51 (gI s 46 6 - 1) + 1)) 46 8 + 1)) 46 6 = gI s 46 6 := rfl
    omega
  · unfold mcl
    have e8 : gI (sI s 46 6 (gI s 46 6 - 1)) 46 8 = gI s 46 8 := rfl
    have e6 : gI (sI s 46 6 (gI s 46 6 - 1)) 46 6 = gI s 46 6 - 1 := rfl
    split
    · rw [wr_46, wr_46, e8, e6]; omega
    · rw [e8, e6]; omega
theorem mcr_46 {s : St} : gI (mcr s) 46 6 = 0 ∧ (gI (mcr s) 46 7 = 5 ∧ (gI (mcr s) 46 8 = 0 ∧ (gI (mcr s) 46 9 = 0 ∧ gI (mcr s) 46 10 = 0))) := ⟨rfl, rfl, rfl, rfl, rfl⟩
theorem mcr_47 {s : St} {j : Int} (h0 : 1 ≤ j) (h1 : j < 5) : gI (mcr s) 47 j = 0 ∧ gI (mcr s) 48 j = j - 1 := by
  have e : ∀ τ : St, gI τ 46 7 = 1 → gI (mtk 0 4 τ) 47 j = 0 ∧ gI (mtk 0 4 τ) 48 j = j - 1 := fun τ h => by
    rw [mtk_47, mtk_48, h]
    show (if 1 ≤ j ∧ j < 1 + 4 then 0 else _) = 0 ∧ (if 1 ≤ j ∧ j < 1 + 4 then 0 + (j - 1) else _) = j - 1
    rw [if_pos ⟨h0, by omega⟩, if_pos ⟨h0, by omega⟩]
    exact ⟨rfl, by omega⟩
  exact e _ rfl
theorem W_0 {P : Pg} (hz : okZ P) (s : St) : WFM P (ms0 P s) := by
  obtain ⟨h6, h7, h8, h9, h10⟩ := mcr_46 (s := s)
  have hs0 := stt_rng hz (f := 0) (by omega) (by omega)
  have hz0 := okZ_at hz (f := 0) (by omega) (by omega)
  have hss := stt_succ P (f := 0) (by omega) (by omega)
  unfold ms0 WFM
  rw [mop_46, mop_46, mop_46, mop_46, mop_46, mop_47, mop_48, mop_50, mop_51, mop_52, h6, h7]
  simp only [show (6 : Int) = 6 from rfl, if_true, show ¬ ((7 : Int) = 6) by decide, show ¬ ((8 : Int) = 6) by decide, show ¬ ((8 : Int) = 7) by decide, show ¬ ((9 : Int) = 6) by decide, show ¬ ((9 : Int) = 7) by decide, show ¬ ((10 : Int) = 6) by decide, show ¬ ((10 : Int) = 7) by decide, if_false, h8, h9, h10]
  refine ⟨by omega, by omega, by omega, by omega, fun a a0 a1 => ?_, fun a k a0 a1 a2 k0 k1 => ?_, fun i i0 i1 => ?_, fun i i0 i1 => by omega⟩
  · by_cases q : 5 ≤ a ∧ a < 5 + 4
    · simp only [if_pos q]; omega
    · obtain ⟨e1, e2⟩ := mcr_47 (s := s) (j := a) (by omega) (by omega)
      simp only [if_neg q]; rw [e1, e2]; omega
  · exfalso
    by_cases q : 5 ≤ a ∧ a < 5 + 4
    · simp only [if_pos q] at a2; omega
    · obtain ⟨e1, e2⟩ := mcr_47 (s := s) (j := a) (by omega) (by omega)
      simp only [if_neg q] at a2; rw [e2] at a2; omega
  · have e : i = 0 := by omega
    subst e
    simp only [if_true]
    exact ⟨⟨by omega, by omega⟩, ⟨by omega, by omega⟩, by omega, by omega⟩
/-! the law's questions: a fresh law, its contexts -/
noncomputable def wSa (S : Int → Prop) : Nat → BitVec 64
  | 0 => BitVec.ofNat 64 0
  | n + 1 => wSa S n ||| (if dcl (S n) = true then BitVec.ofNat 64 1 <<< n else BitVec.ofNat 64 0)
theorem wSa_bit (S : Int → Prop) : ∀ n : Nat, n ≤ 64 → ∀ t : Nat, (wSa S n).getLsbD t = true ↔ (t < n ∧ S t)
  | 0, _, t => by simp [wSa]
  | n + 1, hn, t => by
    show (wSa S n ||| _).getLsbD t = true ↔ _
    rw [BitVec.getLsbD_or, Bool.or_eq_true, wSa_bit S n (by omega) t]
    by_cases q : S n
    · rw [dcl_t q, if_pos rfl, bb_one (by omega), decide_eq_true_eq]
      constructor
      · rintro (⟨h, k⟩ | h)
        · exact ⟨by omega, k⟩
        · exact ⟨by omega, by rw [h]; exact q⟩
      · rintro ⟨h, k⟩
        by_cases e : t = n
        · exact Or.inr e
        · exact Or.inl ⟨by omega, k⟩
    · rw [dcl_f q, if_neg (by decide)]
      have z : (BitVec.ofNat 64 0).getLsbD t = false := by simp
      rw [z]
      constructor
      · rintro (⟨h, k⟩ | h)
        · exact ⟨by omega, k⟩
        · cases h
      · rintro ⟨h, k⟩
        by_cases e : t = n
        · rw [e] at k; exact absurd k q
        · exact Or.inl ⟨by omega, k⟩
/-- the word of a set -/
noncomputable def wS (S : Int → Prop) : BitVec 64 := wSa S 64
theorem SW_wS (S : Int → Prop) : SW (wS S) S := fun t ht => (wSa_bit S 64 (Nat.le_refl _) t).trans ⟨fun h => h.2, fun h => ⟨ht, h⟩⟩
theorem wS_of {l : BitVec 64} {S : Int → Prop} (h : SW l S) : l = wS S := SW_eq h (SW_wS S)
theorem wS_congr {S S' : Int → Prop} (h : ∀ t : Nat, t < 64 → (S t ↔ S' t)) : wS S = wS S' := wS_of (SW_congr (SW_wS S) h)
theorem wS_or (S S' : Int → Prop) : wS S ||| wS S' = wS (fun t => S t ∨ S' t) := wS_of (SW_or (SW_wS S) (SW_wS S'))
theorem wS_pw (S : Int → Prop) : pw (wS S) = cn (fun t => dcl (S t)) 64 := cn_congr (fun m m0 m1 => by
  have h := SW_wS S m.toNat (by omega)
  rw [show ((m.toNat : Nat) : Int) = m by omega] at h
  by_cases q : S m
  · rw [dcl_t q]; exact h.mpr q
  · rw [dcl_f q]
    cases z : (wS S).getLsbD m.toNat with
    | false => rfl
    | true => exact absurd (h.mp z) q)
/-! the law's questions: targets -/
def TSp (P : Pg) (xs : List Int) (lim c : Int) : Int → Prop := fun t => ∃ u, Lf P xs lim c u ∧ cdf xs u = t
theorem fpop_congr {F F' : Int → BitVec 64} (h : ∀ k : Int, 0 ≤ k → k < 456 → F k = F' k) : fpop F = fpop F' := fsum_congr (fun k k0 k1 => h k k0 (by omega))
/-- the number of facts -/
noncomputable def FN (P : Pg) (xs : List Int) (lim : Int) : Int := fpop (fun k => wS (fun t => Lf P xs lim (k / 3) (64 * (k % 3) + t)))
/-- mayAlias -/
def alp (P : Pg) (xs : List Int) (lim v w : Int) : Prop := ∃ t : Nat, t < 64 ∧ (im xs (Lf P xs lim) v t ∧ im xs (Lf P xs lim) w t)
def IW (z : Int) (S : Int → Prop) : Prop := ∃ n : Nat, z = (n : Int) ∧ (n < 2147483648 ∧ ∀ t : Nat, t < 31 → (n.testBit t = true ↔ S t))
theorem IW_rng {z : Int} {S : Int → Prop} (h : IW z S) : 0 ≤ z ∧ z < 2147483648 := by
  obtain ⟨n, e, h1, _⟩ := h
  omega
theorem IW_inR {z : Int} {S : Int → Prop} (h : IW z S) : inR z := by have := IW_rng h; exact ⟨by omega, by omega⟩
theorem IW_congr {z : Int} {S S' : Int → Prop} (h : IW z S) (hS : ∀ t : Nat, t < 31 → (S t ↔ S' t)) : IW z S' := by
  obtain ⟨n, e, h1, h2⟩ := h
  exact ⟨n, e, h1, fun t ht => (h2 t ht).trans (hS t ht)⟩
theorem IW_eq {z z' : Int} {S : Int → Prop} (h : IW z S) (h' : IW z' S) : z = z' := by
  obtain ⟨n, e, h1, h2⟩ := h
  obtain ⟨n', e', h1', h2'⟩ := h'
  have : n = n' := by
    apply Nat.eq_of_testBit_eq
    intro i
    by_cases q : i < 31
    · have k := (h2 i q).trans (h2' i q).symm
      cases a : n.testBit i <;> cases b : n'.testBit i
      · rfl
      · rw [a, b] at k; exact absurd (k.mpr rfl) (by decide)
      · rw [a, b] at k; exact absurd (k.mp rfl) (by decide)
      · rfl
    · have p : 2147483648 ≤ 2 ^ i := Nat.pow_le_pow_right (n := 2) (by omega) (show 31 ≤ i by omega)
      rw [Nat.testBit_lt_two_pow (by omega), Nat.testBit_lt_two_pow (by omega)]
  rw [e, e', this]
noncomputable def nS (S : Int → Prop) : Nat → Nat
  | 0 => 0
  | n + 1 => nS S n ||| (if dcl (S n) = true then 2 ^ n else 0)
theorem nS_lt (S : Int → Prop) : ∀ n, nS S n < 2 ^ n
  | 0 => by show 0 < 2 ^ 0; omega
  | n + 1 => by
    show nS S n ||| _ < 2 ^ (n + 1)
    have h := nS_lt S n
    have p : 2 ^ n < 2 ^ (n + 1) := Nat.pow_lt_pow_right (by omega) (by omega)
    refine Nat.or_lt_two_pow (by omega) ?_
    split <;> omega
theorem nS_bit (S : Int → Prop) : ∀ n t : Nat, (nS S n).testBit t = true ↔ (t < n ∧ S t)
  | 0, t => by show Nat.testBit 0 t = true ↔ _; simp
  | n + 1, t => by
    show (nS S n ||| _).testBit t = true ↔ _
    rw [Nat.testBit_or, Bool.or_eq_true, nS_bit S n t]
    by_cases q : S n
    · rw [dcl_t q, if_pos rfl, Nat.testBit_two_pow, decide_eq_true_eq]
      constructor
      · rintro (⟨h, k⟩ | h)
        · exact ⟨by omega, k⟩
        · exact ⟨by omega, by rw [← h]; exact q⟩
      · rintro ⟨h, k⟩
        by_cases e : t = n
        · exact Or.inr e.symm
        · exact Or.inl ⟨by omega, k⟩
    · rw [dcl_f q, if_neg (by decide)]
      constructor
      · rintro (⟨h, k⟩ | h)
        · exact ⟨by omega, k⟩
        · simp at h
      · rintro ⟨h, k⟩
        by_cases e : t = n
        · rw [e] at k; exact absurd k q
        · exact Or.inl ⟨by omega, k⟩
/-- the int of a set -/
noncomputable def iW (S : Int → Prop) : Int := (nS S 31 : Int)
theorem IW_iW (S : Int → Prop) : IW (iW S) S := ⟨nS S 31, rfl, nS_lt S 31, fun t ht => (nS_bit S 31 t).trans ⟨fun h => h.2, fun h => ⟨ht, h⟩⟩⟩
theorem iW_of {z : Int} {S : Int → Prop} (h : IW z S) : z = iW S := IW_eq h (IW_iW S)
theorem iW_congr {S S' : Int → Prop} (h : ∀ t : Nat, t < 31 → (S t ↔ S' t)) : iW S = iW S' := iW_of (IW_congr (IW_iW S) h)
/-- what the globals reach -/
def glR (P : Pg) (xs : List Int) (lim : Int) : Int → Prop := fun t => ∃ g, 0 ≤ g ∧ (g < 4 ∧ TC (im xs (Lf P xs lim)) g t)
def escS (P : Pg) (xs : List Int) (lim : Int) : Int → Prop := fun s => s < 8 ∧ ∃ t, (20 + 3 * s ≤ t ∧ t < 23 + 3 * s) ∧ glR P xs lim t
/-- when a fact may be asked for -/
def fAsk (P : Pg) (v w : Int) : Prop := (0 ≤ v ∧ v < 20) ∧ (0 ≤ w ∧ w < 20 + 3 * mny P 4 (-1))
/-- the number of rounds -/
def RDn (P : Pg) (ys : List Int) (lim : Int) (r : Int) : Prop := ∃ j : Nat, r = j ∧ ((∀ c u, Gr P ys lim (j + 1) c u → Gr P ys lim j c u) ∧ ∀ i, i < j → ∃ c u, Gr P ys lim (i + 1) c u ∧ ¬ Gr P ys lim i c u)
theorem RDn_uniq {P : Pg} {ys : List Int} {lim r r' : Int} (h : RDn P ys lim r) (h' : RDn P ys lim r') : r = r' := by
  obtain ⟨j, e, h1, h2⟩ := h
  obtain ⟨j', e', h1', h2'⟩ := h'
  rcases Nat.lt_trichotomy j j' with q | q | q
  · obtain ⟨c, u, k1, k2⟩ := h2' j q; exact absurd (h1 c u k1) k2
  · omega
  · obtain ⟨c, u, k1, k2⟩ := h2 j' q; exact absurd (h1' c u k1) k2
/-! the law's questions: calls and flow -/
def ECl (P : Pg) (f g : Int) : Prop := ∃ n, 0 ≤ n ∧ (n < tot P ∧ (own P n = f ∧ (kd P n = 6 ∧ nn P n = g)))
def EFn (P : Pg) (n a b : Int) : Prop := (kd P n = 1 ∧ (a = ww P n ∧ b = vv P n)) ∨ (kd P n = 6 ∧ ((a = ww P n ∧ b = 4 + 4 * nn P n) ∨ (a = 4 + 4 * nn P n + 1 ∧ b = vv P n)))
def EFl (P : Pg) (a b : Int) : Prop := ∃ n, 0 ≤ n ∧ (n < tot P ∧ EFn P n a b)
theorem EFn_rng {P : Pg} (hP : okP P) {n a b : Int} (n0 : 0 ≤ n) (n1 : n < tot P) (h : EFn P n a b) : (0 ≤ a ∧ a < 20) ∧ (0 ≤ b ∧ b < 20) := by
  obtain ⟨hv, hw, hn⟩ := (hP.2.1 n n0 n1).2.1
  rcases h with ⟨_, e1, e2⟩ | ⟨_, ⟨e1, e2⟩ | ⟨e1, e2⟩⟩ <;> omega
/-- what a function may modify -/
def modS (P : Pg) (xs : List Int) (lim f : Int) : Int → Prop := fun t => ∃ n, 0 ≤ n ∧ (n < tot P ∧ (kd P n = 3 ∧ ((own P n = f ∨ TC (ECl P) f (own P n)) ∧ im xs (Lf P xs lim) (vv P n) t)))
/-- who is on a cycle with v -/
def cyS (P : Pg) (v : Int) : Int → Prop := fun x => x = v ∨ (TC (EFl P) v x ∧ TC (EFl P) x v)
/-! numbers with a point: none that is no number -/
def okD (f : FP.Core.Fmt) : FP.Core.Datum → Prop
  | .nan => False
  | .inf _ => True
  | .fin _ c q => c < 2 ^ f.p ∧ q ≤ f.qmax
theorem ok_bound {f : FP.Core.Fmt} {s : Bool} {c : Nat} {q : Int} (hc : c < 2 ^ f.p) : okD f (FP.Core.bound f s c q) := by
  unfold FP.Core.bound
  split
  · exact ⟨hc, by assumption⟩
  · trivial
theorem ok_ratio {f : FP.Core.Fmt} (hp : f.tails < 2 ^ f.p) (hq : f.qmin ≤ f.qmax) {s : Bool} {n d : Nat} {e : Int} : okD f (FP.Core.roundRatio f s n d e) := by
  unfold FP.Core.roundRatio
  split
  · exact ⟨Nat.pow_pos (by omega), hq⟩
  · unfold FP.Core.roundAt FP.Core.settle
    split
    · exact ok_bound (by assumption)
    · exact ok_bound hp
theorem enc64 {d : FP.Core.Datum} (h : okD FP.Core.b64 d) : FP.Core.encode FP.Core.b64 d < 18446744073709551616 ∧ FP.Core.encode FP.Core.b64 d % 9223372036854775808 ≤ 9218868437227405312 := by
  have ht : FP.Core.b64.tails = 4503599627370496 := rfl
  have he : FP.Core.b64.exps = 2048 := rfl
  have h1 : FP.Core.b64.qmin = -1074 := by decide
  have h2 : FP.Core.b64.qmax = 971 := by decide
  have h3 : 2 ^ FP.Core.b64.p = 9007199254740992 := rfl
  cases d with
  | nan => exact h.elim
  | inf s =>
    unfold FP.Core.encode FP.Core.assemble
    rw [ht, he]
    cases s <;> decide
  | fin s c q =>
    have h : c < 2 ^ FP.Core.b64.p ∧ q ≤ FP.Core.b64.qmax := h
    rw [h3, h2] at h
    have ee : FP.Core.encode FP.Core.b64 (.fin s c q) = if c < 4503599627370496 then (s.toNat * 2048 + 0) * 4503599627370496 + c else (s.toNat * 2048 + ((q - -1074).toNat + 1)) * 4503599627370496 + (c - 4503599627370496) := rfl
    rw [ee]
    have hs : s.toNat = 0 ∨ s.toNat = 1 := by cases s <;> decide
    split <;> rcases hs with e | e <;> rw [e] <;> omega
/-! the law: measures, saving -/
def sm (g : Int → Int) : Nat → Int
  | 0 => 0
  | n + 1 => sm g n + g n
theorem sm_rng {g : Int → Int} {b : Int} (hg : ∀ v, 0 ≤ g v ∧ g v ≤ b) : ∀ n : Nat, 0 ≤ sm g n ∧ sm g n ≤ n * b
  | 0 => ⟨Int.le_refl 0, by show (0 : Int) ≤ 0 * b; omega⟩
  | n + 1 => by
    have h := sm_rng hg n
    have := hg n
    show 0 ≤ sm g n + g n ∧ sm g n + g n ≤ ((n + 1 : Nat) : Int) * b
    rw [show ((n + 1 : Nat) : Int) * b = n * b + b by rw [Int.natCast_add, Int.add_mul]; show _ + 1 * b = _; omega]
    omega
noncomputable def ptN (P : Pg) (xs : List Int) (lim : Int) (v : Int) : Int := pw (wS (im xs (Lf P xs lim) v))
noncomputable def unN (P : Pg) (v : Int) : Int := pw (wS (ugT P (mny P 4 (-1)) v))
theorem ptN_rng (P : Pg) (xs : List Int) (lim v : Int) : 0 ≤ ptN P xs lim v ∧ ptN P xs lim v ≤ 64 := pw_rng _
theorem unN_rng (P : Pg) (v : Int) : 0 ≤ unN P v ∧ unN P v ≤ 64 := pw_rng _
end
section
/-! own variables; codes of cells -/
def loc (f x : Int) : Prop := x < 4 ∨ (x - 4) / 4 = f
def okO (P : Pg) : Prop := ∀ n, 0 ≤ n → n < tot P → loc (own P n) (vv P n) ∧ loc (own P n) (ww P n)
theorem st_at {P : Pg} (hP : okP P) {n : Int} (n0 : 0 ≤ n) (n1 : n < tot P) : (0 ≤ kd P n ∧ kd P n ≤ 6) ∧ ((0 ≤ vv P n ∧ vv P n ≤ 19) ∧ ((0 ≤ ww P n ∧ ww P n ≤ 19) ∧ (0 ≤ nn P n ∧ nn P n ≤ 3))) := by
  obtain ⟨h1, h2, h3⟩ := hP.2.1 n n0 n1
  exact ⟨h1, h2⟩
theorem cx_fn {P : Pg} (hP : okP P) {xs : List Int} {lim : Int} (hX : isC P lim xs) {i : Int} (i0 : 0 ≤ i) (i1 : i < xs.length) : (0 ≤ la xs i ∧ la xs i < 9412) ∧ (0 ≤ la xs i / 2353 ∧ la xs i / 2353 ≤ 3) := by
  have := RS_rng hP ((hX.2 _).mp (la_mem i0 i1))
  omega
theorem cdf_clo {P : Pg} (hP : okP P) {xs : List Int} {lim : Int} (hX : isC P lim xs) {i n x : Int} (hi : itm P xs i n) (hl : loc (own P n) x) : cdf xs (clo x i) = x := by
  have hlen := isC_len hP hX
  obtain ⟨⟨i0, i1⟩, -, h3⟩ := hi
  unfold loc at hl
  unfold cdf clo
  by_cases q : x < 4
  · rw [if_pos q, if_neg (by omega), if_pos q]
  · rw [if_neg q, if_neg (by omega), if_neg (by omega)]
    have e1 : (4 + 4 * i + (x - 4) % 4 - 4) / 4 = i := by omega
    have e2 : (4 + 4 * i + (x - 4) % 4 - 4) % 4 = (x - 4) % 4 := by omega
    rw [e1, e2, ← h3]
    omega
/-- a local cell's code, whatever the variable -/
theorem cdf_loc {P : Pg} (hP : okP P) {xs : List Int} {lim : Int} (hX : isC P lim xs) {i k : Int} (i0 : 0 ≤ i) (i1 : i < xs.length) (k0 : 0 ≤ k) (k1 : k < 4) : cdf xs (4 + 4 * i + k) = 4 + 4 * (la xs i / 2353) + k := by
  have hlen := isC_len hP hX
  unfold cdf
  rw [if_neg (by omega), if_neg (by omega)]
  rw [show (4 + 4 * i + k - 4) / 4 = i by omega, show (4 + 4 * i + k - 4) % 4 = k by omega]
theorem cdf_glo {xs : List Int} {c : Int} (h : c < 4) : cdf xs c = c := by
  unfold cdf; rw [if_neg (by omega), if_pos h]
theorem cdf_fld {xs : List Int} {c : Int} (h : 128 ≤ c) : cdf xs c = c - 108 := by
  unfold cdf; rw [if_pos h]; omega
theorem cdf_var {P : Pg} (hP : okP P) {xs : List Int} {lim : Int} (hX : isC P lim xs) {c : Int} (hc : vld xs c) (h : c < 128) : 0 ≤ cdf xs c ∧ cdf xs c < 20 := by
  obtain ⟨h0, h1 | ⟨h1, h2⟩ | h1⟩ := hc
  · rw [cdf_glo h1]; omega
  · have := cx_fn hP hX (i := (c - 4) / 4) (by omega) (by omega)
    rw [show c = 4 + 4 * ((c - 4) / 4) + (c - 4) % 4 by omega, cdf_loc hP hX (by omega) (by omega) (by omega) (by omega)]
    omega
  · omega
theorem cdf_20 {P : Pg} (hP : okP P) {xs : List Int} {lim : Int} (hX : isC P lim xs) {c : Int} (hc : vld xs c) : 20 ≤ cdf xs c ↔ 128 ≤ c := by
  by_cases h : 128 ≤ c
  · rw [cdf_fld h]; omega
  · have := cdf_var hP hX hc (by omega); omega
theorem cdf_44 {P : Pg} (hP : okP P) {xs : List Int} {lim : Int} (hX : isC P lim xs) {c : Int} (hc : vld xs c) : 0 ≤ cdf xs c ∧ cdf xs c < 44 := cdf_rng (xok_of hP hX) hc
theorem ext_rng {P : Pg} (hP : okP P) {xs : List Int} {lim : Int} (hX : isC P lim xs) {i n : Int} (hi : itm P xs i n) : 0 ≤ ext lim (la xs i % 2353) n ∧ ext lim (la xs i % 2353) n < 2353 := by
  have h4 := tot_rng hP.1
  obtain ⟨n0, n1⟩ := hi.2.1
  unfold ext
  split
  · omega
  · split
    · omega
    · have h5 := lst_call hP (RS_VE hP ((hX.2 _).mp (la_mem hi.1.1 hi.1.2))) (by omega)
      have := h5.1
      have := h5.2.1
      omega
/-- the context 0 -/
theorem cx_0 {P : Pg} {xs : List Int} {lim : Int} (hX : isC P lim xs) : (0 ≤ cbl xs 0 ∧ cbl xs 0 < xs.length) ∧ la xs (cbl xs 0) = 0 := la_cbl hX.1 ((hX.2 0).mpr (RS_0 P lim))
/-! the unification tells no less -/
def tb (t : Int) : Tm := if t < 20 then (t, 0) else (20 + (t - 20) / 3, 0)
theorem tb_lt {t : Int} (h : t < 20) : tb t = (t, 0) := if_pos h
theorem tb_fld {s : Int} (h : 0 ≤ s) : tb (20 + 3 * s) = (20 + s, 0) := by
  unfold tb; rw [if_neg (by omega), show 20 + (20 + 3 * s - 20) / 3 = 20 + s by omega]
theorem tU_tb (t : Int) : tU (tb t) = ((tb t).1, 1) := by
  unfold tb tU; split <;> rfl
theorem ug_EQ {P : Pg} {n : Int} (n0 : 0 ≤ n) (n1 : n < tot P) {s t : Tm} (h : EQ P n s t) : ugE P s t := cg_eq ⟨n, n0, n1, h⟩
def UL (P : Pg) (xs : List Int) (c u : Int) : Prop := (vld xs c ∧ vld xs u) ∧ ugE P (tU (tb (cdf xs c))) (tb (cdf xs u))
theorem UL_DD {P : Pg} (hP : okP P) (hO : okO P) {xs : List Int} {lim : Int} (hX : isC P lim xs) {i n c u : Int} (hi : itm P xs i n) (h : DD P xs lim (UL P xs) i n c u) : UL P xs c u := by
  refine ⟨DD_ok hP hX (A := UL P xs) (fun c u g => g.1) hi h, ?_⟩
  obtain ⟨n0, n1⟩ := hi.2.1
  obtain ⟨hv, hw⟩ := hO n n0 n1
  obtain ⟨-, rv, rw', rn⟩ := st_at hP n0 n1
  have ev := cdf_clo hP hX hi hv
  have ew := cdf_clo hP hX hi hw
  have tv : tb (vv P n) = (vv P n, 0) := tb_lt (by omega)
  have tw : tb (ww P n) = (ww P n, 0) := tb_lt (by omega)
  rcases h with ⟨g0, g1, g2⟩ | ⟨g0, g1, g2⟩ | ⟨g0, g1, x, g2, g3⟩ | ⟨g0, g1, g2⟩ | ⟨g0, g1, g2⟩ | ⟨g0, g1, ⟨g2, g3⟩ | ⟨g2, x, g3, g4, g5, g6⟩⟩ | ⟨g0, ⟨g1, g2⟩ | ⟨g1, g2⟩⟩
  · rw [g1, g2, ev, ew, tv, tw]
    exact ug_EQ n0 n1 (Or.inl ⟨g0, rfl, rfl⟩)
  · rw [g1, ev, tv]
    have k := g2.2
    rw [ew, tw] at k
    exact cg_trans (ug_EQ n0 n1 (Or.inr (Or.inr (Or.inr (Or.inr (Or.inr ⟨Or.inl g0, rfl, rfl⟩)))))) k
  · rw [g1, ev, tv]
    have k := g2.2
    rw [ew, tw] at k
    exact cg_trans (ug_EQ n0 n1 (Or.inr (Or.inl ⟨g0, rfl, rfl⟩))) (cg_trans (cg_U k) g3.2)
  · have k1 := g1.2
    have k2 := g2.2
    rw [ev, tv] at k1
    rw [ew, tw] at k2
    refine cg_trans (cg_U (cg_symm k1)) (cg_trans (ug_EQ n0 n1 (Or.inr (Or.inr (Or.inl ⟨g0, rfl, rfl⟩)))) k2)
  · rw [g1, ev, tv, g2]
    have s0 := (sn_rng (P := P) n0).1
    rw [cdf_fld (by omega), show 128 + 3 * sn P n - 108 = 20 + 3 * sn P n by omega, tb_fld s0]
    exact ug_EQ n0 n1 (Or.inr (Or.inr (Or.inr (Or.inl ⟨g0, rfl, rfl⟩))))
  · rw [g1, ev, tv]
    have k := g3.2
    rw [ew, tw] at k
    exact cg_trans (ug_EQ n0 n1 (Or.inr (Or.inr (Or.inr (Or.inr (Or.inr ⟨Or.inr g0, rfl, rfl⟩)))))) k
  · rw [g1, ev, tv]
    have k := g3.2
    rw [ew, tw] at k
    have e : tb (cdf xs u) = tb (cdf xs x) := by
      rw [g6, cdf_fld g4, cdf_fld (by omega)]
      unfold tb
      rw [if_neg (by omega), if_neg (by omega), show (x + nn P n - 108 - 20) / 3 = (x - 108 - 20) / 3 by omega]
    rw [e]
    exact cg_trans (ug_EQ n0 n1 (Or.inr (Or.inr (Or.inr (Or.inr (Or.inr ⟨Or.inr g0, rfl, rfl⟩)))))) k
  · obtain ⟨p0, p1⟩ := plf_ok hX hi g0
    have ec : cdf xs (4 + 4 * plf P xs lim i n) = 4 + 4 * nn P n := by
      have := cdf_loc hP hX p0.1 p0.2 (k := 0) (by omega) (by omega)
      rw [Int.add_zero, Int.add_zero, p1] at this
      rw [this]
      have hk := ext_rng hP hX hi
      omega
    rw [g1, ec, tb_lt (by omega)]
    have k := g2.2
    rw [ew, tw] at k
    exact cg_trans (ug_EQ n0 n1 (Or.inr (Or.inr (Or.inr (Or.inr (Or.inl ⟨g0, Or.inl ⟨rfl, rfl⟩⟩)))))) k
  · obtain ⟨p0, p1⟩ := plf_ok hX hi g0
    have ec : cdf xs (4 + 4 * plf P xs lim i n + 1) = 4 + 4 * nn P n + 1 := by
      rw [cdf_loc hP hX p0.1 p0.2 (k := 1) (by omega) (by omega), p1]
      have hk := ext_rng hP hX hi
      omega
    have k := g2.2
    rw [ec, tb_lt (by omega)] at k
    rw [g1, ev, tv]
    exact cg_trans (ug_EQ n0 n1 (Or.inr (Or.inr (Or.inr (Or.inr (Or.inl ⟨g0, Or.inr ⟨rfl, rfl⟩⟩)))))) k
theorem Lf_UL {P : Pg} (hP : okP P) (hO : okO P) {xs : List Int} {lim : Int} (hX : isC P lim xs) {c u : Int} (h : Lf P xs lim c u) : UL P xs c u := LF_least (fun _ _ _ _ hi g => UL_DD hP hO hX hi g) h
/-- how many sites -/
theorem sn_st {P : Pg} (hP : okP P) {n : Int} (n0 : 0 ≤ n) (n1 : n < tot P) (hk : kd P n = 4) : 0 ≤ sn P n ∧ sn P n < mny P 4 (-1) := by
  have h1 := sn_succ (P := P) n0
  rw [if_pos hk] at h1
  have h2 := sn_mono (P := P) (show n + 1 ≤ tot P by omega)
  have h3 := mny_all hP.1
  have h5 := (sn_rng (P := P) n0).1
  omega
theorem mny_nn {P : Pg} (hP : okP P) : 0 ≤ mny P 4 (-1) ∧ mny P 4 (-1) ≤ 8 := by
  have h := hP.2.2.1
  have h3 := mny_all hP.1
  have h4 := (sn_rng (P := P) (tot_rng hP.1).1).1
  omega
theorem clo_128 {P : Pg} (hP : okP P) {xs : List Int} {lim : Int} (hX : isC P lim xs) {i x : Int} (i1 : i < xs.length) : clo x i < 128 := by
  have hlen := isC_len hP hX
  unfold clo; split <;> omega
def VS (P : Pg) (xs : List Int) (c u : Int) : Prop := (vld xs c ∧ vld xs u) ∧ (c < 128 + 3 * mny P 4 (-1) ∧ u < 128 + 3 * mny P 4 (-1))
theorem VS_DD {P : Pg} (hP : okP P) {xs : List Int} {lim : Int} (hX : isC P lim xs) {i n c u : Int} (hi : itm P xs i n) (h : DD P xs lim (VS P xs) i n c u) : VS P xs c u := by
  refine ⟨DD_ok hP hX (A := VS P xs) (fun c u g => g.1) hi h, ?_⟩
  have hm := mny_nn hP
  have hlen := isC_len hP hX
  obtain ⟨n0, n1⟩ := hi.2.1
  have cv := clo_128 hP hX (x := vv P n) hi.1.2
  have cw := clo_128 hP hX (x := ww P n) hi.1.2
  rcases h with ⟨g0, g1, g2⟩ | ⟨g0, g1, g2⟩ | ⟨g0, g1, x, g2, g3⟩ | ⟨g0, g1, g2⟩ | ⟨g0, g1, g2⟩ | ⟨g0, g1, ⟨g2, g3⟩ | ⟨g2, x, g3, g4, g5, g6⟩⟩ | ⟨g0, ⟨g1, g2⟩ | ⟨g1, g2⟩⟩
  · omega
  · have := g2.2.2; omega
  · have := g3.2.2; omega
  · have := g1.2.2; have := g2.2.2; omega
  · have := sn_st hP n0 n1 g0; omega
  · have := g3.2.2; omega
  · have h1 := g3.2.2
    have h2 := g3.1.2
    have h3 := h2.1
    have h4 := st_at hP n0 n1
    omega
  · have := (plf_ok hX hi g0).1
    have := g2.2.2; omega
  · have := g2.2.2; omega
theorem Lf_VS {P : Pg} (hP : okP P) {xs : List Int} {lim : Int} (hX : isC P lim xs) {c u : Int} (h : Lf P xs lim c u) : VS P xs c u := LF_least (fun _ _ _ _ hi g => VS_DD hP hX hi g) h
/-- what is pointed to by the inclusion is so by the unification -/
theorem im_ugT {P : Pg} (hP : okP P) (hO : okO P) {xs : List Int} {lim : Int} (hX : isC P lim xs) {v t : Int} (v1 : v < 20) (h : im xs (Lf P xs lim) v t) : ugT P (mny P 4 (-1)) v t := by
  obtain ⟨c, u, h1, rfl, rfl⟩ := h
  obtain ⟨⟨h2, h3⟩, h4⟩ := Lf_UL hP hO hX h1
  have h5 := (Lf_VS hP hX h1).2.2
  rw [tb_lt v1] at h4
  by_cases q : 128 ≤ u
  · refine Or.inr ⟨(u - 128) / 3, by omega, by omega, ?_, ?_⟩
    · rw [cdf_fld q]; omega
    · rw [cdf_fld q] at h4
      unfold tb at h4
      rw [if_neg (by omega), show 20 + (u - 108 - 20) / 3 = 20 + (u - 128) / 3 by omega] at h4
      exact h4
  · have hu := cdf_var hP hX h3 (by omega)
    rw [tb_lt hu.2] at h4
    exact Or.inl ⟨hu.2, h4⟩
theorem im_rng {P : Pg} (hP : okP P) {xs : List Int} {lim : Int} (hX : isC P lim xs) {v t : Int} (h : im xs (Lf P xs lim) v t) : (0 ≤ v ∧ v < 20 + 3 * mny P 4 (-1)) ∧ (0 ≤ t ∧ t < 20 + 3 * mny P 4 (-1)) := by
  obtain ⟨c, u, h1, rfl, rfl⟩ := h
  have hm := mny_nn hP
  obtain ⟨⟨h2, h3⟩, h4, h5⟩ := Lf_VS hP hX h1
  have k1 := cdf_44 hP hX h2
  have k2 := cdf_44 hP hX h3
  refine ⟨⟨k1.1, ?_⟩, ⟨k2.1, ?_⟩⟩
  · by_cases q : 128 ≤ c
    · rw [cdf_fld q]; omega
    · have := cdf_var hP hX h2 (by omega); omega
  · by_cases q : 128 ≤ u
    · rw [cdf_fld q]; omega
    · have := cdf_var hP hX h3 (by omega); omega
/-- equivalent variables have the same targets -/
theorem ugT_congr {P : Pg} {st v w t : Int} (h : ugE P (v, 0) (w, 0)) : ugT P st v t ↔ ugT P st w t := by
  have k : ugE P (v, 1) (w, 1) := cg_U h
  have k' : ugE P (w, 1) (v, 1) := cg_U (cg_symm h)
  constructor
  · rintro (⟨a, b⟩ | ⟨s, a, b, c, d⟩)
    · exact Or.inl ⟨a, cg_trans k' b⟩
    · exact Or.inr ⟨s, a, b, c, cg_trans k' d⟩
  · rintro (⟨a, b⟩ | ⟨s, a, b, c, d⟩)
    · exact Or.inl ⟨a, cg_trans k b⟩
    · exact Or.inr ⟨s, a, b, c, cg_trans k d⟩
end
section
/-! a greater limit tells no more -/
def prk (l k : Int) : Int := if l = 0 then 0 else if k = 0 then 0 else 1 + lst k
def pre (l e : Int) : Int := e / 2353 * 2353 + prk l (e % 2353)
theorem prk_ext {l lim k n : Int} (hl : (l = 0 ∧ lim = 1) ∨ ((l = 0 ∧ lim = 2) ∨ (l = 1 ∧ lim = 2))) (hk : k ≠ 0 → 0 ≤ lst k) (n0 : 0 ≤ n) (n1 : n < 48) : prk l (ext lim k n) = ext l (prk l k) n := by
  by_cases h0 : l = 0
  · unfold prk; rw [if_pos h0, if_pos h0]
    unfold ext; rw [if_pos h0]
  · have e1 : l = 1 := by omega
    have e2 : lim = 2 := by omega
    subst e1; subst e2
    unfold prk
    rw [if_neg h0, if_neg h0]
    have e3 : ∀ x, ext 1 x n = 1 + n := fun x => by unfold ext; rw [if_neg (by omega), if_pos (Or.inl rfl)]
    rw [e3]
    unfold ext
    rw [if_neg (by omega)]
    by_cases q : k = 0
    · rw [if_pos (Or.inr q), if_neg (by omega)]
      unfold lst; rw [if_neg (by omega)]; omega
    · have := hk q
      rw [if_neg (by omega), if_neg (by omega)]
      generalize lst k = m at this ⊢
      unfold lst; rw [if_pos (by omega)]; omega
section LIM
variable {P : Pg} {l lim : Int} {xs ys : List Int}
theorem lst_rng (hP : okP P) {e : Int} (h : RS P lim e) (hk : e % 2353 ≠ 0) : 0 ≤ lst (e % 2353) ∧ lst (e % 2353) < 48 := by
  have h1 := lst_call hP (RS_VE hP h) hk
  have h2 := tot_rng hP.1
  have := h1.1
  have := h1.2.1
  omega
theorem prk_rng (hP : okP P) {e : Int} (h : RS P lim e) : 0 ≤ prk l (e % 2353) ∧ prk l (e % 2353) < 2353 := by
  unfold prk
  split
  · omega
  · split
    · omega
    · rename_i q
      have := lst_rng hP h q
      omega
theorem pre_dm (hP : okP P) {e : Int} (h : RS P lim e) : pre l e / 2353 = e / 2353 ∧ pre l e % 2353 = prk l (e % 2353) := by
  have := prk_rng (l := l) hP h
  unfold pre; omega
theorem ext_rng' (hP : okP P) {e n : Int} (h : RS P lim e) (n0 : 0 ≤ n) (n1 : n < 48) : 0 ≤ ext lim (e % 2353) n ∧ ext lim (e % 2353) n < 2353 := by
  unfold ext
  split
  · omega
  · split
    · omega
    · have := lst_rng hP h (by omega)
      omega
theorem RS_pre (hP : okP P) (hl : (l = 0 ∧ lim = 1) ∨ ((l = 0 ∧ lim = 2) ∨ (l = 1 ∧ lim = 2))) {e : Int} (h : RS P lim e) : RS P l (pre l e) := by
  refine (h (fun a => RS P lim a ∧ RS P l (pre l a)) ⟨RS_0 P lim, ?_⟩ (fun a b ha hs => ⟨RS_step ha.1 hs, ?_⟩)).2
  · have e0 : pre l 0 = 0 := by
      unfold pre prk; simp
    rw [e0]; exact RS_0 P l
  · obtain ⟨c, hc, ho, rfl⟩ := hs
    have hr := call_rng hP hc
    have h1 := pre_dm (l := l) hP ha.1
    have h2 := ext_rng' hP ha.1 hr.1.1 hr.1.2
    refine RS_step ha.2 ⟨c, hc, by rw [h1.1]; exact ho, ?_⟩
    rw [h1.2, ← prk_ext hl (fun q => (lst_rng hP ha.1 q).1) hr.1.1 hr.1.2]
    unfold pre
    rw [show (nn P c * 2353 + ext lim (a % 2353) c) / 2353 = nn P c by omega, show (nn P c * 2353 + ext lim (a % 2353) c) % 2353 = ext lim (a % 2353) c by omega]
def pj (xs ys : List Int) (l i : Int) : Int := cbl ys (pre l (la xs i))
def pc (xs ys : List Int) (l c : Int) : Int := if c < 4 ∨ 128 ≤ c then c else 4 + 4 * pj xs ys l ((c - 4) / 4) + (c - 4) % 4
theorem pj_ok (hP : okP P) (hl : (l = 0 ∧ lim = 1) ∨ ((l = 0 ∧ lim = 2) ∨ (l = 1 ∧ lim = 2))) (hX : isC P lim xs) (hY : isC P l ys) {i : Int} (i0 : 0 ≤ i) (i1 : i < xs.length) : (0 ≤ pj xs ys l i ∧ pj xs ys l i < ys.length) ∧ la ys (pj xs ys l i) = pre l (la xs i) :=
  la_cbl hY.1 ((hY.2 _).mpr (RS_pre hP hl ((hX.2 _).mp (la_mem i0 i1))))
theorem pc_loc (hP : okP P) (hX : isC P lim xs) {i k : Int} (i0 : 0 ≤ i) (i1 : i < xs.length) (k0 : 0 ≤ k) (k1 : k < 4) : pc xs ys l (4 + 4 * i + k) = 4 + 4 * pj xs ys l i + k := by
  have hlen := isC_len hP hX
  unfold pc
  rw [if_neg (by omega), show (4 + 4 * i + k - 4) / 4 = i by omega, show (4 + 4 * i + k - 4) % 4 = k by omega]
theorem pc_clo (hP : okP P) (hX : isC P lim xs) {i x : Int} (i0 : 0 ≤ i) (i1 : i < xs.length) : pc xs ys l (clo x i) = clo x (pj xs ys l i) := by
  unfold clo
  by_cases q : x < 4
  · rw [if_pos q, if_pos q]; unfold pc; rw [if_pos (Or.inl q)]
  · rw [if_neg q, if_neg q]; exact pc_loc hP hX i0 i1 (by omega) (by omega)
theorem pc_fld {c : Int} (h : 128 ≤ c) : pc xs ys l c = c := by unfold pc; rw [if_pos (Or.inr h)]
theorem pj_itm (hP : okP P) (hl : (l = 0 ∧ lim = 1) ∨ ((l = 0 ∧ lim = 2) ∨ (l = 1 ∧ lim = 2))) (hX : isC P lim xs) (hY : isC P l ys) {i n : Int} (hi : itm P xs i n) : itm P ys (pj xs ys l i) n := by
  obtain ⟨h1, h2⟩ := pj_ok hP hl hX hY hi.1.1 hi.1.2
  refine ⟨h1, hi.2.1, ?_⟩
  rw [h2, (pre_dm hP ((hX.2 _).mp (la_mem hi.1.1 hi.1.2))).1]; exact hi.2.2
theorem pj_plf (hP : okP P) (hl : (l = 0 ∧ lim = 1) ∨ ((l = 0 ∧ lim = 2) ∨ (l = 1 ∧ lim = 2))) (hX : isC P lim xs) (hY : isC P l ys) {i n : Int} (hi : itm P xs i n) (hk : kd P n = 6) : pj xs ys l (plf P xs lim i n) = plf P ys l (pj xs ys l i) n := by
  obtain ⟨h1, h2⟩ := pj_ok hP hl hX hY hi.1.1 hi.1.2
  obtain ⟨h3, h4⟩ := plf_ok hX hi hk
  have hr := (hX.2 _).mp (la_mem hi.1.1 hi.1.2)
  have h5 := pre_dm (l := l) hP hr
  have hc := call_rng hP ⟨hi.2.1.1, hi.2.1.2, hk⟩
  have h6 := ext_rng' hP hr hc.1.1 hc.1.2
  unfold pj
  unfold pj at h2
  rw [h4]
  unfold plf
  rw [h2, h5.2, ← prk_ext hl (fun q => (lst_rng hP hr q).1) hc.1.1 hc.1.2]
  congr 1
  unfold pre
  rw [show (nn P n * 2353 + ext lim (la xs i % 2353) n) / 2353 = nn P n by omega, show (nn P n * 2353 + ext lim (la xs i % 2353) n) % 2353 = ext lim (la xs i % 2353) n by omega]
theorem cdf_pc (hP : okP P) (hl : (l = 0 ∧ lim = 1) ∨ ((l = 0 ∧ lim = 2) ∨ (l = 1 ∧ lim = 2))) (hX : isC P lim xs) (hY : isC P l ys) {c : Int} (hc : vld xs c) : cdf ys (pc xs ys l c) = cdf xs c := by
  obtain ⟨h0, h1 | ⟨h1, h2⟩ | h1⟩ := hc
  · unfold pc; rw [if_pos (Or.inl h1), cdf_glo h1, cdf_glo h1]
  · have e : c = 4 + 4 * ((c - 4) / 4) + (c - 4) % 4 := by omega
    have i0 : 0 ≤ (c - 4) / 4 := by omega
    have i1 : (c - 4) / 4 < xs.length := by omega
    obtain ⟨h3, h4⟩ := pj_ok hP hl hX hY i0 i1
    have h5 := pre_dm (l := l) hP ((hX.2 _).mp (la_mem i0 i1))
    rw [e, pc_loc hP hX i0 i1 (by omega) (by omega), cdf_loc hP hY h3.1 h3.2 (by omega) (by omega), cdf_loc hP hX i0 i1 (by omega) (by omega), h4, h5.1]
  · rw [pc_fld h1.1, cdf_fld h1.1, cdf_fld h1.1]
theorem Lf_pc (hP : okP P) (hl : (l = 0 ∧ lim = 1) ∨ ((l = 0 ∧ lim = 2) ∨ (l = 1 ∧ lim = 2))) (hX : isC P lim xs) (hY : isC P l ys) {c u : Int} (h : Lf P xs lim c u) : Lf P ys l (pc xs ys l c) (pc xs ys l u) := by
  refine LF_least (X := fun c u => Lf P ys l (pc xs ys l c) (pc xs ys l u)) (fun i n c u hi g => ?_) h
  have hj := pj_itm hP hl hX hY hi
  have ec : ∀ x, pc xs ys l (clo x i) = clo x (pj xs ys l i) := fun x => pc_clo hP hX hi.1.1 hi.1.2
  refine LF_closed hj ?_
  rcases g with ⟨g0, g1, g2⟩ | ⟨g0, g1, g2⟩ | ⟨g0, g1, x, g2, g3⟩ | ⟨g0, g1, g2⟩ | ⟨g0, g1, g2⟩ | ⟨g0, g1, ⟨g2, g3⟩ | ⟨g2, x, g3, g4, g5, g6⟩⟩ | ⟨g0, ⟨g1, g2⟩ | ⟨g1, g2⟩⟩
  · rw [g1, g2, ec, ec]; exact Or.inl ⟨g0, rfl, rfl⟩
  · rw [g1, ec]; rw [ec] at g2; exact Or.inr (Or.inl ⟨g0, rfl, g2⟩)
  · rw [g1, ec]; rw [ec] at g2; exact Or.inr (Or.inr (Or.inl ⟨g0, rfl, _, g2, g3⟩))
  · rw [ec] at g1 g2; exact Or.inr (Or.inr (Or.inr (Or.inl ⟨g0, g1, g2⟩)))
  · have := (sn_rng (P := P) hi.2.1.1).1
    rw [g1, ec, g2, pc_fld (by omega)]
    exact Or.inr (Or.inr (Or.inr (Or.inr (Or.inl ⟨g0, rfl, rfl⟩))))
  · rw [g1, ec]; rw [ec] at g3; exact Or.inr (Or.inr (Or.inr (Or.inr (Or.inr (Or.inl ⟨g0, rfl, Or.inl ⟨g2, g3⟩⟩)))))
  · have hn := st_at hP hi.2.1.1 hi.2.1.2
    rw [ec, pc_fld g4] at g3
    rw [g1, ec, pc_fld (c := u) (by omega)]
    exact Or.inr (Or.inr (Or.inr (Or.inr (Or.inr (Or.inl ⟨g0, rfl, Or.inr ⟨g2, x, g3, g4, g5, g6⟩⟩)))))
  · have hp := (plf_ok hX hi g0).1
    have e := pc_loc (ys := ys) (l := l) hP hX hp.1 hp.2 (k := 0) (by omega) (by omega)
    rw [Int.add_zero, Int.add_zero] at e
    rw [g1, e, pj_plf hP hl hX hY hi g0]; rw [ec] at g2
    exact Or.inr (Or.inr (Or.inr (Or.inr (Or.inr (Or.inr ⟨g0, Or.inl ⟨rfl, g2⟩⟩)))))
  · have hp := (plf_ok hX hi g0).1
    have e := pc_loc (ys := ys) (l := l) hP hX hp.1 hp.2 (k := 1) (by omega) (by omega)
    rw [g1, ec]; rw [e, pj_plf hP hl hX hY hi g0] at g2
    exact Or.inr (Or.inr (Or.inr (Or.inr (Or.inr (Or.inr ⟨g0, Or.inr ⟨rfl, g2⟩⟩)))))
theorem im_lim (hP : okP P) (hl : (l = 0 ∧ lim = 1) ∨ ((l = 0 ∧ lim = 2) ∨ (l = 1 ∧ lim = 2))) (hX : isC P lim xs) (hY : isC P l ys) {v t : Int} (h : im xs (Lf P xs lim) v t) : im ys (Lf P ys l) v t := by
  obtain ⟨c, u, h1, rfl, rfl⟩ := h
  have h2 := Lf_okF hP hX c u h1
  exact ⟨_, _, Lf_pc hP hl hX hY h1, cdf_pc hP hl hX hY h2.1, cdf_pc hP hl hX hY h2.2⟩
end LIM
end
section
/-! what a run observes is told by the inclusion analysis -/
def MI (P : Pg) (xs : List Int) (lim : Int) (s : St) (γ κ : Int → Int) : Prop :=
  (∀ a, 1 ≤ a → a < gI s 46 7 → vld xs (γ a) ∧ cdf xs (γ a) = gI s 48 a) ∧
  ((∀ a, 1 ≤ a → a < gI s 46 7 → gI s 47 a ≠ 0 → Lf P xs lim (γ a) (γ (gI s 47 a))) ∧
  ((∀ i, 0 ≤ i → i < gI s 46 6 → ((0 ≤ κ i ∧ κ i < xs.length) ∧ la xs (κ i) / 2353 = gI s 50 i) ∧ ∀ k, 0 ≤ k → k < 4 → γ (gI s 52 i + k) = 4 + 4 * κ i + k) ∧
  ((∀ a, 1 ≤ a → a ≤ 4 → γ a = a - 1) ∧
  ((∀ i, 0 ≤ i → i + 1 < gI s 46 6 → kd P (gI s 51 i - 1) = 6 ∧ κ (i + 1) = plf P xs lim (κ i) (gI s 51 i - 1)) ∧
  (∀ j, 0 ≤ j → j < 44 → ∀ t : Nat, t < 64 → (gL s 49 j).getLsbD t = true → im xs (Lf P xs lim) j t)))))
section RUN
variable {P : Pg} {lim : Int} {xs : List Int} {s : St} {γ κ : Int → Int}
theorem mwr_L {a p j : Int} : gL (mwr a p s) 49 j = if p ≠ 0 ∧ j = gI s 48 a then gL s 49 j ||| (BitVec.ofNat 64 1 <<< sh6 (gI s 48 p)) else gL s 49 j := by
  unfold mwr
  by_cases h : p = 0
  · rw [if_pos h, if_neg (fun k => k.1 h)]; rfl
  · rw [if_neg h]
    by_cases q : j = gI s 48 a
    · rw [if_pos ⟨h, q⟩, gL_sL, if_pos ⟨rfl, q⟩, q]
    · rw [if_neg (fun k => q k.2), gL_sL, if_neg (fun k => q k.2)]; rfl
theorem MI_wr (hP : okP P) (hX : isC P lim xs) (h : MI P xs lim s γ κ) {a p : Int} (ha : 1 ≤ a ∧ a < gI s 46 7) (hp : 0 ≤ p ∧ p < gI s 46 7) (hl : p ≠ 0 → Lf P xs lim (γ a) (γ p)) : MI P xs lim (mwr a p s) γ κ := by
  obtain ⟨h1, h2, h3, h4, h5, h6⟩ := h
  unfold MI
  rw [mwr_ne (c := 46) (by decide), mwr_ne (c := 48) (by decide), mwr_ne (c := 50) (by decide), mwr_ne (c := 51) (by decide), mwr_ne (c := 52) (by decide), mwr_47]
  refine ⟨h1, fun b b0 b1 => ?_, h3, h4, h5, fun j j0 j1 t t1 hb => ?_⟩
  · show (if b = a then p else gI s 47 b) ≠ 0 → Lf P xs lim (γ b) (γ (if b = a then p else gI s 47 b))
    by_cases q : b = a
    · rw [if_pos q, q]; exact hl
    · rw [if_neg q]; exact h2 b b0 b1
  · rw [mwr_L] at hb
    by_cases q : p ≠ 0 ∧ j = gI s 48 a
    · rw [if_pos q, BitVec.getLsbD_or, Bool.or_eq_true] at hb
      rcases hb with hb | hb
      · exact h6 j j0 j1 t t1 hb
      · have ca := h1 a ha.1 ha.2
        have cp := h1 p (by omega) hp.2
        have rp := cdf_44 hP hX cp.1
        rw [sh6_id (by omega) (by omega), bb_one (by omega), decide_eq_true_eq] at hb
        refine ⟨γ a, γ p, hl q.1, by rw [q.2]; exact ca.2, ?_⟩
        rw [cp.2]; omega
    · rw [if_neg q] at hb; exact h6 j j0 j1 t t1 hb
theorem MI_46 (h : MI P xs lim s γ κ) {j v : Int} (j6 : j ≠ 6) (j7 : j ≠ 7) : MI P xs lim (sI s 46 j v) γ κ := by
  unfold MI
  have e : ∀ i, i ≠ j → gI (sI s 46 j v) 46 i = gI s 46 i := fun i k => by rw [gI_sI, if_neg (fun g => k g.2)]
  rw [e 6 (Ne.symm j6), e 7 (Ne.symm j7), gI_rne (by decide), gI_rne (by decide), gI_rne (by decide), gI_rne (by decide), gI_rne (by decide)]
  exact h
theorem MI_nx (h : MI P xs lim s γ κ) {v : Int} : MI P xs lim (sI s 51 (gI s 46 6 - 1) v) γ κ := by
  obtain ⟨h1, h2, h3, h4, h5, h6⟩ := h
  unfold MI
  rw [gI_rne (c := 51) (d := 46) (by decide), gI_rne (c := 51) (d := 47) (by decide), gI_rne (c := 51) (d := 48) (by decide), gI_rne (c := 51) (d := 50) (by decide), gI_rne (c := 51) (d := 52) (by decide), gI_row]
  refine ⟨h1, h2, h3, h4, fun i i0 i1 => ?_, h6⟩
  show kd P ((if i = gI s 46 6 - 1 then v else gI s 51 i) - 1) = 6 ∧ κ (i + 1) = plf P xs lim (κ i) ((if i = gI s 46 6 - 1 then v else gI s 51 i) - 1)
  rw [if_neg (by omega)]
  exact h5 i i0 i1
theorem MI_pop (h : MI P xs lim s γ κ) : MI P xs lim (sI s 46 6 (gI s 46 6 - 1)) γ κ := by
  obtain ⟨h1, h2, h3, h4, h5, h6⟩ := h
  unfold MI
  have e6 : gI (sI s 46 6 (gI s 46 6 - 1)) 46 6 = gI s 46 6 - 1 := by rw [gI_sI, if_pos ⟨rfl, rfl⟩]
  have e7 : gI (sI s 46 6 (gI s 46 6 - 1)) 46 7 = gI s 46 7 := by rw [gI_sI, if_neg (by omega)]
  rw [e6, e7, gI_rne (by decide), gI_rne (by decide), gI_rne (by decide), gI_rne (by decide), gI_rne (by decide)]
  exact ⟨h1, h2, fun i i0 i1 => h3 i i0 (by omega), h4, fun i i0 i1 => h5 i i0 (by omega), h6⟩
/-- new cells -/
theorem MI_tk (h : MI P xs lim s γ κ) {c0 n g0 : Int} (hU : 5 ≤ gI s 46 7) (hn : 0 ≤ n) (hr : ∀ i, 0 ≤ i → i < gI s 46 6 → 1 ≤ gI s 52 i ∧ gI s 52 i + 3 < gI s 46 7) (hm : ∀ a, 1 ≤ a → a < gI s 46 7 → 0 ≤ gI s 47 a ∧ gI s 47 a < gI s 46 7) (hg : ∀ k, 0 ≤ k → k < n → vld xs (g0 + k) ∧ cdf xs (g0 + k) = c0 + k) :
    MI P xs lim (mtk c0 n s) (fun j => if gI s 46 7 ≤ j ∧ j < gI s 46 7 + n then g0 + (j - gI s 46 7) else γ j) κ := by
  obtain ⟨h1, h2, h3, h4, h5, h6⟩ := h
  unfold MI
  have e6 : gI (mtk c0 n s) 46 6 = gI s 46 6 := by rw [mtk_46, if_neg (by omega)]
  have e7 : gI (mtk c0 n s) 46 7 = gI s 46 7 + n := by rw [mtk_46, if_pos rfl]
  rw [e6, e7, mtk_47, mtk_48, mtk_ne (d := 50) (by decide) (by decide) (by decide), mtk_ne (d := 51) (by decide) (by decide) (by decide), mtk_ne (d := 52) (by decide) (by decide) (by decide)]
  refine ⟨fun a a0 a1 => ?_, fun a a0 a1 => ?_, fun i i0 i1 => ⟨(h3 i i0 i1).1, fun k k0 k1 => ?_⟩, fun a a0 a1 => ?_, h5, h6⟩
  · by_cases q : gI s 46 7 ≤ a ∧ a < gI s 46 7 + n
    · simp only [if_pos q]
      exact hg _ (by omega) (by omega)
    · simp only [if_neg q]
      exact h1 a a0 (by omega)
  · by_cases q : gI s 46 7 ≤ a ∧ a < gI s 46 7 + n
    · simp only [if_pos q]
      intro k; exact absurd rfl k
    · simp only [if_neg q]
      have := hm a a0 (by omega)
      rw [if_neg (show ¬ (gI s 46 7 ≤ gI s 47 a ∧ gI s 47 a < gI s 46 7 + n) by omega)]
      exact h2 a a0 (by omega)
  · have := hr i i0 i1
    show (if gI s 46 7 ≤ gI s 52 i + k ∧ gI s 52 i + k < gI s 46 7 + n then g0 + (gI s 52 i + k - gI s 46 7) else γ (gI s 52 i + k)) = _
    rw [if_neg (by omega)]
    exact (h3 i i0 i1).2 k k0 k1
  · show (if gI s 46 7 ≤ a ∧ a < gI s 46 7 + n then g0 + (a - gI s 46 7) else γ a) = _
    rw [if_neg (by omega)]
    exact h4 a a0 a1
/-- a new activation -/
theorem MI_op (h : MI P xs lim s γ κ) {g q : Int} (hU : 5 ≤ gI s 46 7) (hD : 0 ≤ gI s 46 6) (hr : ∀ i, 0 ≤ i → i < gI s 46 6 → 1 ≤ gI s 52 i ∧ gI s 52 i + 3 < gI s 46 7) (hm : ∀ a, 1 ≤ a → a < gI s 46 7 → 0 ≤ gI s 47 a ∧ gI s 47 a < gI s 46 7)
    (hq : (0 ≤ q ∧ q < xs.length) ∧ la xs q / 2353 = g) (hg : ∀ k, 0 ≤ k → k < 4 → vld xs (4 + 4 * q + k) ∧ cdf xs (4 + 4 * q + k) = 4 + 4 * g + k)
    (hc : 0 < gI s 46 6 → kd P (gI s 51 (gI s 46 6 - 1) - 1) = 6 ∧ q = plf P xs lim (κ (gI s 46 6 - 1)) (gI s 51 (gI s 46 6 - 1) - 1)) :
    MI P xs lim (mop P g s) (fun j => if gI s 46 7 ≤ j ∧ j < gI s 46 7 + 4 then 4 + 4 * q + (j - gI s 46 7) else γ j) (fun j => if j = gI s 46 6 then q else κ j) := by
  obtain ⟨h1, h2, h3, h4, h5, h6⟩ := MI_tk h (c0 := 4 + 4 * g) (n := 4) (g0 := 4 + 4 * q) hU (by omega) hr hm hg
  unfold MI
  have e6 : gI (mop P g s) 46 6 = gI s 46 6 + 1 := by rw [mop_46, if_pos rfl]
  have e7 : gI (mop P g s) 46 7 = gI s 46 7 + 4 := by rw [mop_46, if_neg (by omega), if_pos rfl]
  have t6 : gI (mtk (4 + 4 * g) 4 s) 46 6 = gI s 46 6 := by rw [mtk_46, if_neg (by omega)]
  have t7 : gI (mtk (4 + 4 * g) 4 s) 46 7 = gI s 46 7 + 4 := by rw [mtk_46, if_pos rfl]
  rw [t6] at h3 h5
  rw [t7] at h1 h2
  rw [mtk_47] at h2
  rw [mtk_48] at h1
  rw [mtk_ne (d := 50) (by decide) (by decide) (by decide), mtk_ne (d := 52) (by decide) (by decide) (by decide)] at h3
  rw [mtk_ne (d := 51) (by decide) (by decide) (by decide)] at h5
  rw [e6, e7, mop_47, mop_48, mop_50, mop_51, mop_52]
  refine ⟨h1, h2, fun i i0 i1 => ?_, h4, fun i i0 i1 => ?_, h6⟩
  · by_cases k : i = gI s 46 6
    · simp only [if_pos k]
      refine ⟨hq, fun x x0 x1 => ?_⟩
      rw [if_pos (by omega)]; omega
    · simp only [if_neg k]
      exact h3 i i0 (by omega)
  · have k : i ≠ gI s 46 6 := by omega
    simp only [if_neg k]
    by_cases k2 : i + 1 = gI s 46 6
    · rw [if_pos k2, show i = gI s 46 6 - 1 by omega]
      exact hc (by omega)
    · rw [if_neg k2]
      exact h5 i i0 (by omega)
/-- an address of a variable -/
theorem MI_adr (h : MI P xs lim s γ κ) (hD : 0 < gI s 46 6) {v : Int} (v0 : 0 ≤ v) : γ (madr v s) = clo v (κ (gI s 46 6 - 1)) := by
  obtain ⟨h1, h2, h3, h4, h5, h6⟩ := h
  unfold madr clo
  by_cases q : v < 4
  · rw [if_pos q, if_pos q, h4 _ (by omega) (by omega)]; omega
  · rw [if_neg q, if_neg q, (h3 _ (by omega) (by omega)).2 _ (by omega) (by omega)]
theorem MI_ex1 (hP : okP P) (hX : isC P lim xs) (hW : WFM P s) (h : MI P xs lim s γ κ) {n l r : Int} (n0 : 0 ≤ n) (n1 : n < tot P) (hD : 0 < gI s 46 6) (ho : own P n = gI s 50 (gI s 46 6 - 1)) (hn : gI s 51 (gI s 46 6 - 1) = n + 1)
    (hl : 1 ≤ l ∧ l < gI s 46 7) (hr : 1 ≤ r ∧ r < gI s 46 7) (gl : γ l = clo (vv P n) (κ (gI s 46 6 - 1))) (gr : γ r = clo (ww P n) (κ (gI s 46 6 - 1))) : ∃ γ' κ', MI P xs lim (mex1 P n l r s) γ' κ' := by
  obtain ⟨w1, w2, w3, w4, w5, w6, w7, w8⟩ := hW
  have hm : ∀ a, 1 ≤ a → a < gI s 46 7 → 0 ≤ gI s 47 a ∧ gI s 47 a < gI s 46 7 := fun a a0 a1 => (w5 a a0 a1).1
  have hrr : ∀ i, 0 ≤ i → i < gI s 46 6 → 1 ≤ gI s 52 i ∧ gI s 52 i + 3 < gI s 46 7 := fun i i0 i1 => by have := (w7 i i0 i1).2.2; omega
  have ht := h.2.2.1 (gI s 46 6 - 1) (by omega) (by omega)
  have hi : itm P xs (κ (gI s 46 6 - 1)) n := ⟨ht.1.1, ⟨n0, n1⟩, by rw [ho]; exact ht.1.2.symm⟩
  have hs := st_at hP n0 n1
  have hmr := hm r hr.1 hr.2
  unfold mex1
  by_cases k0 : kd P n = 0
  · rw [if_pos k0]
    refine ⟨γ, κ, MI_wr hP hX h hl ⟨by omega, hr.2⟩ (fun _ => ?_)⟩
    rw [gl, gr]; exact LF_closed hi (Or.inl ⟨k0, rfl, rfl⟩)
  rw [if_neg k0]
  by_cases k1 : kd P n = 1
  · rw [if_pos k1]
    refine ⟨γ, κ, MI_wr hP hX h hl hmr (fun q => ?_)⟩
    have := h.2.1 r hr.1 hr.2 q
    rw [gr] at this
    rw [gl]; exact LF_closed hi (Or.inr (Or.inl ⟨k1, rfl, this⟩))
  rw [if_neg k1]
  by_cases k2 : kd P n = 2
  · rw [if_pos k2]
    by_cases q : gI s 47 r = 0
    · rw [if_pos q]; exact ⟨γ, κ, MI_46 h (by omega) (by omega)⟩
    · rw [if_neg q]
      refine ⟨γ, κ, MI_wr hP hX h hl (hm _ (by omega) hmr.2) (fun q2 => ?_)⟩
      have a1 := h.2.1 r hr.1 hr.2 q
      have a2 := h.2.1 _ (by omega) hmr.2 q2
      rw [gr] at a1
      rw [gl]; exact LF_closed hi (Or.inr (Or.inr (Or.inl ⟨k2, rfl, _, a1, a2⟩)))
  rw [if_neg k2]
  by_cases k3 : kd P n = 3
  · rw [if_pos k3]
    have hml := hm l hl.1 hl.2
    by_cases q : gI s 47 l = 0
    · rw [if_pos q]; exact ⟨γ, κ, MI_46 h (by omega) (by omega)⟩
    · rw [if_neg q]
      refine ⟨γ, κ, MI_wr hP hX h ⟨by omega, hml.2⟩ hmr (fun q2 => ?_)⟩
      have a1 := h.2.1 l hl.1 hl.2 q
      have a2 := h.2.1 r hr.1 hr.2 q2
      rw [gl] at a1
      rw [gr] at a2
      exact LF_closed hi (Or.inr (Or.inr (Or.inr (Or.inl ⟨k3, a1, a2⟩))))
  rw [if_neg k3]
  by_cases k4 : kd P n = 4
  · rw [if_pos k4]
    have hsn := sn_lt hP n0 n1 k4
    have e7 : gI (sI s 46 10 (gI s 46 10 + 1)) 46 7 = gI s 46 7 := by rw [gI_sI, if_neg (by omega)]
    have e6 : gI (sI s 46 10 (gI s 46 10 + 1)) 46 6 = gI s 46 6 := by rw [gI_sI, if_neg (by omega)]
    have H := MI_tk (MI_46 (v := gI s 46 10 + 1) h (j := 10) (by omega) (by omega)) (c0 := 20 + 3 * sn P n + 0) (n := 3) (g0 := 128 + 3 * sn P n) (by rw [e7]; exact w3.1) (by omega) (by rw [e6, e7, gI_rne (by decide)]; exact hrr) (by rw [e7, gI_rne (by decide)]; exact hm) (fun k k0 k1 => ⟨⟨by omega, Or.inr (Or.inr (by omega))⟩, by rw [cdf_fld (by omega)]; omega⟩)
    rw [e7] at H
    refine ⟨_, κ, MI_wr hP hX H ?_ ?_ (fun _ => ?_)⟩
    · rw [mtk_U, e7]; omega
    · rw [mtk_U, e7]; omega
    · show Lf P xs lim (if gI s 46 7 ≤ l ∧ l < gI s 46 7 + 3 then _ else γ l) (if gI s 46 7 ≤ gI s 46 7 ∧ gI s 46 7 < gI s 46 7 + 3 then 128 + 3 * sn P n + (gI s 46 7 - gI s 46 7) else γ (gI s 46 7))
      rw [if_neg (by omega), if_pos (by omega), gl]
      exact LF_closed hi (Or.inr (Or.inr (Or.inr (Or.inr (Or.inl ⟨k4, rfl, by omega⟩)))))
  rw [if_neg k4]
  by_cases k5 : kd P n = 5
  · rw [if_pos k5]
    by_cases q : gI s 47 r = 0 ∨ nn P n = 0
    · rw [if_pos q]
      refine ⟨γ, κ, MI_wr hP hX h hl hmr (fun q2 => ?_)⟩
      have a1 := h.2.1 r hr.1 hr.2 q2
      rw [gr] at a1
      rw [gl]; exact LF_closed hi (Or.inr (Or.inr (Or.inr (Or.inr (Or.inr (Or.inl ⟨k5, rfl, Or.inl ⟨by omega, a1⟩⟩))))))
    · rw [if_neg q]
      by_cases q2 : gI s 48 (gI s 47 r) - 20 < 0 ∨ ¬ ((gI s 48 (gI s 47 r) - 20) % 3 + nn P n < 3)
      · rw [if_pos q2]; exact ⟨γ, κ, MI_46 h (by omega) (by omega)⟩
      · rw [if_neg q2]
        have a1 := h.2.1 r hr.1 hr.2 (by omega)
        have p1 : 1 ≤ gI s 47 r := by omega
        obtain ⟨b1, b2⟩ := w6 (gI s 47 r) (nn P n) p1 hmr.2 (by omega) (by omega) (by omega)
        have c1 := h.1 _ p1 hmr.2
        have c2 := h.1 _ (show 1 ≤ gI s 47 r + nn P n by omega) b1
        have d1 := (cdf_20 hP hX c1.1).mp (by rw [c1.2]; omega)
        have d2 := (cdf_20 hP hX c2.1).mp (by rw [c2.2, b2]; omega)
        have f1 := c1.2
        have f2 := c2.2
        rw [cdf_fld d1] at f1
        rw [cdf_fld d2, b2] at f2
        refine ⟨γ, κ, MI_wr hP hX h hl ⟨by omega, b1⟩ (fun _ => ?_)⟩
        rw [gr] at a1
        rw [gl]; exact LF_closed hi (Or.inr (Or.inr (Or.inr (Or.inr (Or.inr (Or.inl ⟨k5, rfl, Or.inr ⟨by omega, _, a1, d1, by omega, by omega⟩⟩))))))
  rw [if_neg k5]
  have k6 : kd P n = 6 := by omega
  by_cases q : gI s 46 6 < 6 ∧ gI s 46 8 < 200
  · rw [if_pos q]
    obtain ⟨p0, p1⟩ := plf_ok hX hi k6
    have hx := ext_rng hP hX hi
    have hlen := isC_len hP hX
    have H := MI_op h (g := nn P n) (q := plf P xs lim (κ (gI s 46 6 - 1)) n) w3.1 (by omega) hrr hm ⟨p0, by rw [p1]; omega⟩ (fun k k0 k1 => ⟨⟨by omega, Or.inr (Or.inl (by omega))⟩, by rw [cdf_loc hP hX p0.1 p0.2 k0 k1, p1]; omega⟩) (fun _ => by rw [hn, show n + 1 - 1 = n by omega]; exact ⟨k6, rfl⟩)
    have ea : madr (4 + 4 * nn P n) (mop P (nn P n) s) = gI s 46 7 := by
      unfold madr
      rw [if_neg (by omega), mop_46, if_pos rfl, mop_52]
      show (if gI s 46 6 + 1 - 1 = gI s 46 6 then gI s 46 7 else _) + (4 + 4 * nn P n - 4) % 4 = _
      rw [if_pos (by omega)]; omega
    refine ⟨_, _, MI_wr hP hX H ?_ ?_ (fun q2 => ?_)⟩
    · rw [ea, mop_46, if_neg (by omega), if_pos rfl]; omega
    · rw [mop_46, if_neg (by omega), if_pos rfl]; omega
    · rw [ea]
      have a1 := h.2.1 r hr.1 hr.2 q2
      rw [gr] at a1
      show Lf P xs lim (if gI s 46 7 ≤ gI s 46 7 ∧ gI s 46 7 < gI s 46 7 + 4 then 4 + 4 * plf P xs lim (κ (gI s 46 6 - 1)) n + (gI s 46 7 - gI s 46 7) else _) (if gI s 46 7 ≤ gI s 47 r ∧ gI s 47 r < gI s 46 7 + 4 then _ else γ (gI s 47 r))
      rw [if_pos (by omega), if_neg (by omega)]
      exact LF_closed hi (Or.inr (Or.inr (Or.inr (Or.inr (Or.inr (Or.inr ⟨k6, Or.inl ⟨by omega, a1⟩⟩))))))
  · rw [if_neg q]; exact ⟨γ, κ, h⟩
theorem MI_st (hP : okP P) (hX : isC P lim xs) (hW : WFM P s) (h : MI P xs lim s γ κ) (hg : mgo s) : ∃ γ' κ', MI P xs lim (mst P s) γ' κ' := by
  obtain ⟨hD, hX8⟩ := hg
  have hW' := hW
  obtain ⟨w1, w2, w3, w4, w5, w6, w7, w8⟩ := hW'
  obtain ⟨f1, f2, f3⟩ := w7 (gI s 46 6 - 1) (by omega) (by omega)
  unfold mst
  by_cases q : gI s 51 (gI s 46 6 - 1) < stt P (gI s 50 (gI s 46 6 - 1) + 1)
  · rw [if_pos q]
    have hss := stt_succ P f1.1 f1.2
    have hsr := stt_rng hP.1 f1.1 f1.2
    have n0 : 0 ≤ gI s 51 (gI s 46 6 - 1) := by omega
    have n1 : gI s 51 (gI s 46 6 - 1) < tot P := by omega
    have hs := st_at hP n0 n1
    have ho : own P (gI s 51 (gI s 46 6 - 1)) = gI s 50 (gI s 46 6 - 1) := by
      have := own_of hP.1 f1.1 f1.2 (k := gI s 51 (gI s 46 6 - 1) - stt P (gI s 50 (gI s 46 6 - 1))) (by omega) (by omega)
      rw [show stt P (gI s 50 (gI s 46 6 - 1)) + (gI s 51 (gI s 46 6 - 1) - stt P (gI s 50 (gI s 46 6 - 1))) = gI s 51 (gI s 46 6 - 1) by omega] at this
      exact this
    have g1 := MI_nx h (v := gI s 51 (gI s 46 6 - 1) + 1)
    have g2 := MI_46 g1 (j := 8) (v := gI (sI s 51 (gI s 46 6 - 1) (gI s 51 (gI s 46 6 - 1) + 1)) 46 8 + 1) (by omega) (by omega)
    have v1 : WFM P (sI s 51 (gI s 46 6 - 1) (gI s 51 (gI s 46 6 - 1) + 1)) := by
      have := WF_nx hW (i := gI s 46 6 - 1) (v := gI s 51 (gI s 46 6 - 1) + 1) rfl (by omega)
      unfold WFM
      rw [gI_row, gI_rne (by decide), gI_rne (by decide), gI_rne (by decide), gI_rne (by decide), gI_rne (by decide)]
      exact this
    have v2 := W_X v1 hX8
    unfold mex
    have d1 : gI (sI s 51 (gI s 46 6 - 1) (gI s 51 (gI s 46 6 - 1) + 1)) 46 6 = gI s 46 6 := by rw [gI_rne (by decide)]
    have d2 : gI (sI (sI s 51 (gI s 46 6 - 1) (gI s 51 (gI s 46 6 - 1) + 1)) 46 8 (gI (sI s 51 (gI s 46 6 - 1) (gI s 51 (gI s 46 6 - 1) + 1)) 46 8 + 1)) 46 6 = gI s 46 6 := by rw [gI_sI, if_neg (by omega), d1]
    refine MI_ex1 hP hX v2 g2 n0 n1 (by rw [d2]; exact hD) ?_ ?_ ?_ ?_ ?_ ?_
    · rw [d2, gI_rne (by decide), gI_rne (by decide)]; exact ho
    · rw [d2, gI_rne (by decide), gI_row]; show (if _ = _ then _ else _) = _; rw [if_pos rfl]
    · exact madr_rng v1 (by rw [d1]; exact hD) hs.2.1.1
    · exact madr_rng v1 (by rw [d1]; exact hD) hs.2.2.1.1
    · rw [d2, MI_adr g1 (by rw [d1]; exact hD) hs.2.1.1, d1]
    · rw [d2, MI_adr g1 (by rw [d1]; exact hD) hs.2.2.1.1, d1]
  · rw [if_neg q]
    unfold mcl
    by_cases q2 : 0 < gI s 46 6 - 1
    · rw [if_pos q2]
      have g1 := MI_pop h
      have d1 : gI (sI s 46 6 (gI s 46 6 - 1)) 46 6 = gI s 46 6 - 1 := by rw [gI_sI, if_pos ⟨rfl, rfl⟩]
      have d2 : gI (sI s 46 6 (gI s 46 6 - 1)) 46 7 = gI s 46 7 := by rw [gI_sI, if_neg (by omega)]
      have v1 : WFM P (sI s 46 6 (gI s 46 6 - 1)) := WF_pop hW hD
      obtain ⟨a1, a2, a3⟩ := w7 (gI s 46 6 - 1 - 1) (by omega) (by omega)
      have a4 := w8 (gI s 46 6 - 1 - 1) (by omega) (by omega)
      have hss := stt_succ P a1.1 a1.2
      have hsr := stt_rng hP.1 a1.1 a1.2
      have n0 : 0 ≤ gI s 51 (gI s 46 6 - 1 - 1) - 1 := by omega
      have n1 : gI s 51 (gI s 46 6 - 1 - 1) - 1 < tot P := by omega
      have hs := st_at hP n0 n1
      obtain ⟨k6, kp⟩ := h.2.2.2.2.1 (gI s 46 6 - 1 - 1) (by omega) (by omega)
      rw [show gI s 46 6 - 1 - 1 + 1 = gI s 46 6 - 1 by omega] at kp
      have ht := h.2.2.1 (gI s 46 6 - 1 - 1) (by omega) (by omega)
      have ho : own P (gI s 51 (gI s 46 6 - 1 - 1) - 1) = gI s 50 (gI s 46 6 - 1 - 1) := by
        have := own_of hP.1 a1.1 a1.2 (k := gI s 51 (gI s 46 6 - 1 - 1) - 1 - stt P (gI s 50 (gI s 46 6 - 1 - 1))) (by omega) (by omega)
        rw [show stt P (gI s 50 (gI s 46 6 - 1 - 1)) + (gI s 51 (gI s 46 6 - 1 - 1) - 1 - stt P (gI s 50 (gI s 46 6 - 1 - 1))) = gI s 51 (gI s 46 6 - 1 - 1) - 1 by omega] at this
        exact this
      have hi : itm P xs (κ (gI s 46 6 - 1 - 1)) (gI s 51 (gI s 46 6 - 1 - 1) - 1) := ⟨ht.1.1, ⟨n0, n1⟩, by rw [ho]; exact ht.1.2.symm⟩
      have er : madr (4 + 4 * gI s 50 (gI s 46 6 - 1) + 1) s = gI s 52 (gI s 46 6 - 1) + 1 := by
        unfold madr; rw [if_neg (by omega)]; omega
      have gq := (h.2.2.1 (gI s 46 6 - 1) (by omega) (by omega)).2 1 (by omega) (by omega)
      refine ⟨γ, κ, MI_wr hP hX g1 (madr_rng v1 (by rw [d1]; exact q2) hs.2.1.1) ?_ (fun q3 => ?_)⟩
      · rw [d2, er]; exact (w5 _ (by omega) (by omega)).1
      · rw [MI_adr g1 (by rw [d1]; exact q2) hs.2.1.1, d1]
        rw [er] at q3 ⊢
        have b1 := h.2.1 _ (by omega) (by omega) q3
        rw [gq, kp] at b1
        exact LF_closed hi (Or.inr (Or.inr (Or.inr (Or.inr (Or.inr (Or.inr ⟨k6, Or.inr ⟨rfl, b1⟩⟩))))))
    · rw [if_neg q2]; exact ⟨γ, κ, MI_pop h⟩
theorem mcr_L {j : Int} (j0 : 0 ≤ j) (j1 : j < 44) : gL (mcr s) 49 j = BitVec.ofNat 64 0 := by
  show (if 49 = 49 then (if 0 ≤ j ∧ j < (ln 49 : Int) then BitVec.ofNat 64 0 else gL s 49 j) else gL s 49 j) = _
  rw [if_pos rfl, if_pos ⟨j0, by rw [show ((ln 49 : Nat) : Int) = 44 from rfl]; exact j1⟩]
theorem MI_0 (hP : okP P) (hX : isC P lim xs) (s : St) : ∃ γ κ, MI P xs lim (ms0 P s) γ κ := by
  have hlen := isC_len hP hX
  obtain ⟨z1, z2, z3, z4, z5⟩ := mcr_46 (s := s)
  have h0 : MI P xs lim (mcr s) (fun a => a - 1) (fun _ => 0) := by
    unfold MI
    rw [z1, z2]
    refine ⟨fun a a0 a1 => ?_, fun a a0 a1 k => ?_, fun i i0 i1 => by omega, fun a _ _ => rfl, fun i i0 i1 => by omega, fun j j0 j1 t t1 hb => ?_⟩
    · rw [(mcr_47 a0 a1).2]
      show vld xs (a - 1) ∧ cdf xs (a - 1) = a - 1
      exact ⟨⟨by omega, Or.inl (by omega)⟩, cdf_glo (by omega)⟩
    · exact absurd (mcr_47 a0 a1).1 k
    · rw [mcr_L j0 j1] at hb; simp at hb
  obtain ⟨p0, p1⟩ := cx_0 hX
  refine ⟨_, _, MI_op h0 (g := 0) (q := cbl xs 0) (by rw [z2]; omega) (by rw [z1]; omega) (by rw [z1]; intro i i0 i1; omega) (by rw [z2]; intro a a0 a1; rw [(mcr_47 a0 a1).1]; omega) ⟨p0, by rw [p1]; rfl⟩ (fun k k0 k1 => ⟨⟨by omega, Or.inr (Or.inl (by omega))⟩, by rw [cdf_loc hP hX p0.1 p0.2 k0 k1, p1]; omega⟩) (fun k => by rw [z1] at k; omega)⟩
theorem MI_it (hP : okP P) (hX : isC P lim xs) (s : St) : ∀ k : Nat, (∀ i, i < k → mgo (mit P i (ms0 P s))) → WFM P (mit P k (ms0 P s)) ∧ ∃ γ κ, MI P xs lim (mit P k (ms0 P s)) γ κ
  | 0, _ => ⟨W_0 hP.1 s, MI_0 hP hX s⟩
  | k + 1, hk => by
    obtain ⟨w, γ, κ, h⟩ := MI_it hP hX s k (fun i q => hk i (by omega))
    rw [mit_succ]
    have hg := hk k (by omega)
    exact ⟨W_st hP w hg, MI_st hP hX w h hg⟩
/-- what is observed -/
theorem run_im (hP : okP P) (hX : isC P lim xs) {s : St} {k : Nat} (hk : ∀ i, i < k → mgo (mit P i (ms0 P s))) {j : Int} (j0 : 0 ≤ j) (j1 : j < 44) {t : Nat} (ht : t < 64) (hb : (gL (mit P k (ms0 P s)) 49 j).getLsbD t = true) : im xs (Lf P xs lim) j t := by
  obtain ⟨-, γ, κ, h⟩ := MI_it hP hX s k hk
  exact h.2.2.2.2.2 j j0 j1 t ht hb
end RUN
end
section
/-! counting -/
theorem cn_rm {h : Int → Bool} {b : Int} : ∀ {m : Nat}, 0 ≤ b → b < m → h b = true → cn h m = cn (fun x => h x && !(x == b)) m + 1
  | 0, b0, b1, _ => by omega
  | m + 1, b0, b1, hb => by
    rw [cn_succ, cn_succ]
    by_cases q : b = m
    · have e : cn (fun x => h x && !(x == b)) m = cn h m := cn_congr (fun x x0 x1 => by
        have : (x == b) = false := by simp; omega
        rw [this]; simp)
      rw [e, ← q, if_pos hb, if_neg (by simp)]; omega
    · have e : ((m : Int) == b) = false := by simp; omega
      rw [cn_rm (m := m) b0 (by omega) hb]
      simp only [e, Bool.not_false, Bool.and_true]
      omega
theorem cn_inj {φ : Int → Int} : ∀ {n m : Nat} {g h : Int → Bool}, (∀ a : Int, 0 ≤ a → a < n → g a = true → ∃ b : Int, (0 ≤ b ∧ b < m) ∧ (h b = true ∧ φ b = a)) → cn g n ≤ cn h m
  | 0, m, g, h, _ => (cn_rng h m).1
  | n + 1, m, g, h, H => by
    rw [cn_succ]
    by_cases q : g n = true
    · obtain ⟨b, hb, h1, h2⟩ := H n (by omega) (by omega) q
      rw [if_pos q, cn_rm hb.1 hb.2 h1]
      have := cn_inj (n := n) (m := m) (g := g) (h := fun x => h x && !(x == b)) (φ := φ) (fun a a0 a1 k => by
        obtain ⟨b', hb', h1', h2'⟩ := H a a0 (by omega) k
        refine ⟨b', hb', ?_, h2'⟩
        have : (b' == b) = false := by
          simp; intro e; rw [e, h2] at h2'; omega
        show (h b' && !(b' == b)) = true
        rw [this, h1']; rfl)
      omega
    · rw [if_neg q]
      have := cn_inj (n := n) (m := m) (g := g) (h := h) (φ := φ) (fun a a0 a1 k => H a a0 (by omega) k)
      omega
theorem cn_add (g : Int → Bool) (m : Nat) : ∀ k : Nat, cn g (m + k) = cn g m + cn (fun j => g (m + j)) k
  | 0 => by show cn g m = cn g m + 0; omega
  | k + 1 => by
    rw [show m + (k + 1) = (m + k) + 1 from rfl, cn_succ, cn_succ, cn_add g m k]
    rw [show ((m + k : Nat) : Int) = (m : Int) + (k : Int) by omega]
    omega
theorem cn_blk (g : Int → Bool) (k : Nat) : ∀ n : Nat, cn g (n * k) = sm (fun i => cn (fun j => g (i * k + j)) k) n
  | 0 => by rw [Nat.zero_mul]; rfl
  | n + 1 => by
    rw [Nat.succ_mul, cn_add, cn_blk g k n]
    show _ = sm _ n + _
    rw [show ((n * k : Nat) : Int) = (n : Int) * (k : Int) by exact Int.natCast_mul n k]
theorem sm_congr {f g : Int → Int} : ∀ {n : Nat}, (∀ v : Int, 0 ≤ v → v < n → f v = g v) → sm f n = sm g n
  | 0, _ => rfl
  | n + 1, h => by
    show sm f n + f n = sm g n + g n
    rw [sm_congr (n := n) (fun v a b => h v a (by omega)), h n (by omega) (by omega)]
theorem sm_le {f g : Int → Int} : ∀ {n : Nat}, (∀ v : Int, 0 ≤ v → v < n → f v ≤ g v) → sm f n ≤ sm g n
  | 0, _ => Int.le_refl _
  | n + 1, h => by
    show sm f n + f n ≤ sm g n + g n
    have := sm_le (n := n) (fun v a b => h v a (by omega))
    have := h n (by omega) (by omega)
    omega
theorem fsum_sm (F : Int → BitVec 64) : ∀ n : Nat, fsum F n = sm (fun k => pw (F k)) n
  | 0 => rfl
  | n + 1 => by rw [fsum_succ, fsum_sm F n]; rfl
/-- the number of facts is no less than that of the variables' targets -/
theorem FN_ge {P : Pg} (hP : okP P) {xs : List Int} {lim : Int} (hX : isC P lim xs) : sm (ptN P xs lim) 20 ≤ FN P xs lim := by
  have e1 : sm (ptN P xs lim) 20 = cn (fun y => dcl (im xs (Lf P xs lim) (y / 64) (y % 64))) (20 * 64) := by
    rw [cn_blk]
    refine sm_congr (fun v v0 v1 => ?_)
    show pw _ = _
    rw [wS_pw]
    refine cn_congr (fun t t0 t1 => ?_)
    show dcl (im xs (Lf P xs lim) v t) = dcl (im xs (Lf P xs lim) ((v * (64 : Nat) + t) / 64) ((v * (64 : Nat) + t) % 64))
    rw [show (v * ((64 : Nat) : Int) + t) / 64 = v by omega, show (v * ((64 : Nat) : Int) + t) % 64 = t by omega]
  have e2 : FN P xs lim = cn (fun x => dcl (Lf P xs lim (x / 192) (x % 192))) (456 * 64) := by
    unfold FN fpop
    rw [fsum_sm, cn_blk]
    refine sm_congr (fun k k0 k1 => ?_)
    rw [wS_pw]
    refine cn_congr (fun t t0 t1 => ?_)
    show dcl (Lf P xs lim (k / 3) (64 * (k % 3) + t)) = dcl (Lf P xs lim ((k * (64 : Nat) + t) / 192) ((k * (64 : Nat) + t) % 192))
    rw [show (k * ((64 : Nat) : Int) + t) / 192 = k / 3 by omega, show (k * ((64 : Nat) : Int) + t) % 192 = 64 * (k % 3) + t by omega]
  rw [e1, e2]
  refine cn_inj (φ := fun x => 64 * cdf xs (x / 192) + cdf xs (x % 192)) (fun a a0 a1 h => ?_)
  obtain ⟨c, u, h1, h2, h3⟩ := dcl_iff.mp h
  obtain ⟨hc, hu⟩ := Lf_okF hP hX c u h1
  have hlen := isC_len hP hX
  have rc : 0 ≤ c ∧ c < 152 := by unfold vld at hc; omega
  have ru : 0 ≤ u ∧ u < 152 := by unfold vld at hu; omega
  have q1 : (192 * c + u) / 192 = c := by omega
  have q2 : (192 * c + u) % 192 = u := by omega
  refine ⟨192 * c + u, ⟨by omega, by omega⟩, ?_, ?_⟩
  · show dcl (Lf P xs lim ((192 * c + u) / 192) ((192 * c + u) % 192)) = true
    rw [q1, q2]; exact dcl_t h1
  · show 64 * cdf xs ((192 * c + u) / 192) + cdf xs ((192 * c + u) % 192) = a
    rw [q1, q2, h2, h3]; omega
theorem wS_sub {S S' : Int → Prop} (h : ∀ t : Nat, t < 64 → S t → S' t) (j : Nat) (hj : (wS S).getLsbD j = true) : (wS S').getLsbD j = true := by
  have j1 : j < 64 := BitVec.lt_of_getLsbD hj
  exact (SW_wS S' j j1).mpr (h j j1 ((SW_wS S j j1).mp hj))
/-- the precision is no more than 1: in whole numbers -/
theorem pt_le_un {P : Pg} (hP : okP P) (hO : okO P) {xs : List Int} {lim : Int} (hX : isC P lim xs) : sm (ptN P xs lim) 20 ≤ sm (unN P) 20 :=
  sm_le (fun v v0 v1 => pw_le (wS_sub (fun t _ h => im_ugT hP hO hX (by omega) h)))
/-! and as a double -/
def chkq (n : Nat) : Bool := match FP.Core.decode FP.Core.b64 (dbl n).toNat with
  | .fin s c q => (!s) && (c == n * 2 ^ (-q).toNat) && decide (-1074 ≤ q) && decide (q ≤ 0)
  | _ => false
theorem chkq_all : (List.range 1301).all chkq = true := by decide +kernel
theorem dq64 {z : Int} (h0 : 0 ≤ z) (h1 : z ≤ 1300) : ∃ i : Nat, i ≤ 1074 ∧ FP.Core.decode FP.Core.b64 (dbl z).toNat = .fin false (z.toNat * 2 ^ i) (-(i : Int)) := by
  have h := List.all_eq_true.mp chkq_all z.toNat (List.mem_range.mpr (by omega))
  unfold chkq at h
  rw [show ((z.toNat : Nat) : Int) = z by omega] at h
  split at h
  · rename_i s c q e
    simp only [Bool.and_eq_true, Bool.not_eq_true', beq_iff_eq, decide_eq_true_eq] at h
    obtain ⟨⟨⟨h2, h3⟩, h4⟩, h5⟩ := h
    refine ⟨(-q).toNat, by omega, ?_⟩
    rw [e, h2, h3, show -(((-q).toNat : Nat) : Int) = q by omega]
  · cases h
theorem prec_le {a b : Int} (a0 : 0 ≤ a) (ab : a ≤ b) (b0 : 0 < b) (b1 : b ≤ 1300) : FP.dcmp (FP.ddiv (dbl a) (dbl b)) 0x3ff0000000000000 = some .lt ∨ FP.dcmp (FP.ddiv (dbl a) (dbl b)) 0x3ff0000000000000 = some .eq := by
  obtain ⟨i, i1, ei⟩ := dq64 a0 (by omega)
  obtain ⟨j, j1, ej⟩ := dq64 (show 0 ≤ b by omega) b1
  have hb : 0 < b.toNat * 2 ^ j := Nat.mul_pos (by omega) (Nat.two_pow_pos _)
  have eq1 : FP.Core.quotient FP.Core.b64 (FP.Core.decode FP.Core.b64 (dbl a).toNat) (FP.Core.decode FP.Core.b64 (dbl b).toNat) = FP.Core.roundRatio FP.Core.b64 false (a.toNat * 2 ^ i) (b.toNat * 2 ^ j) (-(i : Int) - -(j : Int)) := by
    rw [ei, ej]
    show (if b.toNat * 2 ^ j = 0 then _ else _) = _
    rw [if_neg (by omega)]; rfl
  have hfit := FP.Core.roundRatio_fits FP.Core.good_b64 false (a.toNat * 2 ^ i) hb (-(i : Int) - -(j : Int))
  have hnn := FP.Core.roundRatio_ne_nan FP.Core.b64 false (a.toNat * 2 ^ i) (b.toNat * 2 ^ j) (-(i : Int) - -(j : Int))
  have hsg := FP.Core.sgn_roundRatio FP.Core.b64 false (a.toNat * 2 ^ i) (b.toNat * 2 ^ j) (-(i : Int) - -(j : Int))
  have hV : FP.Core.fits FP.Core.b64 (.fin false 4503599627370496 (-52)) := by
    unfold FP.Core.fits; decide
  have hqm : FP.Core.b64.qmin = -1074 := by decide
  have hle : FP.Core.zmag FP.Core.b64 (FP.Core.roundRatio FP.Core.b64 false (a.toNat * 2 ^ i) (b.toNat * 2 ^ j) (-(i : Int) - -(j : Int))) ≤ FP.Core.zmag FP.Core.b64 (.fin false 4503599627370496 (-52)) := by
    refine FP.Core.zmag_roundRatio_le FP.Core.good_b64 hb hV (by intro k; cases k) (e0 := -1074) (by rw [hqm]; exact Int.le_refl _) (by omega) ?_
    have zf : ∀ (c : Nat) (q : Int), FP.Core.zmag FP.Core.b64 (.fin false c q) = c * 2 ^ (q - FP.Core.b64.qmin).toNat := fun _ _ => rfl
    have iu : ∀ (c : Nat) (q e : Int), FP.Core.inUnits c q e = c * 2 ^ (q - e).toNat := fun _ _ _ => rfl
    rw [iu, zf, hqm, show (-(i : Int) - -(j : Int) - -1074).toNat = 1074 - i + j by omega, show (-52 - -1074 : Int).toNat = 1022 from rfl, show (-1074 - -1074 : Int).toNat = 0 from rfl, Nat.pow_zero, Nat.mul_one, Nat.mul_assoc, ← Nat.pow_add, show i + (1074 - i + j) = 1074 + j by omega]
    rw [show (4503599627370496 : Nat) = 2 ^ 52 from rfl, ← Nat.pow_add, show 52 + 1022 = 1074 from rfl, Nat.mul_left_comm, ← Nat.pow_add]
    exact Nat.mul_le_mul_right _ (by omega)
  have hd : FP.Core.decode FP.Core.b64 (FP.ddiv (dbl a) (dbl b)).toNat = FP.Core.roundRatio FP.Core.b64 false (a.toNat * 2 ^ i) (b.toNat * 2 ^ j) (-(i : Int) - -(j : Int)) := by
    show FP.Core.decode FP.Core.b64 (UInt64.ofNat (FP.Core.encode FP.Core.b64 (FP.Core.quotient FP.Core.b64 (FP.Core.decode FP.Core.b64 (dbl a).toNat) (FP.Core.decode FP.Core.b64 (dbl b).toNat)))).toNat = _
    rw [eq1]
    have ok : okD FP.Core.b64 (FP.Core.roundRatio FP.Core.b64 false (a.toNat * 2 ^ i) (b.toNat * 2 ^ j) (-(i : Int) - -(j : Int))) := ok_ratio (by decide) (by decide)
    rw [UInt64.toNat_ofNat_of_lt' (enc64 ok).1, FP.Core.decode_encode FP.Core.good_b64 _ hfit]
  have h1 : FP.Core.decode FP.Core.b64 (0x3ff0000000000000 : UInt64).toNat = .fin false 4503599627370496 (-52) := by decide +kernel
  have ho : FP.dcmp (FP.ddiv (dbl a) (dbl b)) 0x3ff0000000000000 = some (compare (FP.Core.zval FP.Core.b64 (FP.Core.roundRatio FP.Core.b64 false (a.toNat * 2 ^ i) (b.toNat * 2 ^ j) (-(i : Int) - -(j : Int)))) (FP.Core.zval FP.Core.b64 (.fin false 4503599627370496 (-52)))) := by
    show FP.Core.order (FP.Core.decode FP.Core.b64 (FP.ddiv (dbl a) (dbl b)).toNat) (FP.Core.decode FP.Core.b64 (0x3ff0000000000000 : UInt64).toNat) = _
    rw [hd, h1]
    exact FP.Core.order_zval FP.Core.good_b64 hfit hV hnn (by intro k; cases k)
  rw [ho]
  unfold FP.Core.zval
  rw [hsg]
  have e9 : FP.Core.signed (FP.Core.sgn (.fin false 4503599627370496 (-52))) (FP.Core.zmag FP.Core.b64 (.fin false 4503599627370496 (-52))) = ((FP.Core.zmag FP.Core.b64 (.fin false 4503599627370496 (-52)) : Nat) : Int) := rfl
  rw [e9]
  show some (compare ((_ : Nat) : Int) ((_ : Nat) : Int)) = _ ∨ some (compare ((_ : Nat) : Int) ((_ : Nat) : Int)) = _
  generalize FP.Core.zmag FP.Core.b64 (FP.Core.roundRatio FP.Core.b64 false (a.toNat * 2 ^ i) (b.toNat * 2 ^ j) (-(i : Int) - -(j : Int))) = m at hle ⊢
  generalize FP.Core.zmag FP.Core.b64 (.fin false 4503599627370496 (-52)) = k at hle ⊢
  have hc : compare (m : Int) (k : Int) = (if (m : Int) < k then .lt else if (m : Int) = k then .eq else .gt) := rfl
  rw [hc]
  by_cases q : (m : Int) < k
  · rw [if_pos q]; exact Or.inl rfl
  · rw [if_neg q, if_pos (by omega)]; exact Or.inr rfl
end
section
/-! ranks and reasons -/
section RNK
variable {P : Pg} {lim : Int} {xs : List Int}
theorem RD_max {r : Int} (h : RDn P xs lim r) {j : Nat} {c u : Int} (h1 : Gr P xs lim j c u) : Gr P xs lim r.toNat c u := by
  obtain ⟨k, rfl, h2, h3⟩ := h
  rw [Int.toNat_natCast]
  exact LF_Gr h2 |>.mp (Gr_LF j h1)
/-- a rank is no more than the number of rounds -/
theorem RK_le {r a b k s : Int} (h : RDn P xs lim r) (hk : RKp P xs lim a b k s) : 1 ≤ k ∧ k ≤ r := by
  obtain ⟨j, i, rfl, hi, h1, h2⟩ := hk
  refine ⟨by omega, ?_⟩
  obtain ⟨n, rfl, h3, h4⟩ := h
  by_cases q : n ≤ j
  · refine absurd (im_mono (fun c u g => ?_) h2) h1
    exact Or.inl (Gr_le q (LF_Gr h3 |>.mp (Gr_LF _ (GB_Gr g))))
  · omega
/-- a reason: a statement of a reachable function; what it looks like -/
theorem RK_why {v t k s : Int} (hk : RKp P xs lim v t k s) : ∃ (i c u : Int) (j : Nat), k = j + 1 ∧ (itm P xs i s ∧ (DD P xs lim (Gr P xs lim j) i s c u ∧ (cdf xs c = v ∧ cdf xs u = t))) := by
  obtain ⟨j, i, e, hi, h1, c, u, h2, h3⟩ := hk
  rw [GB_step hi] at h2
  rcases h2 with h2 | h2
  · exact absurd ⟨c, u, h2, h3⟩ h1
  · exact ⟨i, c, u, j, e, hi, h2, h3⟩
theorem RK_kind (hP : okP P) (hX : isC P lim xs) {v t k s : Int} (hk : RKp P xs lim v t k s) :
    (0 ≤ s ∧ s < tot P) ∧ ((∃ i : Int, 0 ≤ i ∧ i < xs.length ∧ la xs i / 2353 = own P s) ∧ ((k = 1 → kd P s = 0 ∨ kd P s = 4) ∧ ((kd P s = 4 → 20 ≤ t ∧ t % 3 = 2) ∧ (kd P s < 3 → v < 4 ∨ (v - 4) / 4 = own P s)))) := by
  obtain ⟨i, c, u, j, e, hi, hd, rfl, rfl⟩ := RK_why hk
  refine ⟨hi.2.1, ⟨i, hi.1.1, hi.1.2, hi.2.2.symm⟩, fun k1 => ?_, fun k4 => ?_, fun k3 => ?_⟩
  · have j0 : j = 0 := by omega
    subst j0
    rcases hd with g | ⟨g0, g1, g2⟩ | ⟨g0, g1, x, g2, g3⟩ | ⟨g0, g1, g2⟩ | g | ⟨g0, g1, ⟨g2, g3⟩ | ⟨g2, x, g3, g4⟩⟩ | ⟨g0, ⟨g1, g2⟩ | ⟨g1, g2⟩⟩
    · exact Or.inl g.1
    · exact g2.elim
    · exact g2.elim
    · exact g1.elim
    · exact Or.inr g.1
    · exact g3.elim
    · exact g3.elim
    · exact g2.elim
    · exact g2.elim
  · have hs := (sn_rng (P := P) hi.2.1.1).1
    rcases hd with g | ⟨g0, _⟩ | ⟨g0, _⟩ | ⟨g0, _⟩ | g | ⟨g0, _⟩ | ⟨g0, _⟩
    · have := g.1; omega
    · omega
    · omega
    · omega
    · rw [g.2.2, cdf_fld (by omega)]; omega
    · omega
    · omega
  · have hc : ∃ x, 0 ≤ x ∧ c = clo x i := by
      have hv := (st_at hP hi.2.1.1 hi.2.1.2).2.1.1
      rcases hd with g | ⟨g0, g1, _⟩ | ⟨g0, g1, _⟩ | ⟨g0, _⟩ | g | ⟨g0, _⟩ | ⟨g0, _⟩
      · exact ⟨_, hv, g.2.1⟩
      · exact ⟨_, hv, g1⟩
      · exact ⟨_, hv, g1⟩
      · omega
      · have := g.1; omega
      · omega
      · omega
    obtain ⟨x, x0, rfl⟩ := hc
    unfold clo
    by_cases q : x < 4
    · rw [if_pos q, cdf_glo q]; exact Or.inl q
    · rw [if_neg q, cdf_loc hP hX hi.1.1 hi.1.2 (by omega) (by omega), hi.2.2]
      exact Or.inr (by omega)
/-- if there are rounds, a variable has a fact of rank 1 -/
theorem RK_one (hP : okP P) (hX : isC P lim xs) {r : Int} (h : RDn P xs lim r) (h0 : 0 < r) : ∃ v t, (0 ≤ v ∧ v < 20) ∧ ((0 ≤ t ∧ t < 20 + 3 * mny P 4 (-1)) ∧ (im xs (Lf P xs lim) v t ∧ ∀ k s, RKp P xs lim v t k s → k = 1)) := by
  obtain ⟨n, rfl, h3, h4⟩ := h
  obtain ⟨c, u, h5, h6⟩ := h4 0 (by omega)
  have h7 := h5
  rcases h5 with h5 | ⟨i, s, hi, hd⟩
  · exact h5.elim
  have hL : Lf P xs lim c u := Gr_LF 1 h7
  have hvs := Lf_VS hP hX hL
  have hc : c < 128 := by
    have cv := clo_128 hP hX (x := vv P s) hi.1.2
    rcases hd with g | ⟨g0, g1, g2⟩ | ⟨g0, g1, x, g2, g3⟩ | ⟨g0, g1, g2⟩ | g | ⟨g0, g1, ⟨g2, g3⟩ | ⟨g2, x, g3, g4⟩⟩ | ⟨g0, ⟨g1, g2⟩ | ⟨g1, g2⟩⟩
    · rw [g.2.1]; exact cv
    · exact g2.elim
    · exact g2.elim
    · exact g1.elim
    · rw [g.2.1]; exact cv
    · exact g3.elim
    · exact g3.elim
    · exact g2.elim
    · exact g2.elim
  have him : im xs (Lf P xs lim) (cdf xs c) (cdf xs u) := ⟨c, u, hL, rfl, rfl⟩
  refine ⟨cdf xs c, cdf xs u, cdf_var hP hX hvs.1.1 hc, (im_rng hP hX him).2, him, fun k s' hk => ?_⟩
  obtain ⟨j, i', e, hi', h1, h2⟩ := hk
  by_cases q : j = 0
  · rw [e, q]; rfl
  · exact absurd (⟨c, u, Or.inl (Gr_le (by omega) h7), rfl, rfl⟩ : im xs (GB P xs lim j (lx i' s')) (cdf xs c) (cdf xs u)) h1
/-- rounds and facts -/
theorem RD_0 {r : Int} (h : RDn P xs lim r) : 0 ≤ r ∧ (r = 0 ↔ ∀ c u, ¬ Lf P xs lim c u) := by
  obtain ⟨n, rfl, h3, h4⟩ := h
  refine ⟨by omega, fun e c u k => ?_, fun k => ?_⟩
  · have e : n = 0 := by omega
    subst e
    exact (LF_Gr h3).mp k
  · by_cases q : n = 0
    · rw [q]; rfl
    · obtain ⟨c, u, h5, _⟩ := h4 0 (by omega)
      exact absurd (Gr_LF 1 h5) (k c u)
theorem FN_0 (hP : okP P) (hX : isC P lim xs) : 0 ≤ FN P xs lim ∧ (FN P xs lim = 0 ↔ ∀ c u, ¬ Lf P xs lim c u) := by
  have e2 : FN P xs lim = cn (fun x => dcl (Lf P xs lim (x / 192) (x % 192))) (456 * 64) := by
    unfold FN fpop
    rw [fsum_sm, cn_blk]
    refine sm_congr (fun k k0 k1 => ?_)
    rw [wS_pw]
    refine cn_congr (fun t t0 t1 => ?_)
    show dcl (Lf P xs lim (k / 3) (64 * (k % 3) + t)) = dcl (Lf P xs lim ((k * (64 : Nat) + t) / 192) ((k * (64 : Nat) + t) % 192))
    rw [show (k * ((64 : Nat) : Int) + t) / 192 = k / 3 by omega, show (k * ((64 : Nat) : Int) + t) % 192 = 64 * (k % 3) + t by omega]
  rw [e2]
  refine ⟨(cn_rng _ _).1, fun h c u k => ?_, fun h => ?_⟩
  · obtain ⟨hc, hu⟩ := Lf_okF hP hX c u k
    have hlen := isC_len hP hX
    have rc : 0 ≤ c ∧ c < 152 := by unfold vld at hc; omega
    have ru : 0 ≤ u ∧ u < 152 := by unfold vld at hu; omega
    have := cn_rm (h := fun x => dcl (Lf P xs lim (x / 192) (x % 192))) (b := 192 * c + u) (m := 456 * 64) (by omega) (by omega) (by
      show dcl (Lf P xs lim ((192 * c + u) / 192) ((192 * c + u) % 192)) = true
      rw [show (192 * c + u) / 192 = c by omega, show (192 * c + u) % 192 = u by omega]; exact dcl_t k)
    have h9 := (cn_rng (fun x => dcl (Lf P xs lim (x / 192) (x % 192)) && !(x == 192 * c + u)) (456 * 64)).1
    omega
  · have : ∀ m : Nat, cn (fun x => dcl (Lf P xs lim (x / 192) (x % 192))) m = 0 := fun m => by
      induction m with
      | zero => rfl
      | succ m ih => rw [cn_succ, ih, if_neg (by rw [dcl_f (h _ _)]; decide)]; rfl
    exact this _
end RNK
end
section
/-! cycles, functions, escaping sites, empty bodies -/
section FLW
variable {P : Pg} {lim : Int} {xs : List Int}
theorem cy_refl (v : Int) : cyS P v v := Or.inl rfl
theorem cy_symm {v w : Int} (h : cyS P v w) : cyS P w v := by
  rcases h with rfl | ⟨a, b⟩
  · exact Or.inl rfl
  · exact Or.inr ⟨b, a⟩
theorem cy_trans {v w x : Int} (h : cyS P v w) (g : cyS P w x) : cyS P v x := by
  rcases h with rfl | ⟨a, b⟩
  · exact g
  · rcases g with rfl | ⟨c, d⟩
    · exact Or.inr ⟨a, b⟩
    · exact Or.inr ⟨TC_trans a c, TC_trans d b⟩
/-- the same for all in it -/
theorem cy_iW {v w : Int} (h : cyS P v w) : iW (cyS P w) = iW (cyS P v) := iW_congr (fun t _ => ⟨fun g => cy_trans h g, fun g => cy_trans (cy_symm h) g⟩)
theorem cx_key0 (hP : okP P) (hX : isC P 0 xs) {i : Int} (i0 : 0 ≤ i) (i1 : i < xs.length) : la xs i % 2353 = 0 := by
  rcases VE_cases hP (RS_VE hP ((hX.2 _).mp (la_mem i0 i1))) with h | h
  · exact h.1
  · exact absurd rfl h.1
/-- with the limit 0 a variable of a function with a context has one cell -/
theorem cell_of (hP : okP P) (hX : isC P 0 xs) {c x f i : Int} (hc : vld xs c) (hx : cdf xs c = x) (x0 : 0 ≤ x) (x1 : x < 20) (hl : loc f x) (i0 : 0 ≤ i) (i1 : i < xs.length) (hi : la xs i / 2353 = f) : c = clo x i := by
  have hlen := isC_len hP hX
  obtain ⟨h0, h1 | ⟨h1, h2⟩ | h1⟩ := hc
  · rw [cdf_glo h1] at hx
    unfold clo; rw [if_pos (by omega)]; exact hx
  · have j0 : 0 ≤ (c - 4) / 4 := by omega
    have j1 : (c - 4) / 4 < xs.length := by omega
    have hf := cx_fn hP hX j0 j1
    have e := cdf_loc hP hX j0 j1 (k := (c - 4) % 4) (by omega) (by omega)
    rw [show 4 + 4 * ((c - 4) / 4) + (c - 4) % 4 = c by omega, hx] at e
    unfold loc at hl
    have hl2 : (x - 4) / 4 = f := by omega
    have k1 := cx_key0 hP hX j0 j1
    have k2 := cx_key0 hP hX i0 i1
    have e2 : la xs ((c - 4) / 4) = la xs i := by omega
    have e3 := nd_la (asc_nd hX.1) j0 j1 i0 i1 e2
    unfold clo; rw [if_neg (by omega)]; omega
  · rw [cdf_fld h1.1] at hx; omega
/-- an edge hands on what is pointed to, with the limit 0, where all functions are reachable -/
theorem edge_im (hP : okP P) (hO : okO P) (hX : isC P 0 xs) (hA : ∀ f, 0 ≤ f → f ≤ 3 → ∃ i : Int, 0 ≤ i ∧ i < xs.length ∧ la xs i / 2353 = f) {a b t : Int} (h : EFl P a b) (g : im xs (Lf P xs 0) a t) : im xs (Lf P xs 0) b t := by
  obtain ⟨n, n0, n1, he⟩ := h
  obtain ⟨c, u, h1, hc, hu⟩ := g
  have hs := st_at hP n0 n1
  have hof := (own_spec hP.1 n0 n1).1
  obtain ⟨i, i0, i1, hi⟩ := hA (own P n) hof.1 hof.2
  have hit : itm P xs i n := ⟨⟨i0, i1⟩, ⟨n0, n1⟩, hi.symm⟩
  obtain ⟨lv, lw⟩ := hO n n0 n1
  have hv := Lf_okF hP hX c u h1
  rcases he with ⟨k, ea, eb⟩ | ⟨k, ⟨ea, eb⟩ | ⟨ea, eb⟩⟩
  · have := cell_of hP hX hv.1 hc (by omega) (by omega) (by rw [ea]; exact lw) i0 i1 hi
    rw [this, ea] at h1
    refine ⟨clo (vv P n) i, u, LF_closed hit (Or.inr (Or.inl ⟨k, rfl, h1⟩)), ?_, hu⟩
    rw [eb]; exact cdf_clo hP hX hit lv
  · have := cell_of hP hX hv.1 hc (by omega) (by omega) (by rw [ea]; exact lw) i0 i1 hi
    rw [this, ea] at h1
    obtain ⟨p0, p1⟩ := plf_ok hX hit k
    have hr := ext_rng hP hX hit
    refine ⟨4 + 4 * plf P xs 0 i n, u, LF_closed hit (Or.inr (Or.inr (Or.inr (Or.inr (Or.inr (Or.inr ⟨k, Or.inl ⟨rfl, h1⟩⟩)))))), ?_, hu⟩
    have e := cdf_loc hP hX p0.1 p0.2 (k := 0) (by omega) (by omega)
    rw [Int.add_zero, Int.add_zero, p1] at e
    rw [e, eb]; omega
  · obtain ⟨p0, p1⟩ := plf_ok hX hit k
    have hr := ext_rng hP hX hit
    have := cell_of hP hX hv.1 hc (x := a) (f := nn P n) (i := plf P xs 0 i n) (by omega) (by omega) (by unfold loc; omega) p0.1 p0.2 (by rw [p1]; omega)
    have e2 : clo a (plf P xs 0 i n) = 4 + 4 * plf P xs 0 i n + 1 := by unfold clo; rw [if_neg (by omega)]; omega
    rw [this, e2] at h1
    refine ⟨clo (vv P n) i, u, LF_closed hit (Or.inr (Or.inr (Or.inr (Or.inr (Or.inr (Or.inr ⟨k, Or.inr ⟨rfl, h1⟩⟩)))))), ?_, hu⟩
    rw [eb]; exact cdf_clo hP hX hit lv
theorem path_im (hP : okP P) (hO : okO P) (hX : isC P 0 xs) (hA : ∀ f, 0 ≤ f → f ≤ 3 → ∃ i : Int, 0 ≤ i ∧ i < xs.length ∧ la xs i / 2353 = f) {a b t : Int} (h : TC (EFl P) a b) : im xs (Lf P xs 0) a t → im xs (Lf P xs 0) b t :=
  h (fun a b => im xs (Lf P xs 0) a t → im xs (Lf P xs 0) b t) (fun _ _ e g => edge_im hP hO hX hA e g) (fun _ _ _ x y g => y (x g))
theorem cy_im (hP : okP P) (hO : okO P) (hX : isC P 0 xs) (hA : ∀ f, 0 ≤ f → f ≤ 3 → ∃ i : Int, 0 ≤ i ∧ i < xs.length ∧ la xs i / 2353 = f) {v w : Int} (h : cyS P v w) : wS (im xs (Lf P xs 0) v) = wS (im xs (Lf P xs 0) w) := by
  rcases h with rfl | ⟨a, b⟩
  · rfl
  · exact wS_congr (fun t _ => ⟨path_im hP hO hX hA a, path_im hP hO hX hA b⟩)
/-- contexts of a function, by their number -/
theorem nc_pos (hX : isC P lim xs) {f : Int} : 0 < nc xs f ↔ ∃ i : Int, 0 ≤ i ∧ i < xs.length ∧ la xs i / 2353 = f := by
  unfold nc
  have r0 := cbl_rng xs (f * 2353)
  have r1 := cbl_rng xs ((f + 1) * 2353)
  constructor
  · intro h
    have h1 := cbl_iff hX.1 (b := f * 2353) (i := cbl xs (f * 2353)) r0.1 (by omega)
    have h2 := cbl_iff hX.1 (b := (f + 1) * 2353) (i := cbl xs (f * 2353)) r0.1 (by omega)
    refine ⟨cbl xs (f * 2353), r0.1, by omega, ?_⟩
    have a1 := h2.mpr (by omega)
    have a2 : ¬ la xs (cbl xs (f * 2353)) < f * 2353 := fun k => by have := h1.mp k; omega
    omega
  · rintro ⟨i, i0, i1, hi⟩
    have h1 := cbl_iff hX.1 (b := f * 2353) i0 i1
    have h2 := cbl_iff hX.1 (b := (f + 1) * 2353) i0 i1
    have a1 := h2.mp (by omega)
    have a2 : ¬ i < cbl xs (f * 2353) := fun k => by have := h1.mpr k; omega
    omega
theorem nc_main (hX : isC P lim xs) : 0 < nc xs 0 := by
  obtain ⟨h, e⟩ := cx_0 hX
  exact (nc_pos hX).mpr ⟨_, h.1, h.2, by rw [e]; rfl⟩
/-- variables of an unreachable function point to nothing -/
theorem unr_im (hP : okP P) (hX : isC P lim xs) {f k : Int} (f0 : 0 ≤ f) (f1 : f ≤ 3) (k0 : 0 ≤ k) (k1 : k < 4) (h : ¬ 0 < nc xs f) : wS (im xs (Lf P xs lim) (4 + 4 * f + k)) = BitVec.ofNat 64 0 := by
  apply BitVec.eq_of_getLsbD_eq
  intro j hj
  have z : (BitVec.ofNat 64 0).getLsbD j = false := by simp
  rw [z]
  cases q : (wS (im xs (Lf P xs lim) (4 + 4 * f + k))).getLsbD j with
  | false => rfl
  | true =>
    obtain ⟨c, u, h1, h2, h3⟩ := (SW_wS _ j hj).mp q
    have hv := (Lf_okF hP hX c u h1).1
    refine absurd ((nc_pos hX).mpr ?_) h
    obtain ⟨h0, h4 | ⟨h4, h5⟩ | h4⟩ := hv
    · rw [cdf_glo h4] at h2; omega
    · have j0 : 0 ≤ (c - 4) / 4 := by omega
      have j1 : (c - 4) / 4 < xs.length := by omega
      have e := cdf_loc hP hX j0 j1 (k := (c - 4) % 4) (by omega) (by omega)
      rw [show 4 + 4 * ((c - 4) / 4) + (c - 4) % 4 = c by omega, h2] at e
      exact ⟨(c - 4) / 4, j0, j1, by omega⟩
    · rw [cdf_fld h4.1] at h2; omega
/-- what is reached is a target -/
theorem TC_im_rng (hP : okP P) (hX : isC P lim xs) {a b : Int} (h : TC (im xs (Lf P xs lim)) a b) : 0 ≤ b ∧ b < 20 + 3 * mny P 4 (-1) :=
  TC_sub (S := fun x => 0 ≤ x ∧ x < 20 + 3 * mny P 4 (-1)) h (fun t g => (im_rng hP hX g).2) (fun x y _ g => (im_rng hP hX g).2)
theorem esc_of (hP : okP P) (hX : isC P lim xs) {g s b : Int} (g0 : 0 ≤ g) (g1 : g < 4) (b0 : 0 ≤ b) (b1 : b < 3) (s0 : 0 ≤ s) (s1 : s < 8) (h : TC (im xs (Lf P xs lim)) g (20 + 3 * s + b)) : escS P xs lim s :=
  ⟨s1, 20 + 3 * s + b, ⟨by omega, by omega⟩, g, g0, g1, h⟩
theorem esc_lt (hP : okP P) (hX : isC P lim xs) : 0 ≤ iW (escS P xs lim) ∧ iW (escS P xs lim) < 2 ^ (mny P 4 (-1)).toNat := by
  obtain ⟨n, e, h1, h2⟩ := IW_iW (escS P xs lim)
  have hm := mny_nn hP
  rw [e]
  refine ⟨by omega, ?_⟩
  have : n < 2 ^ (mny P 4 (-1)).toNat := Nat.lt_pow_two_of_testBit n (fun i hi => by
    cases q : n.testBit i with
    | false => rfl
    | true =>
      by_cases k : i < 31
      · obtain ⟨s1, t, h3, g, g0, g1, h4⟩ := (h2 i k).mp q
        have := (TC_im_rng hP hX h4).2
        omega
      · have := Nat.testBit_lt_two_pow (show n < 2 ^ i from Nat.lt_of_lt_of_le (show n < 2 ^ 31 from h1) (Nat.pow_le_pow_right (show 2 > 0 by decide) (show 31 ≤ i by omega)))
        rw [this] at q; cases q)
  have e2 : ((2 ^ (mny P 4 (-1)).toNat : Nat) : Int) = 2 ^ (mny P 4 (-1)).toNat := by rw [Int.natCast_pow]; rfl
  omega
/-- empty bodies -/
theorem no_Lf (h0 : tot P = 0) (c u : Int) : ¬ Lf P xs lim c u := fun h =>
  LF_least (X := fun _ _ => False) (fun i n c u hi _ => by have := hi.2.1; omega) h
theorem no_FN (hP : okP P) (hX : isC P lim xs) (h0 : tot P = 0) : FN P xs lim = 0 := (FN_0 hP hX).2.mpr (no_Lf h0)
theorem no_sites (h0 : tot P = 0) : mny P 4 (-1) = 0 := by unfold mny; rw [h0]; rfl
theorem no_ug (h0 : tot P = 0) {s t : Tm} (h : ugE P s t) : s = t :=
  h (fun s t => s = t) (fun _ => rfl) (fun _ _ e => e.symm) (fun _ _ _ e g => e.trans g) (fun _ _ e => by rw [e]) (fun s t ⟨n, n0, n1, _⟩ => by omega)
theorem no_cls (h0 : tot P = 0) : cn (fun t => dcl (ugF P t)) (20 + mny P 4 (-1)).toNat = 20 := by
  rw [no_sites h0]
  have key : ∀ m : Nat, cn (fun t => dcl (ugF P t)) m = m := fun m => by
    induction m with
    | zero => rfl
    | succ m ih =>
      have hu : ugF P (m : Int) := fun e e0 e1 k => by
        have := no_ug h0 k
        injection this with k1 k2
        omega
      rw [cn_succ, ih]
      show (m : Int) + (if dcl (ugF P (m : Int)) = true then 1 else 0) = _
      rw [if_pos (dcl_t hu)]; omega
  exact key 20
end FLW
end
