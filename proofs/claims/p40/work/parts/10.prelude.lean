/-! prelude: printed by wip/p40/prelude.py -/
/-! THE PURE MACHINE: ints are integers (a cell holds them modulo 2^32), longs bit vectors, a reference the number of its cell in the layout -/
abbrev AV : Type := Int ⊕ (BitVec 64 ⊕ (UInt64 ⊕ (UInt32 ⊕ Nat)))
def vI (z : Int) : AV := .inl z
def vL (b : BitVec 64) : AV := .inr (.inl b)
def vD (d : UInt64) : AV := .inr (.inr (.inl d))
def vF (d : UInt32) : AV := .inr (.inr (.inr (.inl d)))
def vR (i : Nat) : AV := .inr (.inr (.inr (.inr i)))
abbrev Lo : Type := List (Option AV)
abbrev St : Type := (Nat → Int → Int) × ((Nat → Int → BitVec 64) × (Nat → Int → UInt64))
abbrev Res : Type := Option AV ⊕ Nat
def gI (σ : St) (c : Nat) (i : Int) : Int := σ.1 c i
def gL (σ : St) (c : Nat) (i : Int) : BitVec 64 := σ.2.1 c i
def gD (σ : St) (c : Nat) (i : Int) : UInt64 := σ.2.2 c i
def sI (σ : St) (c : Nat) (i : Int) (v : Int) : St := (fun d j => if d = c ∧ j = i then v else σ.1 d j, σ.2)
def sL (σ : St) (c : Nat) (i : Int) (v : BitVec 64) : St := (σ.1, (fun d j => if d = c ∧ j = i then v else σ.2.1 d j, σ.2.2))
def sD (σ : St) (c : Nat) (i : Int) (v : UInt64) : St := (σ.1, (σ.2.1, fun d j => if d = c ∧ j = i then v else σ.2.2 d j))
def iAnd (a b : Int) : Int := (BitVec.ofInt 32 a &&& BitVec.ofInt 32 b).toInt
def iOr (a b : Int) : Int := (BitVec.ofInt 32 a ||| BitVec.ofInt 32 b).toInt
def sh6 (z : Int) : Nat := (z % 64).toNat
abbrev n32 (r : UInt32) : Prop := r &&& 0x7fffffff ≤ 0x7f800000
abbrev n64 (r : UInt64) : Prop := r &&& 0x7fffffffffffffff ≤ 0x7ff0000000000000
def dbl (z : Int) : UInt64 := FP.i2d (Int32.ofInt z)
def flt (z : Int) : UInt32 := FP.i2f (Int32.ofInt z)
abbrev inR (z : Int) : Prop := -2147483648 ≤ z ∧ z < 2147483648
def ln (c : Nat) : Nat := if c = 49 then 44 else 0
theorem gI_sI {σ : St} {c d : Nat} {i j v : Int} : gI (sI σ c i v) d j = if d = c ∧ j = i then v else gI σ d j := rfl
theorem gL_sI {σ : St} {c d : Nat} {i j v : Int} : gL (sI σ c i v) d j = gL σ d j := rfl
theorem gD_sI {σ : St} {c d : Nat} {i j v : Int} : gD (sI σ c i v) d j = gD σ d j := rfl
theorem gI_sL {σ : St} {c d : Nat} {i j : Int} {v : BitVec 64} : gI (sL σ c i v) d j = gI σ d j := rfl
theorem gL_sL {σ : St} {c d : Nat} {i j : Int} {v : BitVec 64} : gL (sL σ c i v) d j = if d = c ∧ j = i then v else gL σ d j := rfl
theorem gD_sL {σ : St} {c d : Nat} {i j : Int} {v : BitVec 64} : gD (sL σ c i v) d j = gD σ d j := rfl
theorem gI_sD {σ : St} {c d : Nat} {i j : Int} {v : UInt64} : gI (sD σ c i v) d j = gI σ d j := rfl
theorem gL_sD {σ : St} {c d : Nat} {i j : Int} {v : UInt64} : gL (sD σ c i v) d j = gL σ d j := rfl
theorem gD_sD {σ : St} {c d : Nat} {i j : Int} {v : UInt64} : gD (sD σ c i v) d j = if d = c ∧ j = i then v else gD σ d j := rfl
/-! frames -/
def fr (M : Nat → Int → Prop) (σ σ' : St) : Prop := ∀ c j, ¬ M c j → gI σ' c j = gI σ c j ∧ (gL σ' c j = gL σ c j ∧ gD σ' c j = gD σ c j)
theorem fr_refl {M : Nat → Int → Prop} {σ : St} : fr M σ σ := fun _ _ _ => ⟨rfl, rfl, rfl⟩
theorem fr_trans {M : Nat → Int → Prop} {σ σ1 σ2 : St} (h1 : fr M σ σ1) (h2 : fr M σ1 σ2) : fr M σ σ2 := fun c j h =>
  ⟨(h2 c j h).1.trans (h1 c j h).1, (h2 c j h).2.1.trans (h1 c j h).2.1, (h2 c j h).2.2.trans (h1 c j h).2.2⟩
theorem fr_mono {M M' : Nat → Int → Prop} {σ σ' : St} (h : fr M σ σ') (hm : ∀ c j, M c j → M' c j) : fr M' σ σ' := fun c j hn => h c j (fun g => hn (hm c j g))
theorem fr_I {M : Nat → Int → Prop} {σ σ' : St} (h : fr M σ σ') (c : Nat) (j : Int) (hn : ¬ M c j) : gI σ' c j = gI σ c j := (h c j hn).1
theorem fr_L {M : Nat → Int → Prop} {σ σ' : St} (h : fr M σ σ') (c : Nat) (j : Int) (hn : ¬ M c j) : gL σ' c j = gL σ c j := (h c j hn).2.1
theorem fr_D {M : Nat → Int → Prop} {σ σ' : St} (h : fr M σ σ') (c : Nat) (j : Int) (hn : ¬ M c j) : gD σ' c j = gD σ c j := (h c j hn).2.2
theorem fr_sI {M : Nat → Int → Prop} {σ σ1 : St} {c : Nat} {i v : Int} (h : fr M σ σ1) (hm : M c i) : fr M σ (sI σ1 c i v) := fun d j hn =>
  ⟨by rw [gI_sI, if_neg (fun g => hn (by rw [g.1, g.2]; exact hm))]; exact (h d j hn).1, (h d j hn).2.1, (h d j hn).2.2⟩
theorem fr_sL {M : Nat → Int → Prop} {σ σ1 : St} {c : Nat} {i : Int} {v : BitVec 64} (h : fr M σ σ1) (hm : M c i) : fr M σ (sL σ1 c i v) := fun d j hn =>
  ⟨(h d j hn).1, by rw [gL_sL, if_neg (fun g => hn (by rw [g.1, g.2]; exact hm))]; exact (h d j hn).2.1, (h d j hn).2.2⟩
theorem fr_sD {M : Nat → Int → Prop} {σ σ1 : St} {c : Nat} {i : Int} {v : UInt64} (h : fr M σ σ1) (hm : M c i) : fr M σ (sD σ1 c i v) := fun d j hn =>
  ⟨(h d j hn).1, (h d j hn).2.1, by rw [gD_sD, if_neg (fun g => hn (by rw [g.1, g.2]; exact hm))]; exact (h d j hn).2.2⟩
/-- a whole cell anew -/
def upI (σ : St) (c : Nat) (f : Int → Int) : St := (fun d j => if d = c then f j else σ.1 d j, σ.2)
def upL (σ : St) (c : Nat) (f : Int → BitVec 64) : St := (σ.1, (fun d j => if d = c then f j else σ.2.1 d j, σ.2.2))
theorem gI_upI {σ : St} {c d : Nat} {f : Int → Int} {j : Int} : gI (upI σ c f) d j = if d = c then f j else gI σ d j := rfl
theorem gL_upI {σ : St} {c d : Nat} {f : Int → Int} {j : Int} : gL (upI σ c f) d j = gL σ d j := rfl
theorem gD_upI {σ : St} {c d : Nat} {f : Int → Int} {j : Int} : gD (upI σ c f) d j = gD σ d j := rfl
theorem gI_upL {σ : St} {c d : Nat} {f : Int → BitVec 64} {j : Int} : gI (upL σ c f) d j = gI σ d j := rfl
theorem gL_upL {σ : St} {c d : Nat} {f : Int → BitVec 64} {j : Int} : gL (upL σ c f) d j = if d = c then f j else gL σ d j := rfl
theorem gD_upL {σ : St} {c d : Nat} {f : Int → BitVec 64} {j : Int} : gD (upL σ c f) d j = gD σ d j := rfl
theorem fr_upI {M : Nat → Int → Prop} {σ σ1 : St} {c : Nat} {f : Int → Int} (h : fr M σ σ1) (hm : ∀ j, M c j) : fr M σ (upI σ1 c f) := fun d j hn =>
  ⟨by rw [gI_upI, if_neg (fun g => hn (by rw [g]; exact hm j))]; exact (h d j hn).1, (h d j hn).2.1, (h d j hn).2.2⟩
theorem fr_upL {M : Nat → Int → Prop} {σ σ1 : St} {c : Nat} {f : Int → BitVec 64} (h : fr M σ σ1) (hm : ∀ j, M c j) : fr M σ (upL σ1 c f) := fun d j hn =>
  ⟨(h d j hn).1, by rw [gL_upL, if_neg (fun g => hn (by rw [g]; exact hm j))]; exact (h d j hn).2.1, (h d j hn).2.2⟩
theorem st_ext {σ τ : St} (h1 : ∀ c j, gI σ c j = gI τ c j) (h2 : ∀ c j, gL σ c j = gL τ c j) (h3 : ∀ c j, gD σ c j = gD τ c j) : σ = τ := by
  obtain ⟨a, b, c⟩ := σ
  obtain ⟨a2, b2, c2⟩ := τ
  have e1 : a = a2 := funext fun x => funext fun y => h1 x y
  have e2 : b = b2 := funext fun x => funext fun y => h2 x y
  have e3 : c = c2 := funext fun x => funext fun y => h3 x y
  subst e1; subst e2; subst e3; rfl
theorem sI_sI {σ : St} {c : Nat} {i v w : Int} : sI (sI σ c i v) c i w = sI σ c i w := st_ext (fun d j => by
  rw [gI_sI, gI_sI, gI_sI]; split <;> rfl) (fun _ _ => rfl) (fun _ _ => rfl)
theorem sI_self {σ : St} {c : Nat} {i : Int} : sI σ c i (gI σ c i) = σ := st_ext (fun d j => by
  rw [gI_sI]; split
  · rename_i h; rw [h.1, h.2]
  · rfl) (fun _ _ => rfl) (fun _ _ => rfl)
/-! bits -/
theorem bb_and1 (l : BitVec 64) : (l &&& BitVec.ofNat 64 1 = BitVec.ofNat 64 0) ↔ l.getLsbD 0 = false := by
  rw [BitVec.and_one_eq_setWidth_ofBool_getLsbD]
  cases l.getLsbD 0 <;> simp
theorem bb_and1' (l : BitVec 64) : (l &&& BitVec.ofNat 64 1 = BitVec.ofNat 64 1) ↔ l.getLsbD 0 = true := by
  rw [BitVec.and_one_eq_setWidth_ofBool_getLsbD]
  cases l.getLsbD 0 <;> simp
theorem bb_shr (l : BitVec 64) (k : Nat) : (l >>> k).getLsbD 0 = l.getLsbD k := by
  rw [BitVec.getLsbD_ushiftRight, Nat.add_zero]
theorem bb_sar (l : BitVec 64) {k : Nat} (hk : k < 64) : (l.sshiftRight k).getLsbD 0 = l.getLsbD k := by
  rw [BitVec.getLsbD_sshiftRight]
  simp
  intro h; omega
theorem bb_one {n i : Nat} (hn : n < 64) : (BitVec.ofNat 64 1 <<< n).getLsbD i = decide (i = n) := by
  rw [BitVec.getLsbD_shiftLeft, BitVec.getLsbD_one]
  by_cases h : i = n
  · subst h; simp [hn]
  · simp only [h, decide_false]
    by_cases h2 : i < n
    · simp [h2]
    · have : ¬ (i - n = 0) := by omega
      simp [this]
theorem sh6_id {z : Int} (h0 : 0 ≤ z) (h1 : z < 64) : sh6 z = z.toNat := by unfold sh6; omega
/-! counting -/
def cn (g : Int → Bool) : Nat → Int
  | 0 => 0
  | n + 1 => cn g n + (if g n = true then 1 else 0)
theorem cn_succ (g : Int → Bool) (n : Nat) : cn g (n + 1) = cn g n + (if g n = true then 1 else 0) := rfl
theorem cn_rng (g : Int → Bool) : ∀ n : Nat, 0 ≤ cn g n ∧ cn g n ≤ n
  | 0 => ⟨Int.le_refl 0, Int.le_refl 0⟩
  | n + 1 => by
    have := cn_rng g n
    rw [cn_succ]
    split <;> omega
theorem cn_mono (g : Int → Bool) {m n : Nat} (h : m ≤ n) : cn g m ≤ cn g n := by
  induction h with
  | refl => exact Int.le_refl _
  | step _ ih => rw [cn_succ]; split <;> omega
theorem cn_congr {g g' : Int → Bool} : ∀ {n : Nat}, (∀ m : Int, 0 ≤ m → m < n → g m = g' m) → cn g n = cn g' n
  | 0, _ => rfl
  | n + 1, h => by rw [cn_succ, cn_succ, cn_congr (n := n) (fun m h0 h1 => h m h0 (by omega)), h n (by omega) (by omega)]
theorem cn_sub {g : Int → Bool} {m n : Nat} (h : m ≤ n) : cn g n - cn g m ≤ (n : Int) - m := by
  induction h with
  | refl => omega
  | step _ ih => rw [cn_succ]; split <;> omega

/-! the program, as the law's cells hold it: P 54 the kinds by place, P 55, P 56, P 57 the operands, P 58 the sizes -/
abbrev Pg : Type := Nat → Int → Int
def tot (P : Pg) : Int := P 58 0 + P 58 1 + P 58 2 + P 58 3
def stt (P : Pg) (f : Int) : Int := if f = 0 then 0 else if f = 1 then P 58 0 else if f = 2 then P 58 0 + P 58 1 else if f = 3 then P 58 0 + P 58 1 + P 58 2 else tot P
def own (P : Pg) (n : Int) : Int := if n < P 58 0 then 0 else if n < P 58 0 + P 58 1 then 1 else if n < P 58 0 + P 58 1 + P 58 2 then 2 else 3
def plc (P : Pg) (n : Int) : Int := 12 * own P n + (n - stt P (own P n))
def num (P : Pg) (p : Int) : Int := stt P (p / 12) + p % 12
def okZ (P : Pg) : Prop := (0 ≤ P 58 0 ∧ P 58 0 ≤ 12) ∧ ((0 ≤ P 58 1 ∧ P 58 1 ≤ 12) ∧ ((0 ≤ P 58 2 ∧ P 58 2 ≤ 12) ∧ (0 ≤ P 58 3 ∧ P 58 3 ≤ 12)))
theorem f4 {f : Int} (h0 : 0 ≤ f) (h1 : f ≤ 3) : f = 0 ∨ f = 1 ∨ f = 2 ∨ f = 3 := by omega
theorem stt0 (P : Pg) : stt P 0 = 0 := rfl
theorem stt1 (P : Pg) : stt P 1 = P 58 0 := rfl
theorem stt2 (P : Pg) : stt P 2 = P 58 0 + P 58 1 := rfl
theorem stt3 (P : Pg) : stt P 3 = P 58 0 + P 58 1 + P 58 2 := rfl
theorem stt4 (P : Pg) : stt P 4 = tot P := rfl
theorem stt_succ (P : Pg) {f : Int} (h0 : 0 ≤ f) (h1 : f ≤ 3) : stt P (f + 1) = stt P f + P 58 f := by
  rcases f4 h0 h1 with rfl | rfl | rfl | rfl
  · rw [stt0, show (0 : Int) + 1 = 1 from rfl, stt1]; omega
  · rw [stt1, show (1 : Int) + 1 = 2 from rfl, stt2]
  · rw [stt2, show (2 : Int) + 1 = 3 from rfl, stt3]
  · rw [stt3, show (3 : Int) + 1 = 4 from rfl, stt4]; rfl
theorem okZ_at {P : Pg} (h : okZ P) {f : Int} (h0 : 0 ≤ f) (h1 : f ≤ 3) : 0 ≤ P 58 f ∧ P 58 f ≤ 12 := by
  rcases f4 h0 h1 with rfl | rfl | rfl | rfl
  · exact h.1
  · exact h.2.1
  · exact h.2.2.1
  · exact h.2.2.2
theorem tot_rng {P : Pg} (h : okZ P) : 0 ≤ tot P ∧ tot P ≤ 48 := by
  obtain ⟨h0, h1, h2, h3⟩ := h
  unfold tot; omega
theorem stt_rng {P : Pg} (h : okZ P) {f : Int} (h0 : 0 ≤ f) (h1 : f ≤ 3) : 0 ≤ stt P f ∧ stt P f + P 58 f ≤ tot P := by
  obtain ⟨g0, g1, g2, g3⟩ := h
  rcases f4 h0 h1 with rfl | rfl | rfl | rfl
  · rw [stt0]; unfold tot; omega
  · rw [stt1]; unfold tot; omega
  · rw [stt2]; unfold tot; omega
  · rw [stt3]; unfold tot; omega
theorem own_of {P : Pg} (h : okZ P) {f k : Int} (h0 : 0 ≤ f) (h1 : f ≤ 3) (k0 : 0 ≤ k) (k1 : k < P 58 f) : own P (stt P f + k) = f := by
  obtain ⟨g0, g1, g2, g3⟩ := h
  rcases f4 h0 h1 with rfl | rfl | rfl | rfl
  · rw [stt0, own, if_pos (by omega)]
  · rw [stt1, own, if_neg (by omega), if_pos (by omega)]
  · rw [stt2, own, if_neg (by omega), if_neg (by omega), if_pos (by omega)]
  · rw [stt3, own, if_neg (by omega), if_neg (by omega), if_neg (by omega)]
theorem plc_of {P : Pg} (h : okZ P) {f k : Int} (h0 : 0 ≤ f) (h1 : f ≤ 3) (k0 : 0 ≤ k) (k1 : k < P 58 f) : plc P (stt P f + k) = 12 * f + k := by
  unfold plc; rw [own_of h h0 h1 k0 k1]; omega
theorem own_spec {P : Pg} (h : okZ P) {n : Int} (h0 : 0 ≤ n) (h1 : n < tot P) : (0 ≤ own P n ∧ own P n ≤ 3) ∧ (stt P (own P n) ≤ n ∧ n < stt P (own P n) + P 58 (own P n)) := by
  obtain ⟨g0, g1, g2, g3⟩ := h
  unfold tot at h1
  unfold own
  by_cases c0 : n < P 58 0
  · simp only [if_pos c0]; rw [stt0]; omega
  · simp only [if_neg c0]
    by_cases c1 : n < P 58 0 + P 58 1
    · simp only [if_pos c1]; rw [stt1]; omega
    · simp only [if_neg c1]
      by_cases c2 : n < P 58 0 + P 58 1 + P 58 2
      · simp only [if_pos c2]; rw [stt2]; omega
      · simp only [if_neg c2]; rw [stt3]; omega
/-- every statement is some function's some statement -/
theorem n_split {P : Pg} (h : okZ P) {n : Int} (h0 : 0 ≤ n) (h1 : n < tot P) : ∃ f k : Int, (0 ≤ f ∧ f ≤ 3) ∧ (0 ≤ k ∧ k < P 58 f) ∧ n = stt P f + k := by
  obtain ⟨h2, h3, h4⟩ := own_spec h h0 h1
  exact ⟨own P n, n - stt P (own P n), h2, ⟨by omega, by omega⟩, by omega⟩
theorem plc_rng {P : Pg} (h : okZ P) {n : Int} (h0 : 0 ≤ n) (h1 : n < tot P) : 0 ≤ plc P n ∧ plc P n < 48 := by
  obtain ⟨h2, h3, h4⟩ := own_spec h h0 h1
  have := okZ_at h h2.1 h2.2
  unfold plc; omega
theorem plc_div {P : Pg} (h : okZ P) {n : Int} (h0 : 0 ≤ n) (h1 : n < tot P) : plc P n / 12 = own P n := by
  obtain ⟨h2, h3, h4⟩ := own_spec h h0 h1
  have := okZ_at h h2.1 h2.2
  unfold plc; omega
theorem num_plc {P : Pg} (h : okZ P) {n : Int} (h0 : 0 ≤ n) (h1 : n < tot P) : num P (plc P n) = n := by
  unfold num
  rw [plc_div h h0 h1]
  obtain ⟨h2, h3, h4⟩ := own_spec h h0 h1
  have := okZ_at h h2.1 h2.2
  have e : plc P n % 12 = n - stt P (own P n) := by unfold plc; omega
  rw [e]; omega
theorem num_of {P : Pg} {f k : Int} (k0 : 0 ≤ k) (k1 : k < 12) : num P (12 * f + k) = stt P f + k := by
  unfold num
  rw [show (12 * f + k) / 12 = f by omega, show (12 * f + k) % 12 = k by omega]
/-- of a statement by its number: kind, operands, site -/
def kd (P : Pg) (n : Int) : Int := P 54 (plc P n)
def vv (P : Pg) (n : Int) : Int := P 55 (plc P n)
def ww (P : Pg) (n : Int) : Int := P 56 (plc P n)
def nn (P : Pg) (n : Int) : Int := P 57 (plc P n)
def sn (P : Pg) (n : Int) : Int := cn (fun m => kd P m == 4) n.toNat
/-- statements of a kind, but those of a function -/
def mny (P : Pg) (q wo : Int) : Int := cn (fun m => (own P m != wo) && (kd P m == q)) (tot P).toNat
def okP (P : Pg) : Prop := okZ P ∧ ((∀ n, 0 ≤ n → n < tot P → (0 ≤ kd P n ∧ kd P n ≤ 6) ∧ ((0 ≤ vv P n ∧ vv P n ≤ 19) ∧ ((0 ≤ ww P n ∧ ww P n ≤ 19) ∧ (0 ≤ nn P n ∧ nn P n ≤ 3))) ∧ (kd P n = 5 → nn P n ≤ 2)) ∧ (mny P 4 (-1) ≤ 8 ∧ mny P 6 (-1) ≤ 5))
theorem sn_succ {P : Pg} {n : Int} (h : 0 ≤ n) : sn P (n + 1) = sn P n + (if kd P n = 4 then 1 else 0) := by
  unfold sn
  rw [show (n + 1).toNat = n.toNat + 1 by omega, cn_succ, show ((n.toNat : Nat) : Int) = n by omega]
  simp only [beq_iff_eq]
theorem sn_rng {P : Pg} {n : Int} (h : 0 ≤ n) : 0 ≤ sn P n ∧ sn P n ≤ n := by
  have := cn_rng (fun m => kd P m == 4) n.toNat
  unfold sn; omega
theorem sn_mono {P : Pg} {m n : Int} (h : m ≤ n) : sn P m ≤ sn P n := cn_mono _ (by omega)
theorem mny_all {P : Pg} (h : okZ P) : mny P 4 (-1) = sn P (tot P) := by
  unfold mny sn
  apply cn_congr
  intro m h0 h1
  have := tot_rng h
  obtain ⟨h2, -⟩ := own_spec h h0 (by omega)
  have : (own P m != -1) = true := by simp; omega
  rw [this, Bool.true_and]

/-! contexts: a function and a key as one number, e = 2353 * f + key -/
def lst (k : Int) : Int := if 49 ≤ k then (k - 49) % 48 else k - 1
def ext (lim k c : Int) : Int := if lim = 0 then 0 else if lim = 1 ∨ k = 0 then 1 + c else 49 + lst k * 48 + c
def isCall (P : Pg) (c : Int) : Prop := 0 ≤ c ∧ (c < tot P ∧ kd P c = 6)
def stepC (P : Pg) (lim e e' : Int) : Prop := ∃ c, isCall P c ∧ (own P c = e / 2353 ∧ e' = nn P c * 2353 + ext lim (e % 2353) c)
/-- the contexts there are -/
def RS (P : Pg) (lim e : Int) : Prop := ∀ X : Int → Prop, X 0 → (∀ a b, X a → stepC P lim a b → X b) → X e
theorem RS_0 (P : Pg) (lim : Int) : RS P lim 0 := fun _ h _ => h
theorem RS_step {P : Pg} {lim a b : Int} (ha : RS P lim a) (h : stepC P lim a b) : RS P lim b := fun X h0 hs => hs a b (ha X h0 hs) h
/-- what a context looks like -/
def VE (P : Pg) (lim e : Int) : Prop := e = 0 ∨ ∃ c, isCall P c ∧ ((lim = 0 ∧ e = nn P c * 2353) ∨ ((lim ≠ 0 ∧ e = nn P c * 2353 + (1 + c)) ∨ (lim ≠ 0 ∧ ∃ l, isCall P l ∧ e = nn P c * 2353 + (49 + l * 48 + c))))
theorem call_rng {P : Pg} (hP : okP P) {c : Int} (h : isCall P c) : (0 ≤ c ∧ c < 48) ∧ (0 ≤ nn P c ∧ nn P c ≤ 3) := by
  have h1 := tot_rng hP.1
  have h2 := (hP.2.1 c h.1 h.2.1).2.1.2.2
  exact ⟨⟨h.1, by have := h.2.1; omega⟩, h2⟩
theorem VE_key {P : Pg} (hP : okP P) {lim e : Int} (h : VE P lim e) : (0 ≤ e ∧ e < 9412) ∧ (e % 2353 = 0 ∨ ((1 ≤ e % 2353 ∧ e % 2353 < 49 ∧ isCall P (e % 2353 - 1)) ∨ (49 ≤ e % 2353 ∧ isCall P ((e % 2353 - 49) / 48) ∧ isCall P ((e % 2353 - 49) % 48)))) := by
  rcases h with rfl | ⟨c, hc, h⟩
  · exact ⟨by omega, Or.inl rfl⟩
  · have h1 := call_rng hP hc
    rcases h with ⟨_, rfl⟩ | ⟨_, rfl⟩ | ⟨_, l, hl, rfl⟩
    · exact ⟨by omega, Or.inl (by omega)⟩
    · refine ⟨by omega, Or.inr (Or.inl ?_)⟩
      rw [show (nn P c * 2353 + (1 + c)) % 2353 = 1 + c by omega]
      exact ⟨by omega, by omega, by rw [show 1 + c - 1 = c by omega]; exact hc⟩
    · have h2 := call_rng hP hl
      refine ⟨by omega, Or.inr (Or.inr ?_)⟩
      rw [show (nn P c * 2353 + (49 + l * 48 + c)) % 2353 = 49 + l * 48 + c by omega]
      refine ⟨by omega, ?_, ?_⟩
      · rw [show (49 + l * 48 + c - 49) / 48 = l by omega]; exact hl
      · rw [show (49 + l * 48 + c - 49) % 48 = c by omega]; exact hc
theorem lst_call {P : Pg} (hP : okP P) {lim e : Int} (h : VE P lim e) (hk : e % 2353 ≠ 0) : isCall P (lst (e % 2353)) := by
  obtain ⟨-, h0 | ⟨h1, h2, h3⟩ | ⟨h1, -, h3⟩⟩ := VE_key hP h
  · exact absurd h0 hk
  · unfold lst; rw [if_neg (by omega)]; exact h3
  · unfold lst; rw [if_pos h1]; exact h3
theorem VE_step {P : Pg} (hP : okP P) {lim a b : Int} (ha : VE P lim a) (h : stepC P lim a b) : VE P lim b := by
  obtain ⟨c, hc, -, rfl⟩ := h
  refine Or.inr ⟨c, hc, ?_⟩
  unfold ext
  by_cases h0 : lim = 0
  · rw [if_pos h0]; exact Or.inl ⟨h0, by omega⟩
  · rw [if_neg h0]
    by_cases h1 : lim = 1 ∨ a % 2353 = 0
    · rw [if_pos h1]; exact Or.inr (Or.inl ⟨h0, rfl⟩)
    · rw [if_neg h1]
      exact Or.inr (Or.inr ⟨h0, lst (a % 2353), lst_call hP ha (fun g => h1 (Or.inr g)), rfl⟩)
theorem RS_VE {P : Pg} (hP : okP P) {lim e : Int} (h : RS P lim e) : VE P lim e := h (VE P lim) (Or.inl rfl) (fun _ _ ha hs => VE_step hP ha hs)
theorem RS_rng {P : Pg} (hP : okP P) {lim e : Int} (h : RS P lim e) : 0 ≤ e ∧ e < 9412 := (VE_key hP (RS_VE hP h)).1
/-- how many calls before a statement -/
def co (P : Pg) (c : Int) : Int := cn (fun m => kd P m == 6) c.toNat
theorem co_lt {P : Pg} {c d : Int} (hc : isCall P c) (h : c < d) : co P c < co P d := by
  unfold co
  have h0 := hc.1
  have e : cn (fun m => kd P m == 6) (c.toNat + 1) = cn (fun m => kd P m == 6) c.toNat + 1 := by
    rw [cn_succ, if_pos]
    have : ((c.toNat : Nat) : Int) = c := by omega
    rw [this, beq_iff_eq]; exact hc.2.2
  have := cn_mono (fun m => kd P m == 6) (m := c.toNat + 1) (n := d.toNat) (by omega)
  omega
theorem co_inj {P : Pg} {c d : Int} (hc : isCall P c) (hd : isCall P d) (h : co P c = co P d) : c = d := by
  rcases Int.lt_trichotomy c d with g | g | g
  · have := co_lt hc g; omega
  · exact g
  · have := co_lt hd g; omega
theorem mny_all6 {P : Pg} (h : okZ P) (q : Int) : mny P q (-1) = cn (fun m => kd P m == q) (tot P).toNat := by
  unfold mny
  apply cn_congr
  intro m h0 h1
  have := tot_rng h
  obtain ⟨h2, -⟩ := own_spec h h0 (by omega)
  have : (own P m != -1) = true := by simp; omega
  rw [this, Bool.true_and]
theorem co_rng {P : Pg} (hP : okP P) {c : Int} (hc : isCall P c) : 0 ≤ co P c ∧ co P c < 5 := by
  have h1 := co_lt hc (d := tot P) hc.2.1
  have h2 : co P (tot P) = mny P 6 (-1) := by rw [mny_all6 hP.1]; rfl
  have h3 := hP.2.2.2
  have h4 := cn_rng (fun m => kd P m == 6) c.toNat
  unfold co at *; omega
def cix (P : Pg) (e : Int) : Int := if e % 2353 = 0 then e / 2353 else if e % 2353 < 49 then 1 + co P (e % 2353 - 1) else 6 + 5 * co P ((e % 2353 - 49) / 48) + co P ((e % 2353 - 49) % 48)
theorem cix_rng {P : Pg} (hP : okP P) {lim e : Int} (h : VE P lim e) : 0 ≤ cix P e ∧ cix P e < 31 := by
  obtain ⟨h0, h1 | ⟨h1, h2, h3⟩ | ⟨h1, h2, h3⟩⟩ := VE_key hP h
  · unfold cix; rw [if_pos h1]; omega
  · have := co_rng hP h3
    unfold cix; rw [if_neg (by omega), if_pos h2]; omega
  · have g2 := co_rng hP h2
    have g3 := co_rng hP h3
    unfold cix; rw [if_neg (by omega), if_neg (by omega)]; omega
/-- a context, by what its key says -/
theorem VE_cases {P : Pg} (hP : okP P) {lim e : Int} (h : VE P lim e) :
    (e % 2353 = 0 ∧ (lim = 0 ∨ e = 0)) ∨ (lim ≠ 0 ∧ e % 2353 ≠ 0 ∧ e / 2353 = nn P (lst (e % 2353))) := by
  rcases h with rfl | ⟨c, hc, h⟩
  · exact Or.inl ⟨rfl, Or.inr rfl⟩
  · have h1 := call_rng hP hc
    rcases h with ⟨h0, rfl⟩ | ⟨h0, rfl⟩ | ⟨h0, l, hl, rfl⟩
    · exact Or.inl ⟨by omega, Or.inl h0⟩
    · refine Or.inr ⟨h0, by omega, ?_⟩
      rw [show (nn P c * 2353 + (1 + c)) % 2353 = 1 + c by omega, show (nn P c * 2353 + (1 + c)) / 2353 = nn P c by omega]
      unfold lst; rw [if_neg (by omega), show 1 + c - 1 = c by omega]
    · have h2 := call_rng hP hl
      have e9 : (nn P c * 2353 + (49 + l * 48 + c)) % 2353 = 49 + l * 48 + c := by omega
      refine Or.inr ⟨h0, by rw [e9]; omega, ?_⟩
      rw [e9, show (nn P c * 2353 + (49 + l * 48 + c)) / 2353 = nn P c by omega]
      unfold lst; rw [if_pos (by omega), show (49 + l * 48 + c - 49) % 48 = c by omega]
theorem cix_inj {P : Pg} (hP : okP P) {lim a b : Int} (ha : VE P lim a) (hb : VE P lim b) (h : cix P a = cix P b) : a = b := by
  have ka := VE_key hP ha
  have kb := VE_key hP hb
  have ca := VE_cases hP ha
  have cb := VE_cases hP hb
  have key : a % 2353 = b % 2353 → a = b := fun g => by
    rcases ca with ⟨h1, h2⟩ | ⟨h1, h2, h3⟩
    · rcases cb with ⟨h4, h5⟩ | ⟨h4, h5, h6⟩
      · unfold cix at h; rw [if_pos h1, if_pos h4] at h; omega
      · omega
    · rcases cb with ⟨h4, h5⟩ | ⟨h4, h5, h6⟩
      · omega
      · rw [g] at h3; omega
  apply key
  obtain ⟨a0, a1 | ⟨a1, a2, a3⟩ | ⟨a1, a2, a3⟩⟩ := ka <;> obtain ⟨b0, b1 | ⟨b1, b2, b3⟩ | ⟨b1, b2, b3⟩⟩ := kb
  · omega
  · have := co_rng hP b3
    rcases ca with ⟨_, h2⟩ | ⟨_, h2, _⟩
    · rcases cb with ⟨h4, _⟩ | ⟨h4, _, _⟩
      · omega
      · unfold cix at h; rw [if_pos a1, if_neg (by omega), if_pos b2] at h; omega
    · omega
  · have := co_rng hP b3
    have := co_rng hP b2
    rcases ca with ⟨_, h2⟩ | ⟨_, h2, _⟩
    · rcases cb with ⟨h4, _⟩ | ⟨h4, _, _⟩
      · omega
      · unfold cix at h; rw [if_pos a1, if_neg (by omega), if_neg (by omega)] at h; omega
    · omega
  · have := co_rng hP a3
    rcases cb with ⟨_, h2⟩ | ⟨_, h2, _⟩
    · rcases ca with ⟨h4, _⟩ | ⟨h4, _, _⟩
      · omega
      · unfold cix at h; rw [if_pos b1, if_neg (by omega), if_pos a2] at h; omega
    · omega
  · unfold cix at h; rw [if_neg (by omega), if_pos a2, if_neg (by omega), if_pos b2] at h
    have := co_inj a3 b3 (by omega)
    omega
  · have g1 := co_rng hP a3
    have g2 := co_rng hP b2
    have g3 := co_rng hP b3
    unfold cix at h; rw [if_neg (by omega), if_pos a2, if_neg (by omega), if_neg (by omega)] at h
    omega
  · have := co_rng hP a3
    have := co_rng hP a2
    rcases cb with ⟨_, h2⟩ | ⟨_, h2, _⟩
    · rcases ca with ⟨h4, _⟩ | ⟨h4, _, _⟩
      · omega
      · unfold cix at h; rw [if_pos b1, if_neg (by omega), if_neg (by omega)] at h; omega
    · omega
  · have g1 := co_rng hP b3
    have g2 := co_rng hP a2
    have g3 := co_rng hP a3
    unfold cix at h; rw [if_neg (by omega), if_neg (by omega), if_neg (by omega), if_pos b2] at h
    omega
  · have g1 := co_rng hP b3
    have g2 := co_rng hP a2
    have g3 := co_rng hP a3
    have g4 := co_rng hP b2
    unfold cix at h; rw [if_neg (by omega), if_neg (by omega), if_neg (by omega), if_neg (by omega)] at h
    have e1 := co_inj a2 b2 (by omega)
    have e2 := co_inj a3 b3 (by omega)
    omega
/-! lists of ints -/
theorem pig : ∀ (n : Nat) (xs : List Int), xs.Nodup → (∀ x ∈ xs, 0 ≤ x ∧ x < n) → xs.length ≤ n
  | 0, [], _, _ => Nat.le_refl 0
  | 0, x :: _, _, h => by have := h x List.mem_cons_self; omega
  | n + 1, xs, hd, h => by
    by_cases hm : (n : Int) ∈ xs
    · have h1 := pig n (xs.erase n) (hd.erase _) (fun x hx => by
        have h2 := (hd.mem_erase_iff).mp hx
        have h3 := h x h2.2
        have : x ≠ (n : Int) := h2.1
        omega)
      rw [List.length_erase_of_mem hm] at h1
      omega
    · have h1 := pig n xs hd (fun x hx => by
        have h3 := h x hx
        have : x ≠ (n : Int) := fun e => hm (e ▸ hx)
        omega)
      omega
theorem cx_len {P : Pg} (hP : okP P) {lim : Int} {xs : List Int} (hd : xs.Nodup) (h : ∀ e ∈ xs, RS P lim e) : xs.length ≤ 31 := by
  have h1 := pig 31 (xs.map (cix P)) (by
    unfold List.Nodup
    rw [List.pairwise_map]
    refine List.Pairwise.imp_of_mem (fun {a b} ha hb hne e => hne (cix_inj hP (RS_VE hP (h a ha)) (RS_VE hP (h b hb)) e)) hd) (fun x hx => by
    obtain ⟨e, he, rfl⟩ := List.mem_map.mp hx
    exact cix_rng hP (RS_VE hP (h e he)))
  rw [List.length_map] at h1
  exact h1
/-- strictly ascending lists with the same members are the same -/
theorem asc_eq : ∀ {xs ys : List Int}, xs.Pairwise (· < ·) → ys.Pairwise (· < ·) → (∀ e, e ∈ xs ↔ e ∈ ys) → xs = ys
  | [], [], _, _, _ => rfl
  | [], y :: ys, _, _, h => absurd ((h y).mpr List.mem_cons_self) (List.not_mem_nil)
  | x :: xs, [], _, _, h => absurd ((h x).mp List.mem_cons_self) (List.not_mem_nil)
  | x :: xs, y :: ys, hx, hy, h => by
    rw [List.pairwise_cons] at hx hy
    have e : x = y := by
      rcases List.mem_cons.mp ((h x).mp List.mem_cons_self) with g | g
      · exact g
      · rcases List.mem_cons.mp ((h y).mpr List.mem_cons_self) with g2 | g2
        · exact g2.symm
        · have := hy.1 x g; have := hx.1 y g2; omega
    subst e
    have : xs = ys := asc_eq hx.2 hy.2 (fun e => by
      constructor
      · intro he
        rcases List.mem_cons.mp ((h e).mp (List.mem_cons_of_mem _ he)) with g | g
        · have := hx.1 e he; omega
        · exact g
      · intro he
        rcases List.mem_cons.mp ((h e).mpr (List.mem_cons_of_mem _ he)) with g | g
        · have := hy.1 e he; omega
        · exact g)
    rw [this]
def isC (P : Pg) (lim : Int) (xs : List Int) : Prop := xs.Pairwise (· < ·) ∧ ∀ e, e ∈ xs ↔ RS P lim e
theorem isC_eq {P : Pg} {lim : Int} {xs ys : List Int} (hx : isC P lim xs) (hy : isC P lim ys) : xs = ys := asc_eq hx.1 hy.1 (fun e => (hx.2 e).trans (hy.2 e).symm)
theorem asc_nd {xs : List Int} (h : xs.Pairwise (· < ·)) : xs.Nodup := List.Pairwise.imp (fun {a b} (g : a < b) e => by omega) h
theorem isC_len {P : Pg} (hP : okP P) {lim : Int} {xs : List Int} (h : isC P lim xs) : xs.length ≤ 31 := cx_len hP (asc_nd h.1) (fun e he => (h.2 e).mp he)
/-- the law's code of a key -/
def cod (k : Int) : Int := if k = 0 then 0 else if k < 49 then 10000 + (k - 1) else 20000 + (k - 49) / 48 * 100 + (k - 49) % 48
theorem cod_0 : cod 0 = 0 := rfl
theorem cod_s {k : Int} (h0 : k ≠ 0) (h1 : k < 49) : cod k = 10000 + (k - 1) := by unfold cod; rw [if_neg h0, if_pos h1]
theorem cod_p {k : Int} (h1 : 49 ≤ k) : cod k = 20000 + (k - 49) / 48 * 100 + (k - 49) % 48 := by unfold cod; rw [if_neg (by omega), if_neg (by omega)]
theorem cod_lt {j k : Int} (h0 : 0 ≤ j) (h1 : j < k) (h2 : k < 2353) : cod j < cod k := by
  by_cases a : j = 0
  · subst a
    rw [cod_0]
    by_cases b : k < 49
    · rw [cod_s (by omega) b]; omega
    · rw [cod_p (by omega)]; omega
  · by_cases b : k < 49
    · rw [cod_s (by omega) b, cod_s a (by omega)]; omega
    · rw [cod_p (k := k) (by omega)]
      by_cases c : j < 49
      · rw [cod_s a c]; omega
      · rw [cod_p (by omega)]; omega
theorem cod_ext {k c lim : Int} (h0 : 0 ≤ k) (h1 : k < 2353) (c0 : 0 ≤ c) (c1 : c < 48) : cod (ext lim k c) = if lim = 0 then 0 else if lim = 1 ∨ cod k = 0 then 10000 + c else 20000 + cod k % 100 * 100 + c := by
  have e0 : cod k = 0 ↔ k = 0 := by
    unfold cod
    by_cases a : k = 0
    · simp [a]
    · rw [if_neg a]; split <;> omega
  unfold ext
  by_cases l0 : lim = 0
  · rw [if_pos l0, if_pos l0]; rfl
  · rw [if_neg l0, if_neg l0]
    by_cases l1 : lim = 1 ∨ k = 0
    · rw [if_pos l1, if_pos (by rw [e0]; exact l1)]
      unfold cod; rw [if_neg (by omega), if_pos (by omega)]; omega
    · rw [if_neg l1, if_neg (by rw [e0]; exact l1)]
      have hk : k ≠ 0 := fun g => l1 (Or.inr g)
      have hl : cod k % 100 = lst k := by
        unfold cod lst
        rw [if_neg hk]
        by_cases b : k < 49
        · rw [if_pos b, if_neg (by omega)]; omega
        · rw [if_neg b, if_pos (by omega)]; omega
      rw [hl]
      have : 0 ≤ lst k ∧ lst k < 48 := by unfold lst; split <;> omega
      rw [show cod (49 + lst k * 48 + c) = 20000 + (49 + lst k * 48 + c - 49) / 48 * 100 + (49 + lst k * 48 + c - 49) % 48 by
        unfold cod; rw [if_neg (by omega), if_neg (by omega)]]
      omega

/-! closing a graph -/
def TC (E : Int → Int → Prop) (a b : Int) : Prop := ∀ X : Int → Int → Prop, (∀ a b, E a b → X a b) → (∀ a b c, X a b → X b c → X a c) → X a b
theorem TC_base {E : Int → Int → Prop} {a b : Int} (h : E a b) : TC E a b := fun _ h1 _ => h1 a b h
theorem TC_trans {E : Int → Int → Prop} {a b c : Int} (h : TC E a b) (g : TC E b c) : TC E a c := fun X h1 h2 => h2 a b c (h X h1 h2) (g X h1 h2)
/-- what is closed under the edges holds all that is reached -/
theorem TC_sub {E : Int → Int → Prop} {v t : Int} {S : Int → Prop} (h : TC E v t) (h1 : ∀ t, E v t → S t) (h2 : ∀ a b, S a → E a b → S b) : S t :=
  h (fun a b => (a = v ∨ S a) → S b) (fun a b e g => by
    rcases g with rfl | g
    · exact h1 b e
    · exact h2 a b g e) (fun a b c x y g => y (Or.inr (x g))) (Or.inl rfl)
theorem TC_mono {E F : Int → Int → Prop} (h : ∀ a b, E a b → F a b) {a b : Int} (g : TC E a b) : TC F a b := g (TC F) (fun a b e => TC_base (h a b e)) (fun _ _ _ x y => TC_trans x y)
theorem TC_iff {E F : Int → Int → Prop} (h : ∀ a b, E a b ↔ F a b) {a b : Int} : TC E a b ↔ TC F a b := ⟨TC_mono (fun a b => (h a b).mp), TC_mono (fun a b => (h a b).mpr)⟩
/-- one middle more -/
theorem ws_step {R R' : Int → Int → Prop} {m : Int} (hR : ∀ a b, R' a b ↔ (R a b ∨ (R a m ∧ R m b))) (h : ∀ k, 0 ≤ k → k < m → ∀ a b, R a k → R k b → R a b) : ∀ k, 0 ≤ k → k < m + 1 → ∀ a b, R' a k → R' k b → R' a b := by
  intro k h0 h1 a b ha hb
  rw [hR] at ha hb ⊢
  by_cases hk : k = m
  · subst hk
    have ha2 : R a k := by rcases ha with g | ⟨g, -⟩ <;> exact g
    have hb2 : R k b := by rcases hb with g | ⟨-, g⟩ <;> exact g
    exact Or.inr ⟨ha2, hb2⟩
  · have hk2 : k < m := by omega
    rcases ha with ha | ⟨ha1, ha2⟩
    · rcases hb with hb | ⟨hb1, hb2⟩
      · exact Or.inl (h k h0 hk2 a b ha hb)
      · exact Or.inr ⟨h k h0 hk2 a m ha hb1, hb2⟩
    · rcases hb with hb | ⟨hb1, hb2⟩
      · exact Or.inr ⟨ha1, h k h0 hk2 m b ha2 hb⟩
      · exact Or.inr ⟨ha1, hb2⟩
/-! terms T(T(..x)), congruence -/
abbrev Tm : Type := Int × Nat
def tU (a : Tm) : Tm := (a.1, a.2 + 1)
def cg (Eq : Tm → Tm → Prop) (a b : Tm) : Prop := ∀ R : Tm → Tm → Prop, (∀ x, R x x) → (∀ x y, R x y → R y x) → (∀ x y z, R x y → R y z → R x z) → (∀ x y, R x y → R (tU x) (tU y)) → (∀ x y, Eq x y → R x y) → R a b
theorem cg_refl {Eq : Tm → Tm → Prop} (a : Tm) : cg Eq a a := fun _ h _ _ _ _ => h a
theorem cg_symm {Eq : Tm → Tm → Prop} {a b : Tm} (h : cg Eq a b) : cg Eq b a := fun R h1 h2 h3 h4 h5 => h2 a b (h R h1 h2 h3 h4 h5)
theorem cg_trans {Eq : Tm → Tm → Prop} {a b c : Tm} (h : cg Eq a b) (g : cg Eq b c) : cg Eq a c := fun R h1 h2 h3 h4 h5 => h3 a b c (h R h1 h2 h3 h4 h5) (g R h1 h2 h3 h4 h5)
theorem cg_U {Eq : Tm → Tm → Prop} {a b : Tm} (h : cg Eq a b) : cg Eq (tU a) (tU b) := fun R h1 h2 h3 h4 h5 => h4 a b (h R h1 h2 h3 h4 h5)
theorem cg_eq {Eq : Tm → Tm → Prop} {a b : Tm} (h : Eq a b) : cg Eq a b := fun _ _ _ _ _ h5 => h5 a b h
theorem cg_mono {E F : Tm → Tm → Prop} (h : ∀ a b, E a b → cg F a b) {a b : Tm} (g : cg E a b) : cg F a b :=
  g (cg F) (fun _ => cg_refl _) (fun _ _ => cg_symm) (fun _ _ _ => cg_trans) (fun _ _ => cg_U) h
/-- what a term stands for: a root, and how often T stands before it -/
def dU (ρ π : Int → Int) (d : Int × Nat) : Int × Nat := if d.2 = 0 then (if π d.1 = -1 then (d.1, 1) else (ρ (π d.1), 0)) else (d.1, d.2 + 1)
def den (ρ π : Int → Int) (x : Int) : Nat → Int × Nat
  | 0 => (ρ x, 0)
  | n + 1 => dU ρ π (den ρ π x n)
def dn (ρ π : Int → Int) (a : Tm) : Int × Nat := den ρ π a.1 a.2
theorem dn_U (ρ π : Int → Int) (a : Tm) : dn ρ π (tU a) = dU ρ π (dn ρ π a) := rfl
theorem dn_cg {ρ π : Int → Int} {Eq : Tm → Tm → Prop} (h : ∀ a b, Eq a b → dn ρ π a = dn ρ π b) {a b : Tm} (g : cg Eq a b) : dn ρ π a = dn ρ π b :=
  g (fun a b => dn ρ π a = dn ρ π b) (fun _ => rfl) (fun _ _ h => h.symm) (fun _ _ _ h k => h.trans k) (fun x y h => by rw [dn_U, dn_U, h]) h
/-- roots and pointees, N nodes, tm the nodes' terms -/
def UR (N : Int) (ρ π : Int → Int) : Prop := ∀ k, 0 ≤ k → k < N → ((0 ≤ ρ k ∧ ρ k < N) ∧ ρ (ρ k) = ρ k) ∧ (ρ k = k → π k = -1 ∨ (0 ≤ π k ∧ π k < N))
def USnd (N : Int) (ρ π : Int → Int) (tm : Int → Tm) (Eq : Tm → Tm → Prop) : Prop := ∀ k, 0 ≤ k → k < N → cg Eq (tm k) (tm (ρ k)) ∧ (ρ k = k → π k ≠ -1 → cg Eq (tU (tm k)) (tm (π k)))
def UC (N : Int) (ρ π : Int → Int) (tm : Int → Tm) (Eq : Tm → Tm → Prop) : Prop := (∀ a b, Eq a b → dn ρ π a = dn ρ π b) ∧ (∀ k, 0 ≤ k → k < N → dn ρ π (tm k) = (ρ k, 0))
def US (N : Int) (ρ π : Int → Int) (tm : Int → Tm) (Eq : Tm → Tm → Prop) : Prop := UR N ρ π ∧ (USnd N ρ π tm Eq ∧ (UC N ρ π tm Eq ∧ (∀ k, 0 ≤ k → k < N → ((tm k).1 ≥ 0 ∧ (tm k).1 < N))))
theorem US_iff {N : Int} {ρ π : Int → Int} {tm : Int → Tm} {Eq : Tm → Tm → Prop} (h : US N ρ π tm Eq) {a b : Int} (a0 : 0 ≤ a) (a1 : a < N) (b0 : 0 ≤ b) (b1 : b < N) : ρ a = ρ b ↔ cg Eq (tm a) (tm b) := by
  constructor
  · intro e
    have h1 := (h.2.1 a a0 a1).1
    have h2 := (h.2.1 b b0 b1).1
    rw [e] at h1
    exact cg_trans h1 (cg_symm h2)
  · intro g
    have := dn_cg h.2.2.1.1 g
    rw [h.2.2.1.2 a a0 a1, h.2.2.1.2 b b0 b1] at this
    exact congrArg Prod.fst this
theorem US_eqv {N : Int} {ρ π : Int → Int} {tm : Int → Tm} {E F : Tm → Tm → Prop} (h : US N ρ π tm E) (h1 : ∀ a b, E a b → cg F a b) (h2 : ∀ a b, F a b → cg E a b) : US N ρ π tm F :=
  ⟨h.1, fun k k0 k1 => ⟨cg_mono h1 (h.2.1 k k0 k1).1, fun e n => cg_mono h1 ((h.2.1 k k0 k1).2 e n)⟩, ⟨fun a b g => dn_cg h.2.2.1.1 (h2 a b g), h.2.2.1.2⟩, h.2.2.2⟩
/-- from one state to another that joins more -/
def Hom (N : Int) (ρ π ρ' π' : Int → Int) : Prop := (∀ k, 0 ≤ k → k < N → ρ' (ρ k) = ρ' k) ∧ (∀ k, 0 ≤ k → k < N → ρ k = k → π k ≠ -1 → π' (ρ' k) ≠ -1 ∧ ρ' (π' (ρ' k)) = ρ' (π k))
def hmm (ρ' π' : Int → Int) (r : Int) : Nat → Int × Nat
  | 0 => (ρ' r, 0)
  | n + 1 => dU ρ' π' (hmm ρ' π' r n)
theorem hom_dn {N : Int} {ρ π ρ' π' : Int → Int} (hU : UR N ρ π) (h : Hom N ρ π ρ' π') {x : Int} (x0 : 0 ≤ x) (x1 : x < N) : ∀ n, (0 ≤ (den ρ π x n).1 ∧ (den ρ π x n).1 < N ∧ ρ (den ρ π x n).1 = (den ρ π x n).1) ∧ den ρ' π' x n = hmm ρ' π' (den ρ π x n).1 (den ρ π x n).2
  | 0 => by
    have h1 := (hU x x0 x1).1
    refine ⟨⟨h1.1.1, h1.1.2, h1.2⟩, ?_⟩
    show (ρ' x, 0) = (ρ' (ρ x), 0)
    rw [h.1 x x0 x1]
  | n + 1 => by
    obtain ⟨⟨g0, g1, g2⟩, g3⟩ := hom_dn hU h x0 x1 n
    have e1 : den ρ π x (n + 1) = dU ρ π (den ρ π x n) := rfl
    have e2 : den ρ' π' x (n + 1) = dU ρ' π' (den ρ' π' x n) := rfl
    rw [e1, e2, g3]
    generalize den ρ π x n = d at g0 g1 g2 g3 ⊢
    obtain ⟨r, m⟩ := d
    cases m with
    | succ m => exact ⟨⟨g0, g1, g2⟩, rfl⟩
    | zero =>
      by_cases hp : π r = -1
      · have e : dU ρ π (r, 0) = (r, 1) := by unfold dU; rw [if_pos rfl, if_pos hp]
        rw [e]
        exact ⟨⟨g0, g1, g2⟩, rfl⟩
      · have e : dU ρ π (r, 0) = (ρ (π r), 0) := by unfold dU; rw [if_pos rfl, if_neg hp]
        rw [e]
        have hr := hU r g0 g1
        have hq : 0 ≤ π r ∧ π r < N := by
          rcases hr.2 g2 with q | q
          · exact absurd q hp
          · exact q
        have h1 := (hU (π r) hq.1 hq.2).1
        refine ⟨⟨h1.1.1, h1.1.2, h1.2⟩, ?_⟩
        obtain ⟨k1, k2⟩ := h.2 r g0 g1 g2 hp
        show dU ρ' π' (ρ' r, 0) = (ρ' (ρ (π r)), 0)
        unfold dU
        rw [if_pos rfl, if_neg k1, k2, h.1 (π r) hq.1 hq.2]
theorem hom_eq {N : Int} {ρ π ρ' π' : Int → Int} (hU : UR N ρ π) (h : Hom N ρ π ρ' π') {a b : Tm} (ha : a.1 ≥ 0 ∧ a.1 < N) (hb : b.1 ≥ 0 ∧ b.1 < N) (e : dn ρ π a = dn ρ π b) : dn ρ' π' a = dn ρ' π' b := by
  have h1 := (hom_dn hU h ha.1 ha.2 a.2).2
  have h2 := (hom_dn hU h hb.1 hb.2 b.2).2
  unfold dn at *
  rw [h1, h2, e]
/-- the join's state: (p, q) are still to be joined -/
def smj (ρ : Int → Int) (p q x y : Int) : Prop := ρ x = ρ y ∨ (ρ x = ρ p ∧ ρ y = ρ q) ∨ (ρ x = ρ q ∧ ρ y = ρ p)
def JI (N : Int) (ρ0 π0 : Int → Int) (a b : Int) (tm : Int → Tm) (Eq : Tm → Tm → Prop) (ρ π : Int → Int) (p q : Int) : Prop :=
  UR N ρ π ∧ (USnd N ρ π tm Eq ∧ (((0 ≤ p ∧ p < N) ∧ (0 ≤ q ∧ q < N)) ∧ (cg Eq (tm p) (tm q) ∧ ((∀ k, 0 ≤ k → k < N → ρ (ρ0 k) = ρ k) ∧ ((∀ k, 0 ≤ k → k < N → ρ0 k = k → π0 k ≠ -1 → π (ρ k) ≠ -1 ∧ smj ρ p q (π (ρ k)) (π0 k)) ∧ smj ρ p q a b)))))
def jρ (ρ : Int → Int) (x y : Int) : Int → Int := fun k => if ρ k = y then x else ρ k
def jπ (π : Int → Int) (x y : Int) : Int → Int := fun k => if k = x then (if π x = -1 then π y else π x) else π k
theorem JI_0 {N : Int} {ρ π : Int → Int} {tm : Int → Tm} {Eq : Tm → Tm → Prop} (h : US N ρ π tm Eq) {a b : Int} (ha : 0 ≤ a ∧ a < N) (hb : 0 ≤ b ∧ b < N) : JI N ρ π a b tm (fun s t => Eq s t ∨ (s = tm a ∧ t = tm b)) ρ π a b := by
  have hm : ∀ s t, cg Eq s t → cg (fun s t => Eq s t ∨ (s = tm a ∧ t = tm b)) s t := fun s t g => cg_mono (fun _ _ e => cg_eq (Or.inl e)) g
  refine ⟨h.1, fun k k0 k1 => ⟨hm _ _ (h.2.1 k k0 k1).1, fun e n => hm _ _ ((h.2.1 k k0 k1).2 e n)⟩, ⟨ha, hb⟩, cg_eq (Or.inr ⟨rfl, rfl⟩), fun k k0 k1 => (h.1 k k0 k1).1.2, fun k k0 k1 e n => ?_, Or.inr (Or.inl ⟨rfl, rfl⟩)⟩
  rw [e]; exact ⟨n, Or.inl rfl⟩
/-- one link of the join: y under x; what is still to be joined, if anything -/
theorem JI_step {N : Int} {ρ0 π0 : Int → Int} {a b : Int} {tm : Int → Tm} {Eq : Tm → Tm → Prop} {ρ π : Int → Int} {p q x y : Int} (hx : x = ρ p) (hy : y = ρ q) (hne : x ≠ y)
    (h : JI N ρ0 π0 a b tm Eq ρ π p q) :
    ((π x = -1 ∨ π y = -1) → ∀ z, 0 ≤ z → z < N → JI N ρ0 π0 a b tm Eq (jρ ρ x y) (jπ π x y) z z) ∧
    (π x ≠ -1 → π y ≠ -1 → JI N ρ0 π0 a b tm Eq (jρ ρ x y) (jπ π x y) (π x) (π y)) := by
  obtain ⟨h1, h2, ⟨hp, hq⟩, h3, h4, h5, h6⟩ := h
  have rp := (h1 p hp.1 hp.2).1
  have rq := (h1 q hq.1 hq.2).1
  rw [← hx] at rp
  rw [← hy] at rq
  have gx : jρ ρ x y x = x := by unfold jρ; rw [rp.2, if_neg hne]
  have gy : jρ ρ x y y = x := by unfold jρ; rw [rq.2, if_pos rfl]
  have gρ : ∀ k, 0 ≤ k → k < N → (0 ≤ jρ ρ x y k ∧ jρ ρ x y k < N) ∧ jρ ρ x y (jρ ρ x y k) = jρ ρ x y k := fun k k0 k1 => by
    by_cases c : ρ k = y
    · have e : jρ ρ x y k = x := if_pos c
      rw [e]; exact ⟨rp.1, gx⟩
    · have e : jρ ρ x y k = ρ k := if_neg c
      rw [e]; refine ⟨(h1 k k0 k1).1.1, ?_⟩
      show (if ρ (ρ k) = y then x else ρ (ρ k)) = ρ k
      rw [(h1 k k0 k1).1.2, if_neg c]
  have gs : ∀ s t, ρ s = ρ t → jρ ρ x y s = jρ ρ x y t := fun s t e => by unfold jρ; rw [e]
  have gsm : ∀ s t, smj ρ p q s t → jρ ρ x y s = jρ ρ x y t := fun s t e => by
    rcases e with e | ⟨e1, e2⟩ | ⟨e1, e2⟩
    · exact gs s t e
    · unfold jρ; rw [e1, e2, ← hx, ← hy, if_neg hne, if_pos rfl]
    · unfold jρ; rw [e1, e2, ← hx, ← hy, if_neg hne, if_pos rfl]
  have cxy : cg Eq (tm x) (tm y) := by
    have e1 := (h2 p hp.1 hp.2).1
    have e2 := (h2 q hq.1 hq.2).1
    rw [← hx] at e1
    rw [← hy] at e2
    exact cg_trans (cg_symm e1) (cg_trans h3 e2)
  have π_rng : ∀ r, 0 ≤ r → r < N → ρ r = r → π r ≠ -1 → 0 ≤ π r ∧ π r < N := fun r r0 r1 e n => by
    rcases (h1 r r0 r1).2 e with g | g
    · exact absurd g n
    · exact g
  have c1 : UR N (jρ ρ x y) (jπ π x y) := fun k k0 k1 => by
    refine ⟨gρ k k0 k1, fun e => ?_⟩
    have hk : ρ k = k := by
      by_cases c : ρ k = y
      · have e2 : jρ ρ x y k = x := if_pos c
        rw [e2] at e; rw [← e]; exact rp.2
      · have e2 : jρ ρ x y k = ρ k := if_neg c
        rw [e2] at e; exact e
    show (if k = x then (if π x = -1 then π y else π x) else π k) = -1 ∨ _
    by_cases c : k = x
    · have e3 : jπ π x y k = if π x = -1 then π y else π x := if_pos c
      rw [e3]
      by_cases c2 : π x = -1
      · rw [if_pos c2]; rw [if_pos c]; exact (h1 y rq.1.1 rq.1.2).2 rq.2
      · rw [if_neg c2]; rw [if_pos c]; exact (h1 x rp.1.1 rp.1.2).2 rp.2
    · have e3 : jπ π x y k = π k := if_neg c
      rw [e3, if_neg c]; exact (h1 k k0 k1).2 hk
  have c2 : USnd N (jρ ρ x y) (jπ π x y) tm Eq := fun k k0 k1 => by
    refine ⟨?_, fun e n => ?_⟩
    · by_cases c : ρ k = y
      · have e : jρ ρ x y k = x := if_pos c
        rw [e]
        have := (h2 k k0 k1).1
        rw [c] at this
        exact cg_trans this (cg_symm cxy)
      · have e : jρ ρ x y k = ρ k := if_neg c
        rw [e]; exact (h2 k k0 k1).1
    · have hk : ρ k = k := by
        by_cases c : ρ k = y
        · have e2 : jρ ρ x y k = x := if_pos c
          rw [e2] at e; rw [← e]; exact rp.2
        · have e2 : jρ ρ x y k = ρ k := if_neg c
          rw [e2] at e; exact e
      by_cases c : k = x
      · have e3 : jπ π x y k = if π x = -1 then π y else π x := if_pos c
        rw [e3] at n ⊢
        by_cases c2 : π x = -1
        · rw [if_pos c2] at n ⊢
          rw [c]
          exact cg_trans (cg_U cxy) ((h2 y rq.1.1 rq.1.2).2 rq.2 n)
        · rw [if_neg c2] at n ⊢
          rw [c]
          exact (h2 x rp.1.1 rp.1.2).2 rp.2 c2
      · have e3 : jπ π x y k = π k := if_neg c
        rw [e3] at n ⊢
        exact (h2 k k0 k1).2 hk n
  have c4 : ∀ k, 0 ≤ k → k < N → jρ ρ x y (ρ0 k) = jρ ρ x y k := fun k k0 k1 => gs _ _ (h4 k k0 k1)
  have ex : jπ π x y x = if π x = -1 then π y else π x := if_pos rfl
  -- the pointee of a joined class
  have c5 : ∀ k, 0 ≤ k → k < N → ρ0 k = k → π0 k ≠ -1 → jπ π x y (jρ ρ x y k) ≠ -1 ∧ (jρ ρ x y (jπ π x y (jρ ρ x y k)) = jρ ρ x y (π0 k) ∨ (π x ≠ -1 ∧ π y ≠ -1 ∧ jρ ρ x y (jπ π x y (jρ ρ x y k)) = jρ ρ x y (π x) ∧ jρ ρ x y (π0 k) = jρ ρ x y (π y))) := fun k k0 k1 e n => by
    obtain ⟨g1, g2⟩ := h5 k k0 k1 e n
    have g3 := gsm _ _ g2
    by_cases c : ρ k = y
    · have e1 : jρ ρ x y k = x := if_pos c
      rw [e1, ex]
      rw [c] at g1 g3
      by_cases c2 : π x = -1
      · rw [if_pos c2]; exact ⟨g1, Or.inl g3⟩
      · rw [if_neg c2]; exact ⟨c2, Or.inr ⟨c2, g1, rfl, g3.symm⟩⟩
    · have e1 : jρ ρ x y k = ρ k := if_neg c
      rw [e1]
      by_cases c3 : ρ k = x
      · rw [c3] at g1 g3 ⊢
        rw [ex, if_neg g1]; exact ⟨g1, Or.inl g3⟩
      · have e2 : jπ π x y (ρ k) = π (ρ k) := if_neg c3
        rw [e2]; exact ⟨g1, Or.inl g3⟩
  refine ⟨fun hn z z0 z1 => ⟨c1, c2, ⟨⟨z0, z1⟩, ⟨z0, z1⟩⟩, cg_refl _, c4, fun k k0 k1 e n => ?_, Or.inl (gsm _ _ h6)⟩, fun hpx hpy => ?_⟩
  · obtain ⟨g1, g2 | ⟨g2, g3, -⟩⟩ := c5 k k0 k1 e n
    · exact ⟨g1, Or.inl g2⟩
    · rcases hn with g | g
      · exact absurd g g2
      · exact absurd g g3
  · have b1 := π_rng x rp.1.1 rp.1.2 rp.2 hpx
    have b2 := π_rng y rq.1.1 rq.1.2 rq.2 hpy
    refine ⟨c1, c2, ⟨b1, b2⟩, cg_trans (cg_symm ((h2 x rp.1.1 rp.1.2).2 rp.2 hpx)) (cg_trans (cg_U cxy) ((h2 y rq.1.1 rq.1.2).2 rq.2 hpy)), c4, fun k k0 k1 e n => ?_, Or.inl (gsm _ _ h6)⟩
    obtain ⟨g1, g2 | ⟨-, -, g3, g4⟩⟩ := c5 k k0 k1 e n
    · exact ⟨g1, Or.inl g2⟩
    · exact ⟨g1, Or.inr (Or.inl ⟨g3, g4⟩)⟩
/-- the join is over -/
theorem JI_end {N : Int} {ρ0 π0 : Int → Int} {a b : Int} {tm : Int → Tm} {Eq : Tm → Tm → Prop} {ρ π : Int → Int} {p q : Int}
    (h0 : US N ρ0 π0 tm Eq) (hE : ∀ s t, Eq s t → (s.1 ≥ 0 ∧ s.1 < N) ∧ (t.1 ≥ 0 ∧ t.1 < N)) (ha : 0 ≤ a ∧ a < N) (hb : 0 ≤ b ∧ b < N)
    (h : JI N ρ0 π0 a b tm (fun s t => Eq s t ∨ (s = tm a ∧ t = tm b)) ρ π p q) (he : ρ p = ρ q) : US N ρ π tm (fun s t => Eq s t ∨ (s = tm a ∧ t = tm b)) := by
  obtain ⟨h1, h2, -, -, h4, h5, h6⟩ := h
  have hs : ∀ x y, smj ρ p q x y → ρ x = ρ y := fun x y g => by
    rcases g with g | ⟨g, g2⟩ | ⟨g, g2⟩
    · exact g
    · rw [g, g2, he]
    · rw [g, g2, he]
  have hh : Hom N ρ0 π0 ρ π := ⟨h4, fun k k0 k1 e n => ⟨(h5 k k0 k1 e n).1, hs _ _ (h5 k k0 k1 e n).2⟩⟩
  have hden : ∀ k, 0 ≤ k → k < N → dn ρ π (tm k) = (ρ k, 0) := fun k k0 k1 => by
    have e1 := (hom_dn h0.1 hh (h0.2.2.2 k k0 k1).1 (h0.2.2.2 k k0 k1).2 (tm k).2).2
    have e2 : den ρ0 π0 (tm k).1 (tm k).2 = (ρ0 k, 0) := h0.2.2.1.2 k k0 k1
    rw [e2] at e1
    show den ρ π (tm k).1 (tm k).2 = _
    rw [e1]
    show (ρ (ρ0 k), 0) = _
    rw [h4 k k0 k1]
  refine ⟨h1, h2, ⟨fun s t g => ?_, hden⟩, h0.2.2.2⟩
  rcases g with g | ⟨rfl, rfl⟩
  · exact hom_eq h0.1 hh (hE s t g).1 (hE s t g).2 (h0.2.2.1.1 s t g)
  · rw [hden a ha.1 ha.2, hden b hb.1 hb.2, hs a b h6]
/-! chains of parents -/
def itp (par : Int → Int) (k : Int) : Nat → Int
  | 0 => k
  | j + 1 => itp par (par k) j
theorem itp_root {par : Int → Int} {r : Int} (h : par r = r) : ∀ j, itp par r j = r
  | 0 => rfl
  | j + 1 => by show itp par (par r) j = r; rw [h]; exact itp_root h j
/-- ρ is the roots of the forest par; no chain is longer than u -/
def FO (N : Int) (par ρ : Int → Int) (u : Nat) : Prop := ∀ k, 0 ≤ k → k < N → (0 ≤ par k ∧ par k < N) ∧ ((0 ≤ ρ k ∧ ρ k < N) ∧ (par (ρ k) = ρ k ∧ ∃ j, j ≤ u ∧ itp par k j = ρ k))
def par' (par : Int → Int) (x y : Int) : Int → Int := fun k => if k = y then x else par k
theorem FO_root {N : Int} {par ρ : Int → Int} {u : Nat} (h : FO N par ρ u) {k : Int} (k0 : 0 ≤ k) (k1 : k < N) (e : par k = k) : ρ k = k := by
  obtain ⟨-, -, -, j, -, h4⟩ := h k k0 k1
  rw [itp_root e] at h4; exact h4.symm
theorem FO_par {N : Int} {par ρ : Int → Int} {u : Nat} (h : FO N par ρ u) {k : Int} (k0 : 0 ≤ k) (k1 : k < N) : ρ (par k) = ρ k := by
  obtain ⟨hp, -, h3, j, -, h4⟩ := h k k0 k1
  obtain ⟨-, -, h5, i, -, h6⟩ := h (par k) hp.1 hp.2
  have key : ∀ (j i : Nat) (k r s : Int), itp par k j = r → par r = r → itp par k i = s → par s = s → r = s := by
    intro j
    induction j with
    | zero => intro i k r s h1 h2 h3 h4; have h1 : k = r := h1; subst h1; rw [itp_root h2] at h3; exact h3
    | succ j ih =>
      intro i k r s h1 h2 h3 h4
      cases i with
      | zero => have h3 : k = s := h3; subst h3; rw [itp_root h4] at h1; exact h1.symm
      | succ i => exact ih i (par k) r s h1 h2 h3 h4
  cases j with
  | zero =>
    have h4 : k = ρ k := h4
    rw [← h4] at h3
    rw [h3]
  | succ j => exact (key j i (par k) _ _ h4 h3 h6 h5).symm
theorem FO_link {N : Int} {par ρ : Int → Int} {u : Nat} (h : FO N par ρ u) {x y : Int} (hx : (0 ≤ x ∧ x < N) ∧ par x = x) (hy : (0 ≤ y ∧ y < N) ∧ par y = y) (hne : x ≠ y) : FO N (par' par x y) (jρ ρ x y) (u + 1) := by
  have px : par' par x y x = x := by unfold par'; rw [if_neg hne]; exact hx.2
  have k1 : ∀ (j : Nat) (k : Int), itp par k j = y → ∃ i, i ≤ j + 1 ∧ itp (par' par x y) k i = x := by
    intro j
    induction j with
    | zero => intro k e; have e : k = y := e; subst e; exact ⟨1, Nat.le_refl _, by show par' par x k k = x; unfold par'; rw [if_pos rfl]⟩
    | succ j ih =>
      intro k e
      by_cases c : k = y
      · subst c; exact ⟨1, by omega, by show par' par x k k = x; unfold par'; rw [if_pos rfl]⟩
      · obtain ⟨i, hi, e2⟩ := ih (par k) e
        refine ⟨i + 1, by omega, ?_⟩
        show itp (par' par x y) (par' par x y k) i = x
        have e3 : par' par x y k = par k := if_neg c
        rw [e3]; exact e2
  have k2 : ∀ (j : Nat) (k r : Int), r ≠ y → itp par k j = r → itp (par' par x y) k j = r := by
    intro j
    induction j with
    | zero => intro k r _ e; exact e
    | succ j ih =>
      intro k r hr e
      have c : k ≠ y := fun c => by subst c; rw [itp_root hy.2] at e; exact hr e.symm
      show itp (par' par x y) (par' par x y k) j = r
      have e3 : par' par x y k = par k := if_neg c
      rw [e3]; exact ih (par k) r hr e
  intro k k0 kN
  obtain ⟨h1, h2, h3, j, hj, h4⟩ := h k k0 kN
  refine ⟨?_, ?_⟩
  · by_cases c : k = y
    · have e3 : par' par x y k = x := if_pos c
      rw [e3]; exact hx.1
    · have e3 : par' par x y k = par k := if_neg c
      rw [e3]; exact h1
  · by_cases c : ρ k = y
    · have e : jρ ρ x y k = x := if_pos c
      rw [e]
      rw [c] at h4
      obtain ⟨i, hi, e2⟩ := k1 j k h4
      exact ⟨hx.1, px, i, by omega, e2⟩
    · have e : jρ ρ x y k = ρ k := if_neg c
      rw [e]
      refine ⟨h2, ?_, j, by omega, k2 j k _ c h4⟩
      have e3 : par' par x y (ρ k) = par (ρ k) := if_neg c
      rw [e3]; exact h3
/-- how many roots -/
def nrt (par : Int → Int) (N : Nat) : Int := cn (fun k => par k == k) N
theorem nrt_link {par : Int → Int} {x y : Int} {N : Nat} (hy : 0 ≤ y ∧ y < N) (py : par y = y) (hne : x ≠ y) : nrt (par' par x y) N + 1 = nrt par N := by
  have key : ∀ n : Nat, nrt (par' par x y) n + (if y < n then 1 else 0) = nrt par n := by
    intro n
    induction n with
    | zero => rw [if_neg (by omega)]; rfl
    | succ n ih =>
      have e1 : nrt (par' par x y) (n + 1) = nrt (par' par x y) n + (if (par' par x y n == n) = true then 1 else 0) := rfl
      have e2 : nrt par (n + 1) = nrt par n + (if (par n == n) = true then 1 else 0) := rfl
      rw [e1, e2, ← ih]
      by_cases c : (n : Int) = y
      · have e3 : par' par x y n = x := if_pos c
        rw [e3]
        have e4 : (x == (n : Int)) = false := by rw [beq_eq_false_iff_ne, c]; exact hne
        have e5 : (par n == (n : Int)) = true := by rw [beq_iff_eq, c, py]
        rw [e4, e5, if_neg (show ¬ (false = true) by decide), if_pos (show true = true from rfl), if_neg (show ¬ (y < (n : Int)) by omega), if_pos (show y < ((n + 1 : Nat) : Int) by omega)]
      · have e3 : par' par x y n = par n := if_neg c
        rw [e3]
        by_cases c2 : y < n
        · rw [if_pos c2, if_pos (show y < ((n + 1 : Nat) : Int) by omega)]; omega
        · rw [if_neg c2, if_neg (show ¬ (y < ((n + 1 : Nat) : Int)) by omega)]; omega
  have := key N
  rw [if_pos hy.2] at this
  exact this
theorem nrt_pos {par : Int → Int} {r : Int} {N : Nat} (hr : 0 ≤ r ∧ r < N) (pr : par r = r) : 1 ≤ nrt par N := by
  have h1 := cn_mono (fun k => par k == k) (m := r.toNat + 1) (n := N) (by omega)
  have h2 := (cn_rng (fun k => par k == k) r.toNat).1
  rw [cn_succ, show ((r.toNat : Nat) : Int) = r by omega, pr] at h1
  unfold nrt
  simp at h1
  omega

/-! lists as arrays -/
def la (xs : List Int) (i : Int) : Int := xs.getD i.toNat 0
theorem la_lt {xs : List Int} {i : Int} (h1 : i.toNat < xs.length) : la xs i = xs[i.toNat] := by
  unfold la; rw [List.getD_eq_getElem?_getD, List.getElem?_eq_getElem h1]; rfl
theorem la_mem {xs : List Int} {i : Int} (h0 : 0 ≤ i) (h1 : i < xs.length) : la xs i ∈ xs := by
  rw [la_lt (by omega)]; exact List.getElem_mem _
theorem mem_la {xs : List Int} {w : Int} (h : w ∈ xs) : ∃ i : Int, 0 ≤ i ∧ i < xs.length ∧ la xs i = w := by
  obtain ⟨n, hn, e⟩ := List.mem_iff_getElem.mp h
  refine ⟨n, by omega, by omega, ?_⟩
  rw [la_lt (by simpa using hn)]
  simpa using e
theorem la_app_l {xs ys : List Int} {i : Int} (h0 : 0 ≤ i) (h1 : i < xs.length) : la (xs ++ ys) i = la xs i := by
  unfold la
  rw [List.getD_eq_getElem?_getD, List.getD_eq_getElem?_getD, List.getElem?_append_left (by omega)]
theorem la_app_r {xs ys : List Int} {i : Int} (h1 : (xs.length : Int) ≤ i) : la (xs ++ ys) i = la ys (i - xs.length) := by
  unfold la
  rw [List.getD_eq_getElem?_getD, List.getD_eq_getElem?_getD, List.getElem?_append_right (by omega)]
  congr 3; omega
theorem la_cons0 {x : Int} {xs : List Int} : la (x :: xs) 0 = x := rfl
theorem la_cons {x : Int} {xs : List Int} {i : Int} (h : 0 < i) : la (x :: xs) i = la xs (i - 1) := by
  unfold la
  rw [show i.toNat = (i - 1).toNat + 1 by omega]; rfl
theorem la_take {xs : List Int} {p : Nat} {i : Int} (h0 : 0 ≤ i) (h : i < p) : la (xs.take p) i = la xs i := by
  unfold la
  rw [List.getD_eq_getElem?_getD, List.getD_eq_getElem?_getD, List.getElem?_take_of_lt (by omega)]
theorem la_drop {xs : List Int} {p : Nat} {i : Int} (h0 : 0 ≤ i) : la (xs.drop p) i = la xs (i + p) := by
  unfold la
  rw [List.getD_eq_getElem?_getD, List.getD_eq_getElem?_getD, List.getElem?_drop]
  congr 3; omega
theorem asc_la {xs : List Int} (h : xs.Pairwise (· < ·)) {i j : Int} (h0 : 0 ≤ i) (h1 : i < j) (h2 : j < xs.length) : la xs i < la xs j := by
  rw [la_lt (by omega), la_lt (by omega)]
  exact (List.pairwise_iff_getElem.mp h) i.toNat j.toNat (by omega) (by omega) (by omega)
theorem la_asc {xs : List Int} (h : ∀ i j : Int, 0 ≤ i → i < j → j < xs.length → la xs i < la xs j) : xs.Pairwise (· < ·) := by
  rw [List.pairwise_iff_getElem]
  intro i j hi hj hij
  have := h i j (by omega) (by omega) (by omega)
  rw [la_lt (by simpa using hi), la_lt (by simpa using hj)] at this
  simpa using this
theorem nd_la {xs : List Int} (h : xs.Nodup) {i j : Int} (i0 : 0 ≤ i) (i1 : i < xs.length) (j0 : 0 ≤ j) (j1 : j < xs.length) (e : la xs i = la xs j) : i = j := by
  have key : ∀ a b : Int, 0 ≤ a → a < b → b < xs.length → la xs a ≠ la xs b := fun a b a0 ab b1 => by
    rw [la_lt (by omega), la_lt (by omega)]
    exact (List.pairwise_iff_getElem.mp h) a.toNat b.toNat (by omega) (by omega) (by omega)
  rcases Int.lt_trichotomy i j with g | g | g
  · exact absurd e (key i j i0 g j1)
  · exact g
  · exact absurd e.symm (key j i j0 g i1)
/-- put in at a place -/
def insA (p : Nat) (x : Int) (zs : List Int) : List Int := zs.take p ++ x :: zs.drop p
theorem insA_len {p : Nat} {x : Int} {zs : List Int} (h : p ≤ zs.length) : (insA p x zs).length = zs.length + 1 := by
  unfold insA; rw [List.length_append, List.length_cons, List.length_take, List.length_drop]; omega
theorem insA_la {p : Nat} {x : Int} {zs : List Int} (h : p ≤ zs.length) {i : Int} (i0 : 0 ≤ i) : la (insA p x zs) i = if i < p then la zs i else if i = p then x else la zs (i - 1) := by
  have hl : (zs.take p).length = p := by rw [List.length_take]; omega
  unfold insA
  by_cases c : i < p
  · rw [if_pos c, la_app_l i0 (by omega), la_take i0 c]
  · rw [if_neg c, la_app_r (by omega), hl]
    by_cases c2 : i = p
    · rw [if_pos c2, c2, Int.sub_self, la_cons0]
    · rw [if_neg c2, la_cons (by omega), la_drop (by omega)]; congr 1; omega
theorem insA_mem {p : Nat} {x : Int} {zs : List Int} {e : Int} : e ∈ insA p x zs ↔ e = x ∨ e ∈ zs := by
  unfold insA
  rw [List.mem_append, List.mem_cons]
  have h : e ∈ zs ↔ e ∈ zs.take p ∨ e ∈ zs.drop p := by
    rw [← List.mem_append, List.take_append_drop]
  rw [h]
  constructor
  · rintro (g | g | g)
    · exact Or.inr (Or.inl g)
    · exact Or.inl g
    · exact Or.inr (Or.inr g)
  · rintro (g | g | g)
    · exact Or.inr (Or.inl g)
    · exact Or.inl g
    · exact Or.inr (Or.inr g)
theorem insA_asc {p : Nat} {x : Int} {zs : List Int} (h : zs.Pairwise (· < ·)) (hp : p ≤ zs.length) (h1 : ∀ i : Int, 0 ≤ i → i < p → la zs i < x) (h2 : ∀ i : Int, p ≤ i → i < zs.length → x < la zs i) : (insA p x zs).Pairwise (· < ·) := by
  apply la_asc
  intro i j i0 ij j1
  rw [insA_len hp] at j1
  rw [insA_la hp i0, insA_la hp (by omega)]
  by_cases c : i < p
  · rw [if_pos c]
    by_cases d : j < p
    · rw [if_pos d]; exact asc_la h i0 ij (by omega)
    · rw [if_neg d]
      by_cases d2 : j = p
      · rw [if_pos d2]; exact h1 i i0 c
      · rw [if_neg d2]; exact asc_la h i0 (by omega) (by omega)
  · rw [if_neg c, if_neg (show ¬ j < p by omega), if_neg (show ¬ j = p by omega)]
    by_cases c2 : i = p
    · rw [if_pos c2]; exact h2 (j - 1) (by omega) (by omega)
    · rw [if_neg c2]; exact asc_la h (by omega) (by omega) (by omega)
/-- how many are below -/
def cbl (xs : List Int) (b : Int) : Int := cn (fun i => decide (la xs i < b)) xs.length
theorem cn_down {g : Int → Bool} : ∀ {n : Nat}, (∀ i j : Int, 0 ≤ i → i ≤ j → j < n → g j = true → g i = true) → ∀ m : Int, 0 ≤ m → m < n → (g m = true ↔ m < cn g n)
  | 0, _, m, m0, m1 => by omega
  | n + 1, h, m, m0, m1 => by
    have ih := cn_down (n := n) (fun i j i0 ij j1 => h i j i0 ij (by omega))
    have hr := cn_rng g n
    rw [cn_succ]
    by_cases c : g n = true
    · rw [if_pos c]
      have all : ∀ k : Int, 0 ≤ k → k < n → g k = true := fun k k0 k1 => h k n k0 (by omega) (by omega) c
      have e : cn g n = n := by
        have : ∀ k : Nat, k ≤ n → cn g k = k := by
          intro k
          induction k with
          | zero => intro _; rfl
          | succ k ik => intro hk; rw [cn_succ, ik (by omega), if_pos (all k (by omega) (by omega))]; omega
        exact this n (Nat.le_refl n)
      rw [e]
      by_cases d : m = n
      · rw [d]; exact ⟨fun _ => by omega, fun _ => c⟩
      · exact ⟨fun _ => by omega, fun _ => all m m0 (by omega)⟩
    · rw [if_neg c]
      by_cases d : m = n
      · rw [d]; exact ⟨fun g => absurd g c, fun g => by omega⟩
      · rw [ih m m0 (by omega)]; omega
theorem cbl_iff {xs : List Int} (h : xs.Pairwise (· < ·)) {b i : Int} (i0 : 0 ≤ i) (i1 : i < xs.length) : la xs i < b ↔ i < cbl xs b := by
  have := cn_down (g := fun i => decide (la xs i < b)) (n := xs.length) (fun i j i0 ij j1 g => by
    rw [decide_eq_true_eq] at g ⊢
    by_cases e : i = j
    · rw [e]; exact g
    · have := asc_la h i0 (show i < j by omega) j1; omega) i i0 i1
  rw [decide_eq_true_eq] at this
  exact this
theorem cbl_rng (xs : List Int) (b : Int) : 0 ≤ cbl xs b ∧ cbl xs b ≤ xs.length := cn_rng _ _
theorem cbl_mono {xs : List Int} {a b : Int} (h : a ≤ b) : cbl xs a ≤ cbl xs b := by
  unfold cbl
  have key : ∀ n : Nat, cn (fun i => decide (la xs i < a)) n ≤ cn (fun i => decide (la xs i < b)) n := by
    intro n
    induction n with
    | zero => exact Int.le_refl _
    | succ n ih =>
      rw [cn_succ, cn_succ]
      by_cases c : la xs n < a
      · rw [if_pos (by rw [decide_eq_true_eq]; exact c), if_pos (by rw [decide_eq_true_eq]; omega)]; omega
      · rw [if_neg (by rw [decide_eq_true_eq]; exact c)]; split <;> omega
  exact key _
/-- an array holds a list -/
def asA (σ : St) (c : Nat) (xs : List Int) : Prop := ∀ i : Int, 0 ≤ i → i < xs.length → gI σ c i = la xs i
theorem asA_fr {M : Nat → Int → Prop} {σ σ' : St} {c : Nat} {xs : List Int} (h : asA σ c xs) (g : fr M σ σ') (h1 : ∀ j, ¬ M c j) : asA σ' c xs := fun i i0 i1 => (fr_I g _ _ (h1 i)).trans (h i i0 i1)
theorem asA_app {σ : St} {c : Nat} {xs : List Int} {w : Int} (h : asA σ c xs) : asA (sI σ c xs.length w) c (xs ++ [w]) := fun i i0 i1 => by
  rw [List.length_append, List.length_singleton] at i1
  rw [gI_sI]
  by_cases e : i = xs.length
  · rw [if_pos ⟨rfl, e⟩, la_app_r (by omega), e, Int.sub_self, la_cons0]
  · rw [if_neg (fun g => e g.2), la_app_l i0 (by omega)]; exact h i i0 (by omega)
theorem nd_app {xs : List Int} {w : Int} (h : xs.Nodup) (hw : w ∉ xs) : (xs ++ [w]).Nodup := by
  unfold List.Nodup at *
  rw [List.pairwise_append]
  refine ⟨h, List.pairwise_singleton _ _, fun a ha b hb e => ?_⟩
  rw [List.mem_singleton] at hb
  subst hb; subst e; exact hw ha

/-! the class's contexts: questions -/
def nc (xs : List Int) (f : Int) : Int := cbl xs ((f + 1) * 2353) - cbl xs (f * 2353)
theorem nc_rng (xs : List Int) (f : Int) : 0 ≤ nc xs f ∧ cbl xs (f * 2353) + nc xs f ≤ xs.length := by
  have h1 := cbl_mono (xs := xs) (a := f * 2353) (b := (f + 1) * 2353) (by omega)
  have h2 := cbl_rng xs ((f + 1) * 2353)
  unfold nc; omega
/-! sets of pairs of cells as words -/
def bt (F : Int → BitVec 64) (c u : Int) : Bool := (F (3 * c + u / 64)).getLsbD (u % 64).toNat
theorem cn_or {g g1 g2 : Int → Bool} : ∀ {n : Nat}, (∀ m : Int, 0 ≤ m → m < n → g m = (g1 m || g2 m) ∧ ¬ (g1 m = true ∧ g2 m = true)) → cn g n = cn g1 n + cn g2 n
  | 0, _ => rfl
  | n + 1, h => by
    have ih := cn_or (n := n) (fun m m0 m1 => h m m0 (by omega))
    obtain ⟨h1, h2⟩ := h n (by omega) (by omega)
    rw [cn_succ, cn_succ, cn_succ, ih, h1]
    cases a : g1 n <;> cases b : g2 n
    · simp
    · simp; omega
    · simp; omega
    · exact absurd ⟨a, b⟩ h2
theorem cn_le {g g' : Int → Bool} : ∀ {n : Nat}, (∀ m : Int, 0 ≤ m → m < n → g m = true → g' m = true) → cn g n ≤ cn g' n
  | 0, _ => Int.le_refl _
  | n + 1, h => by
    have ih := cn_le (n := n) (fun m m0 m1 => h m m0 (by omega))
    have h1 := h n (by omega) (by omega)
    rw [cn_succ, cn_succ]
    by_cases c : g n = true
    · rw [if_pos c, if_pos (h1 c)]; omega
    · rw [if_neg c]; split <;> omega
theorem cn_eq {g g' : Int → Bool} : ∀ {n : Nat}, (∀ m : Int, 0 ≤ m → m < n → g m = true → g' m = true) → cn g' n ≤ cn g n → ∀ m : Int, 0 ≤ m → m < n → g' m = true → g m = true
  | 0, _, _, m, m0, m1, _ => by omega
  | n + 1, h, e, m, m0, m1, hm => by
    have h2 := cn_le (n := n) (fun m m0 m1 => h m m0 (by omega))
    have h1 := h n (by omega) (by omega)
    rw [cn_succ, cn_succ] at e
    by_cases c : g n = true
    · rw [if_pos c, if_pos (h1 c)] at e
      by_cases d : m = n
      · rw [d]; exact c
      · exact cn_eq (n := n) (fun m m0 m1 => h m m0 (by omega)) (by omega) m m0 (by omega) hm
    · rw [if_neg c] at e
      by_cases f : g' n = true
      · rw [if_pos f] at e; omega
      · by_cases d : m = n
        · rw [d] at hm; exact absurd hm f
        · rw [if_neg f] at e
          exact cn_eq (n := n) (fun m m0 m1 => h m m0 (by omega)) (by omega) m m0 (by omega) hm
theorem cn_cut {g : Int → Bool} {k : Nat} : ∀ {n : Nat}, k ≤ n → (∀ m : Int, (k : Int) ≤ m → m < n → g m = false) → cn g n = cn g k
  | 0, hk, _ => by rw [show k = 0 by omega]
  | n + 1, hk, h => by
    by_cases c : k = n + 1
    · rw [c]
    · rw [cn_succ, cn_cut (n := n) (by omega) (fun m m0 m1 => h m m0 (by omega)), if_neg (by rw [h n (by omega) (by omega)]; decide), Int.add_zero]
def pw (x : BitVec 64) : Int := cn (fun j => x.getLsbD j.toNat) 64
theorem pw_rng (x : BitVec 64) : 0 ≤ pw x ∧ pw x ≤ 64 := cn_rng _ _
theorem pw_le {x y : BitVec 64} (h : ∀ j : Nat, x.getLsbD j = true → y.getLsbD j = true) : pw x ≤ pw y := cn_le (fun m _ _ g => h m.toNat g)
theorem pw_eq {x y : BitVec 64} (h : ∀ j : Nat, x.getLsbD j = true → y.getLsbD j = true) (e : pw y ≤ pw x) : x = y := by
  apply BitVec.eq_of_getLsbD_eq
  intro i hi
  have := cn_eq (g := fun j => x.getLsbD j.toNat) (g' := fun j => y.getLsbD j.toNat) (n := 64) (fun m _ _ g => h m.toNat g) e i (by omega) (by omega)
  rw [Int.toNat_natCast] at this
  cases a : x.getLsbD i <;> cases b : y.getLsbD i
  · rfl
  · rw [this b] at a; cases a
  · rw [h i a] at b; cases b
  · rfl
theorem pw_or {x y : BitVec 64} (h : ∀ j : Nat, ¬ (x.getLsbD j = true ∧ y.getLsbD j = true)) : pw (x ||| y) = pw x + pw y :=
  cn_or (fun m _ _ => ⟨by rw [BitVec.getLsbD_or], h m.toNat⟩)
def fsum (F : Int → BitVec 64) : Nat → Int
  | 0 => 0
  | n + 1 => fsum F n + pw (F n)
theorem fsum_succ (F : Int → BitVec 64) (n : Nat) : fsum F (n + 1) = fsum F n + pw (F n) := rfl
theorem fsum_congr {F F' : Int → BitVec 64} : ∀ {n : Nat}, (∀ k : Int, 0 ≤ k → k < n → F k = F' k) → fsum F n = fsum F' n
  | 0, _ => rfl
  | n + 1, h => by rw [fsum_succ, fsum_succ, fsum_congr (n := n) (fun k k0 k1 => h k k0 (by omega)), h n (by omega) (by omega)]
theorem fsum_upd {F F' : Int → BitVec 64} {k : Int} : ∀ {n : Nat}, 0 ≤ k → k < n → (∀ j : Int, j ≠ k → F' j = F j) → fsum F' n = fsum F n + (pw (F' k) - pw (F k))
  | 0, k0, k1, _ => by omega
  | n + 1, k0, k1, h => by
    rw [fsum_succ, fsum_succ]
    by_cases c : k = n
    · rw [fsum_congr (F := F') (F' := F) (fun j j0 j1 => h j (by omega)), c]; omega
    · rw [fsum_upd (n := n) k0 (by omega) h, h n (by omega)]; omega
theorem fsum_le {F F' : Int → BitVec 64} : ∀ {n : Nat}, (∀ k : Int, 0 ≤ k → k < n → ∀ j : Nat, (F k).getLsbD j = true → (F' k).getLsbD j = true) → fsum F n ≤ fsum F' n
  | 0, _ => Int.le_refl _
  | n + 1, h => by
    have := fsum_le (n := n) (fun k k0 k1 => h k k0 (by omega))
    have := pw_le (h n (by omega) (by omega))
    rw [fsum_succ, fsum_succ]; omega
theorem fsum_eq {F F' : Int → BitVec 64} : ∀ {n : Nat}, (∀ k : Int, 0 ≤ k → k < n → ∀ j : Nat, (F k).getLsbD j = true → (F' k).getLsbD j = true) → fsum F' n ≤ fsum F n → ∀ k : Int, 0 ≤ k → k < n → F k = F' k
  | 0, _, _, k, k0, k1 => by omega
  | n + 1, h, e, k, k0, k1 => by
    have h1 := fsum_le (n := n) (fun k k0 k1 => h k k0 (by omega))
    have h2 := pw_le (h n (by omega) (by omega))
    rw [fsum_succ, fsum_succ] at e
    by_cases c : k = n
    · rw [c]; exact pw_eq (h n (by omega) (by omega)) (by omega)
    · exact fsum_eq (n := n) (fun k k0 k1 => h k k0 (by omega)) (by omega) k k0 (by omega)
theorem bt_word {F : Int → BitVec 64} {c w : Int} {j : Nat} (hj : j < 64) : bt F c (64 * w + j) = (F (3 * c + w)).getLsbD j := by
  unfold bt
  rw [show (64 * w + (j : Int)) / 64 = w by omega, show ((64 * w + (j : Int)) % 64).toNat = j by omega]
theorem k_split {k : Int} (h0 : 0 ≤ k) (h1 : k < 456) : ∃ c w : Int, (0 ≤ c ∧ c < 152) ∧ (0 ≤ w ∧ w < 3) ∧ k = 3 * c + w := ⟨k / 3, k % 3, by omega, by omega, by omega⟩
/-- words with the same bits -/
theorem bt_words {F F' : Int → BitVec 64} (h : ∀ c u, 0 ≤ c → c < 152 → 0 ≤ u → u < 192 → bt F c u = bt F' c u) {k : Int} (h0 : 0 ≤ k) (h1 : k < 456) : F k = F' k := by
  obtain ⟨c, w, hc, hw, rfl⟩ := k_split h0 h1
  apply BitVec.eq_of_getLsbD_eq
  intro j hj
  have := h c (64 * w + j) hc.1 hc.2 (by omega) (by omega)
  rw [bt_word hj, bt_word hj] at this
  exact this
theorem fsum_bound {F : Int → BitVec 64} (h : ∀ c u, 0 ≤ c → c < 152 → 0 ≤ u → u < 192 → bt F c u = true → u < 152) : ∀ n : Nat, n ≤ 152 → fsum F (3 * n) ≤ 152 * n
  | 0, _ => Int.le_refl _
  | n + 1, hn => by
    have ih := fsum_bound h n (by omega)
    have e : fsum F (3 * (n + 1)) = fsum F (3 * n) + pw (F (3 * n : Nat)) + pw (F ((3 * n + 1 : Nat) : Int)) + pw (F ((3 * n + 2 : Nat) : Int)) := rfl
    have h1 := pw_rng (F (3 * n : Nat))
    have h2 := pw_rng (F ((3 * n + 1 : Nat) : Int))
    have h3 : pw (F ((3 * n + 2 : Nat) : Int)) ≤ 24 := by
      unfold pw
      rw [cn_cut (k := 24) (by omega) (fun m m0 m1 => ?_)]
      · exact (cn_rng _ 24).2
      · have hb := h n (64 * 2 + (m.toNat : Int)) (by omega) (by omega) (by omega) (by omega)
        rw [bt_word (by omega)] at hb
        rw [show ((3 * n + 2 : Nat) : Int) = 3 * (n : Int) + 2 by omega]
        cases g : (F (3 * (n : Int) + 2)).getLsbD m.toNat with
        | false => rfl
        | true => have := hb g; omega
    rw [e]; omega
def fpop (F : Int → BitVec 64) : Int := fsum F 456
theorem fpop_bound {F : Int → BitVec 64} (h : ∀ c u, 0 ≤ c → c < 152 → 0 ≤ u → u < 192 → bt F c u = true → u < 152) : fpop F ≤ 23104 := fsum_bound h 152 (Nat.le_refl _)
theorem fpop_nn (F : Int → BitVec 64) : 0 ≤ fpop F := by
  have : ∀ n, 0 ≤ fsum F n := by
    intro n
    induction n with
    | zero => exact Int.le_refl _
    | succ n ih => rw [fsum_succ]; have := pw_rng (F n); omega
  exact this _
theorem fpop_le {F F' : Int → BitVec 64} (h : ∀ c u, 0 ≤ c → c < 152 → 0 ≤ u → u < 192 → bt F c u = true → bt F' c u = true) : fpop F ≤ fpop F' := by
  refine fsum_le (fun k k0 k1 j hj => ?_)
  obtain ⟨c, w, hc, hw, rfl⟩ := k_split k0 k1
  have hj2 : j < 64 := BitVec.lt_of_getLsbD hj
  have := h c (64 * w + j) hc.1 hc.2 (by omega) (by omega)
  rw [bt_word hj2, bt_word hj2] at this
  exact this hj
theorem fpop_eq {F F' : Int → BitVec 64} (h : ∀ c u, 0 ≤ c → c < 152 → 0 ≤ u → u < 192 → bt F c u = true → bt F' c u = true) (e : fpop F' ≤ fpop F) {k : Int} (k0 : 0 ≤ k) (k1 : k < 456) : F k = F' k := by
  refine fsum_eq (fun k k0 k1 j hj => ?_) e k k0 k1
  obtain ⟨c, w, hc, hw, rfl⟩ := k_split k0 k1
  have hj2 : j < 64 := BitVec.lt_of_getLsbD hj
  have := h c (64 * w + j) hc.1 hc.2 (by omega) (by omega)
  rw [bt_word hj2, bt_word hj2] at this
  exact this hj
/-! cells, codes, what a statement brings -/
abbrev Fa : Type := Int → Int → Prop
def vld (xs : List Int) (c : Int) : Prop := 0 ≤ c ∧ (c < 4 ∨ (4 ≤ c ∧ c < 4 + 4 * (xs.length : Int)) ∨ (128 ≤ c ∧ c < 152))
def clo (x i : Int) : Int := if x < 4 then x else 4 + 4 * i + (x - 4) % 4
def cdf (xs : List Int) (c : Int) : Int := if 128 ≤ c then 20 + c - 128 else if c < 4 then c else 4 + 4 * (la xs ((c - 4) / 4) / 2353) + (c - 4) % 4
def itm (P : Pg) (xs : List Int) (i n : Int) : Prop := (0 ≤ i ∧ i < xs.length) ∧ ((0 ≤ n ∧ n < tot P) ∧ own P n = la xs i / 2353)
/-- the place to which a call leads -/
def plf (P : Pg) (xs : List Int) (lim i n : Int) : Int := cbl xs (nn P n * 2353 + ext lim (la xs i % 2353) n)
def DD (P : Pg) (xs : List Int) (lim : Int) (A : Fa) (i n c u : Int) : Prop :=
  (kd P n = 0 ∧ (c = clo (vv P n) i ∧ u = clo (ww P n) i)) ∨
  ((kd P n = 1 ∧ (c = clo (vv P n) i ∧ A (clo (ww P n) i) u)) ∨
  ((kd P n = 2 ∧ (c = clo (vv P n) i ∧ ∃ x, A (clo (ww P n) i) x ∧ A x u)) ∨
  ((kd P n = 3 ∧ (A (clo (vv P n) i) c ∧ A (clo (ww P n) i) u)) ∨
  ((kd P n = 4 ∧ (c = clo (vv P n) i ∧ u = 128 + 3 * sn P n)) ∨
  ((kd P n = 5 ∧ (c = clo (vv P n) i ∧ ((nn P n = 0 ∧ A (clo (ww P n) i) u) ∨ (nn P n ≠ 0 ∧ ∃ x, A (clo (ww P n) i) x ∧ (128 ≤ x ∧ ((x - 128) % 3 + nn P n ≤ 2 ∧ u = x + nn P n)))))) ∨
  (kd P n = 6 ∧ ((c = 4 + 4 * plf P xs lim i n ∧ A (clo (ww P n) i) u) ∨ (c = clo (vv P n) i ∧ A (4 + 4 * plf P xs lim i n + 1) u))))))))
theorem DD_mono {P : Pg} {xs : List Int} {lim : Int} {A B : Fa} (h : ∀ c u, A c u → B c u) {i n c u : Int} (g : DD P xs lim A i n c u) : DD P xs lim B i n c u := by
  rcases g with g | ⟨g0, g1, g2⟩ | ⟨g0, g1, x, g2, g3⟩ | ⟨g0, g1, g2⟩ | g | ⟨g0, g1, ⟨g2, g3⟩ | ⟨g2, x, g3, g4⟩⟩ | ⟨g0, ⟨g1, g2⟩ | ⟨g1, g2⟩⟩
  · exact Or.inl g
  · exact Or.inr (Or.inl ⟨g0, g1, h _ _ g2⟩)
  · exact Or.inr (Or.inr (Or.inl ⟨g0, g1, x, h _ _ g2, h _ _ g3⟩))
  · exact Or.inr (Or.inr (Or.inr (Or.inl ⟨g0, h _ _ g1, h _ _ g2⟩)))
  · exact Or.inr (Or.inr (Or.inr (Or.inr (Or.inl g))))
  · exact Or.inr (Or.inr (Or.inr (Or.inr (Or.inr (Or.inl ⟨g0, g1, Or.inl ⟨g2, h _ _ g3⟩⟩)))))
  · exact Or.inr (Or.inr (Or.inr (Or.inr (Or.inr (Or.inl ⟨g0, g1, Or.inr ⟨g2, x, h _ _ g3, g4⟩⟩)))))
  · exact Or.inr (Or.inr (Or.inr (Or.inr (Or.inr (Or.inr ⟨g0, Or.inl ⟨g1, h _ _ g2⟩⟩)))))
  · exact Or.inr (Or.inr (Or.inr (Or.inr (Or.inr (Or.inr ⟨g0, Or.inr ⟨g1, h _ _ g2⟩⟩)))))
def okF (xs : List Int) (A : Fa) : Prop := ∀ c u, A c u → vld xs c ∧ vld xs u
theorem clo_vld {xs : List Int} {x i : Int} (hx : 0 ≤ x) (i0 : 0 ≤ i) (i1 : i < xs.length) : vld xs (clo x i) := by
  unfold clo vld
  split
  · exact ⟨hx, Or.inl (by omega)⟩
  · exact ⟨by omega, Or.inr (Or.inl ⟨by omega, by omega⟩)⟩
theorem la_cbl {xs : List Int} (h : xs.Pairwise (· < ·)) {e : Int} (he : e ∈ xs) : (0 ≤ cbl xs e ∧ cbl xs e < xs.length) ∧ la xs (cbl xs e) = e := by
  obtain ⟨j, j0, j1, rfl⟩ := mem_la he
  have h1 := cbl_rng xs (la xs j)
  have e1 : cbl xs (la xs j) = j := by
    have a := cbl_iff h (b := la xs j) j0 j1
    by_cases c : cbl xs (la xs j) < j
    · have b := cbl_iff h (b := la xs j) (i := cbl xs (la xs j)) h1.1 (by omega)
      have := asc_la h h1.1 c j1
      omega
    · omega
  rw [e1]; exact ⟨⟨j0, j1⟩, rfl⟩
/-- where a call leads, there is a context -/
theorem plf_ok {P : Pg} {xs : List Int} {lim i n : Int} (hX : isC P lim xs) (h : itm P xs i n) (hk : kd P n = 6) : (0 ≤ plf P xs lim i n ∧ plf P xs lim i n < xs.length) ∧ la xs (plf P xs lim i n) = nn P n * 2353 + ext lim (la xs i % 2353) n := by
  have hm : la xs i ∈ xs := la_mem h.1.1 h.1.2
  have hs : stepC P lim (la xs i) (nn P n * 2353 + ext lim (la xs i % 2353) n) := ⟨n, ⟨h.2.1.1, h.2.1.2, hk⟩, h.2.2, rfl⟩
  exact la_cbl hX.1 ((hX.2 _).mpr (RS_step ((hX.2 _).mp hm) hs))
theorem sn_lt {P : Pg} (hP : okP P) {n : Int} (n0 : 0 ≤ n) (n1 : n < tot P) (hk : kd P n = 4) : 0 ≤ sn P n ∧ sn P n < 8 := by
  have h1 := sn_succ (P := P) n0
  rw [if_pos hk] at h1
  have h2 := sn_mono (P := P) (show n + 1 ≤ tot P by omega)
  have h3 := mny_all hP.1
  have h4 := hP.2.2.1
  have h5 := (sn_rng (P := P) n0).1
  omega
theorem DD_ok {P : Pg} (hP : okP P) {xs : List Int} {lim : Int} (hX : isC P lim xs) {A : Fa} (hA : okF xs A) {i n c u : Int} (hi : itm P xs i n) (g : DD P xs lim A i n c u) : vld xs c ∧ vld xs u := by
  obtain ⟨-, ⟨hv, hw, hn⟩, -⟩ := hP.2.1 n hi.2.1.1 hi.2.1.2
  have cv := clo_vld (xs := xs) hv.1 hi.1.1 hi.1.2
  have cw := clo_vld (xs := xs) hw.1 hi.1.1 hi.1.2
  have hlen := isC_len hP hX
  rcases g with ⟨g0, g1, g2⟩ | ⟨g0, g1, g2⟩ | ⟨g0, g1, x, g2, g3⟩ | ⟨g0, g1, g2⟩ | ⟨g0, g1, g2⟩ | ⟨g0, g1, ⟨g2, g3⟩ | ⟨g2, x, g3, g4, g5, g6⟩⟩ | ⟨g0, ⟨g1, g2⟩ | ⟨g1, g2⟩⟩
  · rw [g1, g2]; exact ⟨cv, cw⟩
  · rw [g1]; exact ⟨cv, (hA _ _ g2).2⟩
  · rw [g1]; exact ⟨cv, (hA _ _ g3).2⟩
  · exact ⟨(hA _ _ g1).2, (hA _ _ g2).2⟩
  · have := sn_lt hP hi.2.1.1 hi.2.1.2 g0
    rw [g1]; exact ⟨cv, ⟨by omega, Or.inr (Or.inr ⟨by omega, by omega⟩)⟩⟩
  · rw [g1]; exact ⟨cv, (hA _ _ g3).2⟩
  · have hx := (hA _ _ g3).2
    unfold vld at hx
    have hl := hlen
    have q : (x - 128) / 3 ≤ 7 := by omega
    rw [g1]; exact ⟨cv, ⟨by omega, Or.inr (Or.inr ⟨by omega, by omega⟩)⟩⟩
  · have := (plf_ok hX hi g0).1
    rw [g1]; exact ⟨⟨by omega, Or.inr (Or.inl ⟨by omega, by omega⟩)⟩, (hA _ _ g2).2⟩
  · rw [g1]; exact ⟨cv, (hA _ _ g2).2⟩
/-- round by round -/
def Gr (P : Pg) (xs : List Int) (lim : Int) : Nat → Fa
  | 0 => fun _ _ => False
  | j + 1 => fun c u => Gr P xs lim j c u ∨ ∃ i n, itm P xs i n ∧ DD P xs lim (Gr P xs lim j) i n c u
/-- within a round: what is before -/
def GB (P : Pg) (xs : List Int) (lim : Int) (j : Nat) (B : Int → Int → Prop) : Fa := fun c u => Gr P xs lim j c u ∨ ∃ i n, (itm P xs i n ∧ B i n) ∧ DD P xs lim (Gr P xs lim j) i n c u
def lx (i n : Int) : Int → Int → Prop := fun i' n' => i' < i ∨ (i' = i ∧ n' < n)
/-- the least closed set -/
def Lf (P : Pg) (xs : List Int) (lim : Int) : Fa := fun c u => ∀ X : Fa, (∀ i n c u, itm P xs i n → DD P xs lim X i n c u → X c u) → X c u
theorem LF_closed {P : Pg} {xs : List Int} {lim i n c u : Int} (hi : itm P xs i n) (h : DD P xs lim (Lf P xs lim) i n c u) : Lf P xs lim c u := fun X hX =>
  hX i n c u hi (DD_mono (fun c u g => g X hX) h)
theorem LF_least {P : Pg} {xs : List Int} {lim : Int} {X : Fa} (hX : ∀ i n c u, itm P xs i n → DD P xs lim X i n c u → X c u) {c u : Int} (h : Lf P xs lim c u) : X c u := h X hX
theorem Gr_LF {P : Pg} {xs : List Int} {lim : Int} : ∀ (j : Nat) {c u : Int}, Gr P xs lim j c u → Lf P xs lim c u
  | 0, _, _, h => h.elim
  | j + 1, c, u, h => by
    rcases h with h | ⟨i, n, hi, h⟩
    · exact Gr_LF j h
    · exact LF_closed hi (DD_mono (fun c u g => Gr_LF j g) h)
theorem LF_Gr {P : Pg} {xs : List Int} {lim : Int} {j : Nat} (h : ∀ c u, Gr P xs lim (j + 1) c u → Gr P xs lim j c u) {c u : Int} : Lf P xs lim c u ↔ Gr P xs lim j c u :=
  ⟨LF_least (fun i n c u hi g => h c u (Or.inr ⟨i, n, hi, g⟩)), Gr_LF j⟩
theorem Gr_ok {P : Pg} (hP : okP P) {xs : List Int} {lim : Int} (hX : isC P lim xs) : ∀ j, okF xs (Gr P xs lim j)
  | 0 => fun _ _ h => h.elim
  | j + 1 => fun c u h => by
    rcases h with h | ⟨i, n, hi, h⟩
    · exact Gr_ok hP hX j c u h
    · exact DD_ok hP hX (Gr_ok hP hX j) hi h
theorem GB_ok {P : Pg} (hP : okP P) {xs : List Int} {lim : Int} (hX : isC P lim xs) (j : Nat) (B : Int → Int → Prop) : okF xs (GB P xs lim j B) := fun c u h => by
  rcases h with h | ⟨i, n, hi, h⟩
  · exact Gr_ok hP hX j c u h
  · exact DD_ok hP hX (Gr_ok hP hX j) hi.1 h
theorem Lf_okF {P : Pg} (hP : okP P) {xs : List Int} {lim : Int} (hX : isC P lim xs) : okF xs (Lf P xs lim) := fun c u h =>
  LF_least (X := fun c u => Lf P xs lim c u ∧ (vld xs c ∧ vld xs u)) (fun i n c u hi g => ⟨LF_closed hi (DD_mono (fun _ _ k => k.1) g), DD_ok hP hX (A := fun c u => Lf P xs lim c u ∧ (vld xs c ∧ vld xs u)) (fun c u k => k.2) hi g⟩) h |>.2
/-- the pair of codes of some fact -/
def im (xs : List Int) (F : Fa) (a b : Int) : Prop := ∃ c u, F c u ∧ (cdf xs c = a ∧ cdf xs u = b)
theorem im_mono {xs : List Int} {F F' : Fa} (h : ∀ c u, F c u → F' c u) {a b : Int} (g : im xs F a b) : im xs F' a b := by
  obtain ⟨c, u, g1, g2⟩ := g
  exact ⟨c, u, h c u g1, g2⟩
/-- round and statement in which a pair of codes comes -/
def RKp (P : Pg) (xs : List Int) (lim : Int) (a b r s : Int) : Prop := ∃ (j : Nat) (i : Int), r = j + 1 ∧ (itm P xs i s ∧ (¬ im xs (GB P xs lim j (lx i s)) a b ∧ im xs (GB P xs lim j (lx i (s + 1))) a b))
theorem GB_Gr {P : Pg} {xs : List Int} {lim : Int} {j : Nat} {B : Int → Int → Prop} {c u : Int} (h : GB P xs lim j B c u) : Gr P xs lim (j + 1) c u := by
  rcases h with h | ⟨i, n, hi, h⟩
  · exact Or.inl h
  · exact Or.inr ⟨i, n, hi.1, h⟩
theorem Gr_le {P : Pg} {xs : List Int} {lim : Int} {j k : Nat} (hjk : j ≤ k) {c u : Int} (h : Gr P xs lim j c u) : Gr P xs lim k c u := by
  induction hjk with
  | refl => exact h
  | step _ ih => exact Or.inl ih
theorem GB_lx {P : Pg} {xs : List Int} {lim : Int} {j : Nat} {B B' : Int → Int → Prop} (hB : ∀ i n, B i n → B' i n) {c u : Int} (h : GB P xs lim j B c u) : GB P xs lim j B' c u := by
  rcases h with h | ⟨i, n, hi, h⟩
  · exact Or.inl h
  · exact Or.inr ⟨i, n, ⟨hi.1, hB i n hi.2⟩, h⟩
theorem RKp_uniq {P : Pg} {xs : List Int} {lim a b r s r' s' : Int} (h : RKp P xs lim a b r s) (h' : RKp P xs lim a b r' s') : r = r' ∧ s = s' := by
  obtain ⟨j, i, e, h1, h2, h3⟩ := h
  obtain ⟨j', i', e', h1', h2', h3'⟩ := h'
  have key : ∀ (j j' : Nat) (i i' s s' : Int), im xs (GB P xs lim j (lx i (s + 1))) a b → ¬ im xs (GB P xs lim j' (lx i' s')) a b → j' ≤ j ∧ (j' = j → i' ≤ i ∧ (i' = i → s' ≤ s)) := by
    intro j j' i i' s s' g1 g2
    refine ⟨?_, fun ej => ⟨?_, fun ei => ?_⟩⟩
    · rcases Nat.lt_or_ge j j' with q | q
      · exact absurd (im_mono (fun c u k => Or.inl (Gr_le (show j + 1 ≤ j' by omega) (GB_Gr k))) g1) g2
      · exact q
    · subst ej
      by_cases q : i < i'
      · exact absurd (im_mono (fun c u k => GB_lx (fun x y z => by unfold lx at *; omega) k) g1) g2
      · omega
    · subst ej; subst ei
      by_cases q : s < s'
      · exact absurd (im_mono (fun c u k => GB_lx (fun x y z => by unfold lx at *; omega) k) g1) g2
      · omega
  have k1 := key j j' i i' s s' h3 h2'
  have k2 := key j' j i' i s' s h3' h2
  have ej : j = j' := by omega
  have k3 := k1.2 ej.symm
  have k4 := k2.2 ej
  have ei : i = i' := by omega
  have k5 := k3.2 ei.symm
  have k6 := k4.2 ei
  exact ⟨by omega, by omega⟩

def xok (xs : List Int) : Prop := (∀ e ∈ xs, 0 ≤ e ∧ e < 9412) ∧ xs.length ≤ 31
theorem xok_of {P : Pg} (hP : okP P) {lim : Int} {xs : List Int} (h : isC P lim xs) : xok xs := ⟨fun e he => RS_rng hP ((h.2 e).mp he), isC_len hP h⟩
theorem cdf_rng {xs : List Int} {c : Int} (hx : xok xs) (h : vld xs c) : 0 ≤ cdf xs c ∧ cdf xs c < 44 := by
  obtain ⟨h0, h1⟩ := h
  have hl := hx.2
  unfold cdf
  by_cases a : 128 ≤ c
  · rw [if_pos a]; omega
  · rw [if_neg a]
    by_cases b : c < 4
    · rw [if_pos b]; omega
    · rw [if_neg b]
      have : (c - 4) / 4 < xs.length := by omega
      have := hx.1 _ (la_mem (xs := xs) (i := (c - 4) / 4) (by omega) this)
      omega
theorem GB_step {P : Pg} {xs : List Int} {lim i n : Int} {j : Nat} (hi : itm P xs i n) (c u : Int) : GB P xs lim j (lx i (n + 1)) c u ↔ (GB P xs lim j (lx i n) c u ∨ DD P xs lim (Gr P xs lim j) i n c u) := by
  unfold GB
  constructor
  · rintro (h | ⟨i', n', ⟨h1, h2⟩, h3⟩)
    · exact Or.inl (Or.inl h)
    · unfold lx at h2
      by_cases q : i' = i ∧ n' = n
      · rw [q.1, q.2] at h3; exact Or.inr h3
      · exact Or.inl (Or.inr ⟨i', n', ⟨h1, by unfold lx; omega⟩, h3⟩)
  · rintro ((h | ⟨i', n', ⟨h1, h2⟩, h3⟩) | h)
    · exact Or.inl h
    · exact Or.inr ⟨i', n', ⟨h1, by unfold lx at *; omega⟩, h3⟩
    · exact Or.inr ⟨i, n, ⟨hi, by unfold lx; omega⟩, h⟩
/-! the class's inclusion: questions -/
def SW (l : BitVec 64) (S : Int → Prop) : Prop := ∀ t : Nat, t < 64 → (l.getLsbD t = true ↔ S t)
theorem SW_eq {l l' : BitVec 64} {S : Int → Prop} (h : SW l S) (h' : SW l' S) : l = l' := by
  apply BitVec.eq_of_getLsbD_eq
  intro i hi
  have h1 := h i hi
  have h2 := h' i hi
  cases a : l.getLsbD i <;> cases b : l'.getLsbD i
  · rfl
  · rw [h1.mpr (h2.mp b)] at a; cases a
  · rw [h2.mpr (h1.mp a)] at b; cases b
  · rfl
theorem SW_congr {l : BitVec 64} {S S' : Int → Prop} (h : SW l S) (hS : ∀ t : Nat, t < 64 → (S t ↔ S' t)) : SW l S' := fun t ht => (h t ht).trans (hS t ht)
theorem SW_or {l l' : BitVec 64} {S S' : Int → Prop} (h : SW l S) (h' : SW l' S') : SW (l ||| l') (fun t => S t ∨ S' t) := fun t ht => by
  rw [BitVec.getLsbD_or, Bool.or_eq_true, h t ht, h' t ht]
/-! the class's unification -/
def EQ (P : Pg) (n : Int) (s t : Tm) : Prop :=
  (kd P n = 0 ∧ (s = (vv P n, 1) ∧ t = (ww P n, 0))) ∨
  ((kd P n = 2 ∧ (s = (vv P n, 1) ∧ t = (ww P n, 2))) ∨
  ((kd P n = 3 ∧ (s = (vv P n, 2) ∧ t = (ww P n, 1))) ∨
  ((kd P n = 4 ∧ (s = (vv P n, 1) ∧ t = (20 + sn P n, 0))) ∨
  ((kd P n = 6 ∧ ((s = (4 + 4 * nn P n, 1) ∧ t = (ww P n, 1)) ∨ (s = (vv P n, 1) ∧ t = (4 + 4 * nn P n + 1, 1)))) ∨
  ((kd P n = 1 ∨ kd P n = 5) ∧ (s = (vv P n, 1) ∧ t = (ww P n, 1)))))))
def EQs (P : Pg) (m : Int) (s t : Tm) : Prop := ∃ n, 0 ≤ n ∧ (n < m ∧ EQ P n s t)
theorem EQs_0 (P : Pg) : EQs P 0 = fun _ _ => False := by
  funext s t
  apply propext
  exact ⟨fun ⟨n, n0, n1, _⟩ => by omega, fun h => h.elim⟩
theorem EQs_succ {P : Pg} {m : Int} (m0 : 0 ≤ m) : EQs P (m + 1) = fun s t => EQs P m s t ∨ EQ P m s t := by
  funext s t
  apply propext
  constructor
  · rintro ⟨n, n0, n1, h⟩
    by_cases q : n = m
    · rw [q] at h; exact Or.inr h
    · exact Or.inl ⟨n, n0, by omega, h⟩
  · rintro (⟨n, n0, n1, h⟩ | h)
    · exact ⟨n, n0, by omega, h⟩
    · exact ⟨m, m0, by omega, h⟩
theorem gI_row {σ : St} {c : Nat} {i v : Int} : gI (sI σ c i v) c = fun j => if j = i then v else gI σ c j := funext fun j => by
  rw [gI_sI]
  by_cases q : j = i
  · rw [if_pos ⟨rfl, q⟩, if_pos q]
  · rw [if_neg (fun k => q k.2), if_neg q]
theorem gI_rne {σ : St} {c d : Nat} {i v : Int} (h : d ≠ c) : gI (sI σ c i v) d = gI σ d := funext fun j => by rw [gI_sI, if_neg (fun k => h k.1)]
/-! the class's unification: questions -/
noncomputable def dcl (p : Prop) : Bool := @decide p (Classical.propDecidable p)
theorem dcl_t {p : Prop} (h : p) : dcl p = true := @decide_eq_true p (Classical.propDecidable p) h
theorem dcl_f {p : Prop} (h : ¬ p) : dcl p = false := @decide_eq_false p (Classical.propDecidable p) h
theorem dcl_iff {p : Prop} : dcl p = true ↔ p := ⟨fun h => Classical.byContradiction (fun n => by rw [dcl_f n] at h; cases h), dcl_t⟩
def ugE (P : Pg) : Tm → Tm → Prop := cg (EQs P (tot P))
/-- what a unified variable's targets are -/
def ugT (P : Pg) (st v t : Int) : Prop := (t < 20 ∧ ugE P (v, 1) (t, 0)) ∨ ∃ s, 0 ≤ s ∧ (s < st ∧ ((20 + 3 * s ≤ t ∧ t < 23 + 3 * s) ∧ ugE P (v, 1) (20 + s, 0)))
def ugF (P : Pg) (t : Int) : Prop := ∀ e, 0 ≤ e → e < t → ¬ ugE P (e, 0) (t, 0)
/-! the pure machine, on the class's cells -/
def mwr (a p : Int) (s : St) : St := if p = 0 then sI s 47 a p else sL (sI s 47 a p) 49 (gI s 48 a) (gL s 49 (gI s 48 a) ||| (BitVec.ofNat 64 1 <<< sh6 (gI s 48 p)))
def mtk (c n : Int) (s : St) : St := sI (upI (upI s 47 (fun j => if gI s 46 7 ≤ j ∧ j < gI s 46 7 + n then 0 else gI s 47 j)) 48 (fun j => if gI s 46 7 ≤ j ∧ j < gI s 46 7 + n then c + (j - gI s 46 7) else gI s 48 j)) 46 7 (gI s 46 7 + n)
def mop (P : Pg) (f : Int) (s : St) : St := sI (sI (mtk (4 + 4 * f) 4 (sI (sI s 50 (gI s 46 6) f) 51 (gI s 46 6) (stt P f))) 52 (gI s 46 6) (gI s 46 7)) 46 6 (gI s 46 6 + 1)
def madr (v : Int) (s : St) : Int := if v < 4 then 1 + v else gI s 52 (gI s 46 6 - 1) + (v - 4) % 4
def mfl (s : St) : St := sI s 46 9 (gI s 46 9 + 1)
def mex1 (P : Pg) (n l r : Int) (s : St) : St :=
  if kd P n = 0 then mwr l r s
  else if kd P n = 1 then mwr l (gI s 47 r) s
  else if kd P n = 2 then (if gI s 47 r = 0 then mfl s else mwr l (gI s 47 (gI s 47 r)) s)
  else if kd P n = 3 then (if gI s 47 l = 0 then mfl s else mwr (gI s 47 l) (gI s 47 r) s)
  else if kd P n = 4 then mwr l (gI s 46 7) (mtk (20 + 3 * sn P n + 0) 3 (sI s 46 10 (gI s 46 10 + 1)))
  else if kd P n = 5 then (if gI s 47 r = 0 ∨ nn P n = 0 then mwr l (gI s 47 r) s else if gI s 48 (gI s 47 r) - 20 < 0 ∨ ¬ ((gI s 48 (gI s 47 r) - 20) % 3 + nn P n < 3) then mfl s else mwr l (gI s 47 r + nn P n) s)
  else (if gI s 46 6 < 6 ∧ gI s 46 8 < 200 then mwr (madr (4 + 4 * nn P n) (mop P (nn P n) s)) (gI s 47 r) (mop P (nn P n) s) else s)
def mex (P : Pg) (n : Int) (s : St) : St := mex1 P n (madr (vv P n) s) (madr (ww P n) s) (sI s 46 8 (gI s 46 8 + 1))
def mcl (P : Pg) (s : St) : St :=
  if 0 < gI s 46 6 - 1 then mwr (madr (vv P (gI s 51 (gI s 46 6 - 1 - 1) - 1)) (sI s 46 6 (gI s 46 6 - 1))) (gI s 47 (madr (4 + 4 * gI s 50 (gI s 46 6 - 1) + 1) s)) (sI s 46 6 (gI s 46 6 - 1))
  else sI s 46 6 (gI s 46 6 - 1)
def mst (P : Pg) (s : St) : St :=
  if gI s 51 (gI s 46 6 - 1) < stt P (gI s 50 (gI s 46 6 - 1) + 1) then mex P (gI s 51 (gI s 46 6 - 1)) (sI s 51 (gI s 46 6 - 1) (gI s 51 (gI s 46 6 - 1) + 1))
  else mcl P s
def mgo (s : St) : Prop := 0 < gI s 46 6 ∧ gI s 46 8 < 200
def mit (P : Pg) : Nat → St → St
  | 0, s => s
  | k + 1, s => mit P k (mst P s)
theorem mit_succ (P : Pg) : ∀ (k : Nat) (s : St), mit P (k + 1) s = mst P (mit P k s)
  | 0, _ => rfl
  | k + 1, s => by show mit P (k + 1) (mst P s) = mst P (mit P k (mst P s)); exact mit_succ P k (mst P s)
/-- the machine at its start, but for its first activation -/
def mcr (s : St) : St := mtk 0 4 (upL (sI (sI (sI (sI (sI s 46 6 0) 46 7 1) 46 8 0) 46 9 0) 46 10 0) 49 (fun j => if 0 ≤ j ∧ j < (ln 49 : Int) then BitVec.ofNat 64 0 else gL s 49 j))
def ms0 (P : Pg) (s : St) : St := mop P 0 (mcr s)
/-! cells of such states -/
theorem mwr_47 {a p : Int} {s : St} : gI (mwr a p s) 47 = fun j => if j = a then p else gI s 47 j := by
  unfold mwr
  by_cases h : p = 0
  · rw [if_pos h, gI_row]
  · rw [if_neg h]
    show gI (sI s 47 a p) 47 = _
    rw [gI_row]
theorem mwr_ne {a p : Int} {s : St} {c : Nat} (hc : c ≠ 47) : gI (mwr a p s) c = gI s c := by
  unfold mwr
  by_cases h : p = 0
  · rw [if_pos h, gI_rne hc]
  · rw [if_neg h]
    show gI (sI s 47 a p) c = _
    rw [gI_rne hc]
theorem mtk_47 {c n : Int} {s : St} : gI (mtk c n s) 47 = fun j => if gI s 46 7 ≤ j ∧ j < gI s 46 7 + n then 0 else gI s 47 j := rfl
theorem mtk_48 {c n : Int} {s : St} : gI (mtk c n s) 48 = fun j => if gI s 46 7 ≤ j ∧ j < gI s 46 7 + n then c + (j - gI s 46 7) else gI s 48 j := rfl
theorem mtk_46 {c n : Int} {s : St} {j : Int} : gI (mtk c n s) 46 j = if j = 7 then gI s 46 7 + n else gI s 46 j := by
  show (if 46 = 46 ∧ j = 7 then _ else _) = _
  by_cases h : j = 7
  · rw [if_pos ⟨rfl, h⟩, if_pos h]
  · rw [if_neg (fun k => h k.2), if_neg h]; rfl
theorem mtk_ne {c n : Int} {s : St} {d : Nat} (h1 : d ≠ 46) (h2 : d ≠ 47) (h3 : d ≠ 48) : gI (mtk c n s) d = gI s d := funext fun j => by
  show (if d = 46 ∧ j = 7 then _ else _) = _
  rw [if_neg (fun k => h1 k.1)]
  show (if d = 48 then _ else _) = _
  rw [if_neg h3]
  show (if d = 47 then _ else _) = _
  rw [if_neg h2]; rfl
theorem mtk_L {c n : Int} {s : St} : gL (mtk c n s) = gL s := rfl
theorem mop_46 {P : Pg} {f : Int} {s : St} {j : Int} : gI (mop P f s) 46 j = if j = 6 then gI s 46 6 + 1 else if j = 7 then gI s 46 7 + 4 else gI s 46 j := by
  unfold mop
  rw [gI_sI]
  by_cases h : j = 6
  · rw [if_pos ⟨rfl, h⟩, if_pos h]
  · rw [if_neg (fun k => h k.2), if_neg h, gI_sI, if_neg (by omega), mtk_46]
    by_cases h2 : j = 7
    · rw [if_pos h2, if_pos h2]; rfl
    · rw [if_neg h2, if_neg h2]; rfl
theorem mop_47 {P : Pg} {f : Int} {s : St} : gI (mop P f s) 47 = fun j => if gI s 46 7 ≤ j ∧ j < gI s 46 7 + 4 then 0 else gI s 47 j := rfl
theorem mop_48 {P : Pg} {f : Int} {s : St} : gI (mop P f s) 48 = fun j => if gI s 46 7 ≤ j ∧ j < gI s 46 7 + 4 then 4 + 4 * f + (j - gI s 46 7) else gI s 48 j := rfl
theorem mop_50 {P : Pg} {f : Int} {s : St} : gI (mop P f s) 50 = fun j => if j = gI s 46 6 then f else gI s 50 j := by
  show gI (mtk (4 + 4 * f) 4 (sI (sI s 50 (gI s 46 6) f) 51 (gI s 46 6) (stt P f))) 50 = _
  rw [mtk_ne (by decide) (by decide) (by decide), gI_rne (by decide), gI_row]
theorem mop_51 {P : Pg} {f : Int} {s : St} : gI (mop P f s) 51 = fun j => if j = gI s 46 6 then stt P f else gI s 51 j := by
  show gI (mtk (4 + 4 * f) 4 (sI (sI s 50 (gI s 46 6) f) 51 (gI s 46 6) (stt P f))) 51 = _
  rw [mtk_ne (by decide) (by decide) (by decide), gI_row, gI_rne (by decide)]
theorem mop_52 {P : Pg} {f : Int} {s : St} : gI (mop P f s) 52 = fun j => if j = gI s 46 6 then gI s 46 7 else gI s 52 j := by
  show gI (sI (mtk (4 + 4 * f) 4 (sI (sI s 50 (gI s 46 6) f) 51 (gI s 46 6) (stt P f))) 52 (gI s 46 6) (gI s 46 7)) 52 = _
  rw [gI_row, mtk_ne (by decide) (by decide) (by decide), gI_rne (by decide), gI_rne (by decide)]
/-- what a machine's state keeps -/
def WFf (P : Pg) (D U X fa ob : Int) (m c f n r : Int → Int) : Prop :=
  (0 ≤ D ∧ D ≤ 6) ∧ ((0 ≤ X ∧ X ≤ 200) ∧ ((5 ≤ U ∧ U ≤ 9 + 4 * X) ∧ (((0 ≤ fa ∧ fa ≤ X) ∧ (0 ≤ ob ∧ ob ≤ X)) ∧
  ((∀ a, 1 ≤ a → a < U → (0 ≤ m a ∧ m a < U) ∧ (0 ≤ c a ∧ c a < 44)) ∧
  ((∀ a k, 1 ≤ a → a < U → 20 ≤ c a → 0 ≤ k → (c a - 20) % 3 + k ≤ 2 → a + k < U ∧ c (a + k) = c a + k) ∧
  ((∀ i, 0 ≤ i → i < D → (0 ≤ f i ∧ f i ≤ 3) ∧ ((stt P (f i) ≤ n i ∧ n i ≤ stt P (f i + 1)) ∧ (5 ≤ r i ∧ r i + 3 < U))) ∧
  (∀ i, 0 ≤ i → i + 1 < D → stt P (f i) < n i)))))))
def WFM (P : Pg) (s : St) : Prop := WFf P (gI s 46 6) (gI s 46 7) (gI s 46 8) (gI s 46 9) (gI s 46 10) (gI s 47) (gI s 48) (gI s 50) (gI s 51) (gI s 52)
theorem WF_mem {P : Pg} {D U X fa ob : Int} {m c f n r : Int → Int} (h : WFf P D U X fa ob m c f n r) {a p : Int} (hp : 0 ≤ p ∧ p < U) : WFf P D U X fa ob (fun j => if j = a then p else m j) c f n r := by
  obtain ⟨h1, h2, h3, h4, h5, h6, h7, h8⟩ := h
  refine ⟨h1, h2, h3, h4, fun b b0 b1 => ⟨?_, (h5 b b0 b1).2⟩, h6, h7, h8⟩
  show 0 ≤ (if b = a then p else m b) ∧ (if b = a then p else m b) < U
  by_cases q : b = a
  · rw [if_pos q]; exact hp
  · rw [if_neg q]; exact (h5 b b0 b1).1
theorem WF_X {P : Pg} {D U X fa ob X' : Int} {m c f n r : Int → Int} (h : WFf P D U X fa ob m c f n r) (hx : X ≤ X' ∧ X' ≤ 200) : WFf P D U X' fa ob m c f n r := by
  obtain ⟨h1, h2, h3, h4, h5⟩ := h
  exact ⟨h1, by omega, by omega, by omega, h5⟩
theorem WF_fa {P : Pg} {D U X fa ob fa' : Int} {m c f n r : Int → Int} (h : WFf P D U X fa ob m c f n r) (hx : 0 ≤ fa' ∧ fa' ≤ X) : WFf P D U X fa' ob m c f n r := by
  obtain ⟨h1, h2, h3, h4, h5⟩ := h
  exact ⟨h1, h2, h3, ⟨hx, h4.2⟩, h5⟩
theorem WF_ob {P : Pg} {D U X fa ob ob' : Int} {m c f n r : Int → Int} (h : WFf P D U X fa ob m c f n r) (hx : 0 ≤ ob' ∧ ob' ≤ X) : WFf P D U X fa ob' m c f n r := by
  obtain ⟨h1, h2, h3, h4, h5⟩ := h
  exact ⟨h1, h2, h3, ⟨h4.1, hx⟩, h5⟩
theorem WF_tk {P : Pg} {D U X fa ob : Int} {m c f n r : Int → Int} (h : WFf P D U X fa ob m c f n r) {k c0 : Int} (hk : 0 ≤ k ∧ U + k ≤ 9 + 4 * X) (hc : 0 ≤ c0 ∧ c0 + k ≤ 44) (h20 : c0 + k ≤ 20 ∨ (k = 3 ∧ 20 ≤ c0 ∧ (c0 - 20) % 3 = 0)) :
    WFf P D (U + k) X fa ob (fun j => if U ≤ j ∧ j < U + k then 0 else m j) (fun j => if U ≤ j ∧ j < U + k then c0 + (j - U) else c j) f n r := by
  obtain ⟨h1, h2, h3, h4, h5, h6, h7, h8⟩ := h
  refine ⟨h1, h2, ⟨by omega, hk.2⟩, h4, fun a a0 a1 => ⟨?_, ?_⟩, fun a j a0 a1 a2 j0 j1 => ?_, fun i i0 i1 => ⟨(h7 i i0 i1).1, (h7 i i0 i1).2.1, (h7 i i0 i1).2.2.1, ?_⟩, h8⟩
  · show 0 ≤ (if U ≤ a ∧ a < U + k then 0 else m a) ∧ (if U ≤ a ∧ a < U + k then 0 else m a) < U + k
    by_cases q : U ≤ a ∧ a < U + k
    · rw [if_pos q]; omega
    · rw [if_neg q]; have := (h5 a a0 (by omega)).1; omega
  · show 0 ≤ (if U ≤ a ∧ a < U + k then c0 + (a - U) else c a) ∧ (if U ≤ a ∧ a < U + k then c0 + (a - U) else c a) < 44
    by_cases q : U ≤ a ∧ a < U + k
    · rw [if_pos q]; omega
    · rw [if_neg q]; exact (h5 a a0 (by omega)).2
  · revert a2 j1
    show 20 ≤ (if U ≤ a ∧ a < U + k then c0 + (a - U) else c a) → ((if U ≤ a ∧ a < U + k then c0 + (a - U) else c a) - 20) % 3 + j ≤ 2 → a + j < U + k ∧ (if U ≤ a + j ∧ a + j < U + k then c0 + (a + j - U) else c (a + j)) = (if U ≤ a ∧ a < U + k then c0 + (a - U) else c a) + j
    by_cases q : U ≤ a ∧ a < U + k
    · rw [if_pos q]
      intro a2 j1
      have e : a + j < U + k := by omega
      rw [if_pos ⟨by omega, e⟩]
      exact ⟨e, by omega⟩
    · rw [if_neg q]
      intro a2 j1
      have e := h6 a j a0 (by omega) a2 j0 j1
      rw [if_neg (by omega)]
      exact ⟨by omega, e.2⟩
  · have := (h7 i i0 i1).2.2.2; omega
theorem WF_nx {P : Pg} {D U X fa ob : Int} {m c f n r : Int → Int} (h : WFf P D U X fa ob m c f n r) {i v : Int} (hi : i = D - 1) (hv : stt P (f i) < v ∧ v ≤ stt P (f i + 1)) : WFf P D U X fa ob m c f (fun j => if j = i then v else n j) r := by
  obtain ⟨h1, h2, h3, h4, h5, h6, h7, h8⟩ := h
  refine ⟨h1, h2, h3, h4, h5, h6, fun j j0 j1 => ⟨(h7 j j0 j1).1, ?_, (h7 j j0 j1).2.2⟩, fun j j0 j1 => ?_⟩
  · show stt P (f j) ≤ (if j = i then v else n j) ∧ (if j = i then v else n j) ≤ stt P (f j + 1)
    by_cases q : j = i
    · rw [if_pos q, q]; omega
    · rw [if_neg q]; exact (h7 j j0 j1).2.1
  · show stt P (f j) < (if j = i then v else n j)
    rw [if_neg (by omega)]; exact h8 j j0 j1
theorem WF_push {P : Pg} (hz : okZ P) {D U X fa ob g : Int} {m c f n r : Int → Int} (h : WFf P D U X fa ob m c f n r) (hD : D < 6) (hg : 0 ≤ g ∧ g ≤ 3) (hn : 0 < D → stt P (f (D - 1)) < n (D - 1)) (hu : U + 4 ≤ 9 + 4 * X) :
    WFf P (D + 1) (U + 4) X fa ob (fun j => if U ≤ j ∧ j < U + 4 then 0 else m j) (fun j => if U ≤ j ∧ j < U + 4 then 4 + 4 * g + (j - U) else c j) (fun j => if j = D then g else f j) (fun j => if j = D then stt P g else n j) (fun j => if j = D then U else r j) := by
  obtain ⟨h1, h2, h3, h4, h5, h6, h7, h8⟩ := WF_tk h (k := 4) (c0 := 4 + 4 * g) (by omega) (by omega) (Or.inl (by omega))
  have hs := stt_succ P hg.1 hg.2
  have hz := okZ_at hz hg.1 hg.2
  have h3' := h.2.2.1
  refine ⟨by omega, h2, h3, h4, h5, h6, fun i i0 i1 => ?_, fun i i0 i1 => ?_⟩
  · show (0 ≤ (if i = D then g else f i) ∧ (if i = D then g else f i) ≤ 3) ∧ ((stt P (if i = D then g else f i) ≤ (if i = D then stt P g else n i) ∧ (if i = D then stt P g else n i) ≤ stt P ((if i = D then g else f i) + 1)) ∧ (5 ≤ (if i = D then U else r i) ∧ (if i = D then U else r i) + 3 < U + 4))
    by_cases q : i = D
    · simp only [if_pos q]; refine ⟨hg, ⟨by omega, by omega⟩, by omega, by omega⟩
    · simp only [if_neg q]; exact h7 i i0 (by omega)
  · show stt P (if i = D then g else f i) < (if i = D then stt P g else n i)
    rw [if_neg (by omega), if_neg (by omega)]
    by_cases q : i + 1 < D
    · exact h8 i i0 q
    · have e : i = D - 1 := by omega
      rw [e]; exact hn (by omega)
theorem WF_pop {P : Pg} {D U X fa ob : Int} {m c f n r : Int → Int} (h : WFf P D U X fa ob m c f n r) (hD : 0 < D) : WFf P (D - 1) U X fa ob m c f n r := by
  obtain ⟨h1, h2, h3, h4, h5, h6, h7, h8⟩ := h
  exact ⟨by omega, h2, h3, h4, h5, h6, fun i i0 i1 => h7 i i0 (by omega), fun i i0 i1 => h8 i i0 (by omega)⟩
theorem W_wr {P : Pg} {s : St} {a p : Int} (h : WFM P s) (hp : 0 ≤ p ∧ p < gI s 46 7) : WFM P (mwr a p s) := by
  unfold WFM at *
  rw [mwr_47, mwr_ne (by decide), mwr_ne (by decide), mwr_ne (by decide), mwr_ne (by decide), mwr_ne (by decide)]
  exact WF_mem h hp
theorem W_fl {P : Pg} {s : St} (h : WFM P s) (hf : gI s 46 9 + 1 ≤ gI s 46 8) : WFM P (mfl s) := by
  have h9 := h.2.2.2.1.1
  exact WF_fa (fa' := gI s 46 9 + 1) h ⟨by omega, hf⟩
theorem W_X {P : Pg} {s : St} (h : WFM P s) (hx : gI s 46 8 < 200) : WFM P (sI s 46 8 (gI s 46 8 + 1)) :=
  WF_X (X' := gI s 46 8 + 1) h ⟨by omega, by omega⟩
theorem W_op {P : Pg} (hz : okZ P) {s : St} {g : Int} (h : WFM P s) (hD : gI s 46 6 < 6) (hg : 0 ≤ g ∧ g ≤ 3) (hn : 0 < gI s 46 6 → stt P (gI s 50 (gI s 46 6 - 1)) < gI s 51 (gI s 46 6 - 1)) (hu : gI s 46 7 + 4 ≤ 9 + 4 * gI s 46 8) : WFM P (mop P g s) := by
  have := WF_push hz h hD hg hn hu
  unfold WFM
  rw [mop_46, mop_46, mop_46, mop_46, mop_46, mop_47, mop_48, mop_50, mop_51, mop_52]
  exact this
theorem W_tk {P : Pg} {s : St} {k c0 : Int} (h : WFM P s) (hk : 0 ≤ k ∧ gI s 46 7 + k ≤ 9 + 4 * gI s 46 8) (hc : 0 ≤ c0 ∧ c0 + k ≤ 44) (h20 : c0 + k ≤ 20 ∨ (k = 3 ∧ 20 ≤ c0 ∧ (c0 - 20) % 3 = 0)) : WFM P (mtk c0 k s) := by
  have := WF_tk h hk hc h20
  unfold WFM
  rw [mtk_46, mtk_46, mtk_46, mtk_46, mtk_46, mtk_47, mtk_48, mtk_ne (by decide) (by decide) (by decide), mtk_ne (by decide) (by decide) (by decide), mtk_ne (by decide) (by decide) (by decide)]
  exact this
theorem madr_rng {P : Pg} {s : St} (h : WFM P s) {v : Int} (hD : 0 < gI s 46 6) (hv : 0 ≤ v) : 1 ≤ madr v s ∧ madr v s < gI s 46 7 := by
  have h3 := h.2.2.1
  unfold madr
  by_cases q : v < 4
  · rw [if_pos q]; omega
  · rw [if_neg q]
    have := (h.2.2.2.2.2.2.1 (gI s 46 6 - 1) (by omega) (by omega)).2.2
    omega
theorem madr_46 {s : St} {v j x : Int} (hj : j ≠ 6) : madr v (sI s 46 j x) = madr v s := by
  unfold madr
  rw [gI_rne (show (52 : Nat) ≠ 46 by decide), show gI (sI s 46 j x) 46 6 = gI s 46 6 from by rw [gI_sI, if_neg (fun k => hj k.2.symm)]]
theorem mtk_U {s : St} {c n : Int} : gI (mtk c n s) 46 7 = gI s 46 7 + n := by rw [mtk_46, if_pos rfl]
/-- an executed statement keeps it -/
theorem W_ex1 {P : Pg} (hP : okP P) {s : St} {n l r : Int} (h : WFM P s) (n0 : 0 ≤ n) (n1 : n < tot P) (hD : 0 < gI s 46 6) (hl : 1 ≤ l ∧ l < gI s 46 7) (hr : 1 ≤ r ∧ r < gI s 46 7) (hX : 1 ≤ gI s 46 8) (hfa : gI s 46 9 + 1 ≤ gI s 46 8) (hob : gI s 46 10 + 1 ≤ gI s 46 8) (hu : gI s 46 7 + 4 ≤ 9 + 4 * gI s 46 8)
    (hn : stt P (gI s 50 (gI s 46 6 - 1)) < gI s 51 (gI s 46 6 - 1)) : WFM P (mex1 P n l r s) := by
  obtain ⟨hk, ⟨hv, hw, hnn⟩, h5⟩ := hP.2.1 n n0 n1
  have hm := h.2.2.2.2.1
  have hob0 := h.2.2.2.1.2
  have mr := (hm r hr.1 hr.2).1
  have ml := (hm l hl.1 hl.2).1
  unfold mex1
  by_cases e0 : kd P n = 0
  · rw [if_pos e0]; exact W_wr h (by omega)
  rw [if_neg e0]
  by_cases e1 : kd P n = 1
  · rw [if_pos e1]; exact W_wr h mr
  rw [if_neg e1]
  by_cases e2 : kd P n = 2
  · rw [if_pos e2]
    by_cases q : gI s 47 r = 0
    · rw [if_pos q]; exact W_fl h hfa
    · rw [if_neg q]; exact W_wr h (hm _ (by omega) mr.2).1
  rw [if_neg e2]
  by_cases e3 : kd P n = 3
  · rw [if_pos e3]
    by_cases q : gI s 47 l = 0
    · rw [if_pos q]; exact W_fl h hfa
    · rw [if_neg q]; exact W_wr h mr
  rw [if_neg e3]
  by_cases e4 : kd P n = 4
  · rw [if_pos e4]
    have hs := sn_lt hP n0 n1 e4
    have h1 : WFM P (sI s 46 10 (gI s 46 10 + 1)) := WF_ob (ob' := gI s 46 10 + 1) h ⟨by omega, hob⟩
    have h2 := W_tk (k := 3) (c0 := 20 + 3 * sn P n + 0) h1 (by refine ⟨by omega, ?_⟩; show gI s 46 7 + 3 ≤ 9 + 4 * gI s 46 8; omega) (by omega) (Or.inr ⟨rfl, by omega, by omega⟩)
    refine W_wr h2 ?_
    rw [mtk_U]
    show 0 ≤ gI s 46 7 ∧ gI s 46 7 < gI s 46 7 + 3
    omega
  rw [if_neg e4]
  by_cases e5 : kd P n = 5
  · rw [if_pos e5]
    by_cases q : gI s 47 r = 0 ∨ nn P n = 0
    · rw [if_pos q]; exact W_wr h mr
    · rw [if_neg q]
      by_cases q2 : gI s 48 (gI s 47 r) - 20 < 0 ∨ ¬ ((gI s 48 (gI s 47 r) - 20) % 3 + nn P n < 3)
      · rw [if_pos q2]; exact W_fl h hfa
      · rw [if_neg q2]
        have := (h.2.2.2.2.2.1 (gI s 47 r) (nn P n) (by omega) mr.2 (by omega) hnn.1 (by omega)).1
        exact W_wr h (by omega)
  rw [if_neg e5]
  by_cases q : gI s 46 6 < 6 ∧ gI s 46 8 < 200
  · rw [if_pos q]
    have h2 := W_op hP.1 (g := nn P n) h q.1 hnn (fun _ => hn) hu
    refine W_wr h2 ?_
    rw [mop_46, if_neg (by decide), if_pos rfl]
    omega
  · rw [if_neg q]; exact h
theorem W_st {P : Pg} (hP : okP P) {s : St} (h : WFM P s) (hg : mgo s) : WFM P (mst P s) := by
  have hD := hg.1
  have hX := hg.2
  have hs := h.2.2.2.2.2.2.1 (gI s 46 6 - 1) (by omega) (by omega)
  have h2 := h.2.1
  have h4 := h.2.2.2.1
  have h3 := h.2.2.1
  unfold mst
  by_cases q : gI s 51 (gI s 46 6 - 1) < stt P (gI s 50 (gI s 46 6 - 1) + 1)
  · rw [if_pos q]
    have hst := stt_rng hP.1 hs.1.1 hs.1.2
    have hss := stt_succ P hs.1.1 hs.1.2
    have w1 : WFM P (sI s 51 (gI s 46 6 - 1) (gI s 51 (gI s 46 6 - 1) + 1)) := by
      have := WF_nx h (i := gI s 46 6 - 1) (v := gI s 51 (gI s 46 6 - 1) + 1) rfl (by omega)
      unfold WFM
      rw [gI_row, gI_rne (by decide), gI_rne (by decide), gI_rne (by decide), gI_rne (by decide), gI_rne (by decide)]
      exact this
    have w2 := W_X w1 hX
    unfold mex
    refine W_ex1 hP w2 (by omega) (by omega) hD ?_ ?_ ?_ ?_ ?_ ?_ ?_
    · exact madr_rng w1 hD (hP.2.1 _ (by omega) (by omega)).2.1.1.1
    · exact madr_rng w1 hD (hP.2.1 _ (by omega) (by omega)).2.1.2.1.1
    · show 1 ≤ gI s 46 8 + 1; omega
    · show gI s 46 9 + 1 ≤ gI s 46 8 + 1; omega
    · show gI s 46 10 + 1 ≤ gI s 46 8 + 1; omega
    · show gI s 46 7 + 4 ≤ 9 + 4 * (gI s 46 8 + 1); omega
    · show stt P (gI s 50 (gI s 46 6 - 1)) < gI (sI s 51 (gI s 46 6 - 1) (gI s 51 (gI s 46 6 - 1) + 1)) 51 (gI s 46 6 - 1)
      rw [gI_sI, if_pos ⟨rfl, rfl⟩]; omega
  · rw [if_neg q]
    have w1 : WFM P (sI s 46 6 (gI s 46 6 - 1)) := WF_pop h hD
    have hm := h.2.2.2.2.1
    have ha := madr_rng h hD (v := 4 + 4 * gI s 50 (gI s 46 6 - 1) + 1) (by omega)
    unfold mcl
    by_cases q2 : 0 < gI s 46 6 - 1
    · rw [if_pos q2]; exact W_wr w1 (hm _ ha.1 ha.2).1
    · rw [if_neg q2]; exact w1

theorem wr_46 {a p : Int} {s : St} {j : Int} : gI (mwr a p s) 46 j = gI s 46 j := by rw [mwr_ne (by decide)]
theorem ex1_46 {P : Pg} {n l r : Int} {s : St} : gI (mex1 P n l r s) 46 8 = gI s 46 8 ∧ gI (mex1 P n l r s) 46 6 ≤ gI s 46 6 + 1 := by
  have z : gI s 46 6 ≤ gI s 46 6 + 1 := by omega
  have fl : gI (mfl s) 46 8 = gI s 46 8 ∧ gI (mfl s) 46 6 ≤ gI s 46 6 + 1 := ⟨rfl, z⟩
  unfold mex1
  repeat' split
  · rw [wr_46, wr_46]; exact ⟨rfl, z⟩
  · rw [wr_46, wr_46]; exact ⟨rfl, z⟩
  · exact fl
  · rw [wr_46, wr_46]; exact ⟨rfl, z⟩
  · exact fl
  · rw [wr_46, wr_46]; exact ⟨rfl, z⟩
  · rw [wr_46, wr_46, mtk_46, mtk_46, if_neg (by decide), if_neg (by decide)]; exact ⟨rfl, z⟩
  · rw [wr_46, wr_46]; exact ⟨rfl, z⟩
  · exact fl
  · rw [wr_46, wr_46]; exact ⟨rfl, z⟩
  · rw [wr_46, wr_46, mop_46, mop_46, if_neg (by decide), if_neg (by decide), if_pos rfl]; exact ⟨rfl, Int.le_refl _⟩
  · exact ⟨rfl, z⟩
theorem st_46 {P : Pg} {s : St} : gI (mst P s) 46 6 - 2 * gI (mst P s) 46 8 + 1 ≤ gI s 46 6 - 2 * gI s 46 8 := by
  unfold mst
  split
  · unfold mex
    obtain ⟨h1, h2⟩ := ex1_46 (P := P) (n := gI s 51 (gI s 46 6 - 1)) (l := madr (vv P (gI s 51 (gI s 46 6 - 1))) (sI s 51 (gI s 46 6 - 1) (gI s 51 (gI s 46 6 - 1) + 1))) (r := madr (ww P (gI s 51 (gI s 46 6 - 1))) (sI s 51 (gI s 46 6 - 1) (gI s 51 (gI s 46 6 - 1) + 1))) (s := sI (sI s 51 (gI s 46 6 - 1) (gI s 51 (gI s 46 6 - 1) + 1)) 46 8 (gI (sI s 51 (gI s 46 6 - 1) (gI s 51 (gI s 46 6 - 1) + 1)) 46 8 + 1))
    have e8 : gI (sI (sI s 51 (gI s 46 6 - 1) (gI s 51 (gI s 46 6 - 1) + 1)) 46 8 (gI (sI s 51 (gI s 46 6 - 1) (gI s 51 (gI s 46 6 - 1) + 1)) 46 8 + 1)) 46 8 = gI s 46 8 + 1 := rfl
    have e6 : gI (sI (sI s 51 (gI s 46 6 - 1) (gI s 51 (gI s 46 6 - 1) + 1)) 46 8 (gI (sI s 51 (gI s 46 6 - 1) (gI s 51 (gI s 46 6 - 1) + 1)) 46 8 + 1)) 46 6 = gI s 46 6 := rfl
    omega
  · unfold mcl
    have e8 : gI (sI s 46 6 (gI s 46 6 - 1)) 46 8 = gI s 46 8 := rfl
    have e6 : gI (sI s 46 6 (gI s 46 6 - 1)) 46 6 = gI s 46 6 - 1 := rfl
    split
    · rw [wr_46, wr_46, e8, e6]; omega
    · rw [e8, e6]; omega
theorem mcr_46 {s : St} : gI (mcr s) 46 6 = 0 ∧ (gI (mcr s) 46 7 = 5 ∧ (gI (mcr s) 46 8 = 0 ∧ (gI (mcr s) 46 9 = 0 ∧ gI (mcr s) 46 10 = 0))) := ⟨rfl, rfl, rfl, rfl, rfl⟩
theorem mcr_47 {s : St} {j : Int} (h0 : 1 ≤ j) (h1 : j < 5) : gI (mcr s) 47 j = 0 ∧ gI (mcr s) 48 j = j - 1 := by
  have e : ∀ τ : St, gI τ 46 7 = 1 → gI (mtk 0 4 τ) 47 j = 0 ∧ gI (mtk 0 4 τ) 48 j = j - 1 := fun τ h => by
    rw [mtk_47, mtk_48, h]
    show (if 1 ≤ j ∧ j < 1 + 4 then 0 else _) = 0 ∧ (if 1 ≤ j ∧ j < 1 + 4 then 0 + (j - 1) else _) = j - 1
    rw [if_pos ⟨h0, by omega⟩, if_pos ⟨h0, by omega⟩]
    exact ⟨rfl, by omega⟩
  exact e _ rfl
theorem W_0 {P : Pg} (hz : okZ P) (s : St) : WFM P (ms0 P s) := by
  obtain ⟨h6, h7, h8, h9, h10⟩ := mcr_46 (s := s)
  have hs0 := stt_rng hz (f := 0) (by omega) (by omega)
  have hz0 := okZ_at hz (f := 0) (by omega) (by omega)
  have hss := stt_succ P (f := 0) (by omega) (by omega)
  unfold ms0 WFM
  rw [mop_46, mop_46, mop_46, mop_46, mop_46, mop_47, mop_48, mop_50, mop_51, mop_52, h6, h7]
  simp only [show (6 : Int) = 6 from rfl, if_true, show ¬ ((7 : Int) = 6) by decide, show ¬ ((8 : Int) = 6) by decide, show ¬ ((8 : Int) = 7) by decide, show ¬ ((9 : Int) = 6) by decide, show ¬ ((9 : Int) = 7) by decide, show ¬ ((10 : Int) = 6) by decide, show ¬ ((10 : Int) = 7) by decide, if_false, h8, h9, h10]
  refine ⟨by omega, by omega, by omega, by omega, fun a a0 a1 => ?_, fun a k a0 a1 a2 k0 k1 => ?_, fun i i0 i1 => ?_, fun i i0 i1 => by omega⟩
  · by_cases q : 5 ≤ a ∧ a < 5 + 4
    · simp only [if_pos q]; omega
    · obtain ⟨e1, e2⟩ := mcr_47 (s := s) (j := a) (by omega) (by omega)
      simp only [if_neg q]; rw [e1, e2]; omega
  · exfalso
    by_cases q : 5 ≤ a ∧ a < 5 + 4
    · simp only [if_pos q] at a2; omega
    · obtain ⟨e1, e2⟩ := mcr_47 (s := s) (j := a) (by omega) (by omega)
      simp only [if_neg q] at a2; rw [e2] at a2; omega
  · have e : i = 0 := by omega
    subst e
    simp only [if_true]
    exact ⟨⟨by omega, by omega⟩, ⟨by omega, by omega⟩, by omega, by omega⟩
/-! the law's questions: a fresh law, its contexts -/
noncomputable def wSa (S : Int → Prop) : Nat → BitVec 64
  | 0 => BitVec.ofNat 64 0
  | n + 1 => wSa S n ||| (if dcl (S n) = true then BitVec.ofNat 64 1 <<< n else BitVec.ofNat 64 0)
theorem wSa_bit (S : Int → Prop) : ∀ n : Nat, n ≤ 64 → ∀ t : Nat, (wSa S n).getLsbD t = true ↔ (t < n ∧ S t)
  | 0, _, t => by simp [wSa]
  | n + 1, hn, t => by
    show (wSa S n ||| _).getLsbD t = true ↔ _
    rw [BitVec.getLsbD_or, Bool.or_eq_true, wSa_bit S n (by omega) t]
    by_cases q : S n
    · rw [dcl_t q, if_pos rfl, bb_one (by omega), decide_eq_true_eq]
      constructor
      · rintro (⟨h, k⟩ | h)
        · exact ⟨by omega, k⟩
        · exact ⟨by omega, by rw [h]; exact q⟩
      · rintro ⟨h, k⟩
        by_cases e : t = n
        · exact Or.inr e
        · exact Or.inl ⟨by omega, k⟩
    · rw [dcl_f q, if_neg (by decide)]
      have z : (BitVec.ofNat 64 0).getLsbD t = false := by simp
      rw [z]
      constructor
      · rintro (⟨h, k⟩ | h)
        · exact ⟨by omega, k⟩
        · cases h
      · rintro ⟨h, k⟩
        by_cases e : t = n
        · rw [e] at k; exact absurd k q
        · exact Or.inl ⟨by omega, k⟩
/-- the word of a set -/
noncomputable def wS (S : Int → Prop) : BitVec 64 := wSa S 64
theorem SW_wS (S : Int → Prop) : SW (wS S) S := fun t ht => (wSa_bit S 64 (Nat.le_refl _) t).trans ⟨fun h => h.2, fun h => ⟨ht, h⟩⟩
theorem wS_of {l : BitVec 64} {S : Int → Prop} (h : SW l S) : l = wS S := SW_eq h (SW_wS S)
theorem wS_congr {S S' : Int → Prop} (h : ∀ t : Nat, t < 64 → (S t ↔ S' t)) : wS S = wS S' := wS_of (SW_congr (SW_wS S) h)
theorem wS_or (S S' : Int → Prop) : wS S ||| wS S' = wS (fun t => S t ∨ S' t) := wS_of (SW_or (SW_wS S) (SW_wS S'))
theorem wS_pw (S : Int → Prop) : pw (wS S) = cn (fun t => dcl (S t)) 64 := cn_congr (fun m m0 m1 => by
  have h := SW_wS S m.toNat (by omega)
  rw [show ((m.toNat : Nat) : Int) = m by omega] at h
  by_cases q : S m
  · rw [dcl_t q]; exact h.mpr q
  · rw [dcl_f q]
    cases z : (wS S).getLsbD m.toNat with
    | false => rfl
    | true => exact absurd (h.mp z) q)
/-! the law's questions: targets -/
def TSp (P : Pg) (xs : List Int) (lim c : Int) : Int → Prop := fun t => ∃ u, Lf P xs lim c u ∧ cdf xs u = t
theorem fpop_congr {F F' : Int → BitVec 64} (h : ∀ k : Int, 0 ≤ k → k < 456 → F k = F' k) : fpop F = fpop F' := fsum_congr (fun k k0 k1 => h k k0 (by omega))
/-- the number of facts -/
noncomputable def FN (P : Pg) (xs : List Int) (lim : Int) : Int := fpop (fun k => wS (fun t => Lf P xs lim (k / 3) (64 * (k % 3) + t)))
/-- mayAlias -/
def alp (P : Pg) (xs : List Int) (lim v w : Int) : Prop := ∃ t : Nat, t < 64 ∧ (im xs (Lf P xs lim) v t ∧ im xs (Lf P xs lim) w t)
def IW (z : Int) (S : Int → Prop) : Prop := ∃ n : Nat, z = (n : Int) ∧ (n < 2147483648 ∧ ∀ t : Nat, t < 31 → (n.testBit t = true ↔ S t))
theorem IW_rng {z : Int} {S : Int → Prop} (h : IW z S) : 0 ≤ z ∧ z < 2147483648 := by
  obtain ⟨n, e, h1, _⟩ := h
  omega
theorem IW_inR {z : Int} {S : Int → Prop} (h : IW z S) : inR z := by have := IW_rng h; exact ⟨by omega, by omega⟩
theorem IW_congr {z : Int} {S S' : Int → Prop} (h : IW z S) (hS : ∀ t : Nat, t < 31 → (S t ↔ S' t)) : IW z S' := by
  obtain ⟨n, e, h1, h2⟩ := h
  exact ⟨n, e, h1, fun t ht => (h2 t ht).trans (hS t ht)⟩
theorem IW_eq {z z' : Int} {S : Int → Prop} (h : IW z S) (h' : IW z' S) : z = z' := by
  obtain ⟨n, e, h1, h2⟩ := h
  obtain ⟨n', e', h1', h2'⟩ := h'
  have : n = n' := by
    apply Nat.eq_of_testBit_eq
    intro i
    by_cases q : i < 31
    · have k := (h2 i q).trans (h2' i q).symm
      cases a : n.testBit i <;> cases b : n'.testBit i
      · rfl
      · rw [a, b] at k; exact absurd (k.mpr rfl) (by decide)
      · rw [a, b] at k; exact absurd (k.mp rfl) (by decide)
      · rfl
    · have p : 2147483648 ≤ 2 ^ i := Nat.pow_le_pow_right (n := 2) (by omega) (show 31 ≤ i by omega)
      rw [Nat.testBit_lt_two_pow (by omega), Nat.testBit_lt_two_pow (by omega)]
  rw [e, e', this]
noncomputable def nS (S : Int → Prop) : Nat → Nat
  | 0 => 0
  | n + 1 => nS S n ||| (if dcl (S n) = true then 2 ^ n else 0)
theorem nS_lt (S : Int → Prop) : ∀ n, nS S n < 2 ^ n
  | 0 => by show 0 < 2 ^ 0; omega
  | n + 1 => by
    show nS S n ||| _ < 2 ^ (n + 1)
    have h := nS_lt S n
    have p : 2 ^ n < 2 ^ (n + 1) := Nat.pow_lt_pow_right (by omega) (by omega)
    refine Nat.or_lt_two_pow (by omega) ?_
    split <;> omega
theorem nS_bit (S : Int → Prop) : ∀ n t : Nat, (nS S n).testBit t = true ↔ (t < n ∧ S t)
  | 0, t => by show Nat.testBit 0 t = true ↔ _; simp
  | n + 1, t => by
    show (nS S n ||| _).testBit t = true ↔ _
    rw [Nat.testBit_or, Bool.or_eq_true, nS_bit S n t]
    by_cases q : S n
    · rw [dcl_t q, if_pos rfl, Nat.testBit_two_pow, decide_eq_true_eq]
      constructor
      · rintro (⟨h, k⟩ | h)
        · exact ⟨by omega, k⟩
        · exact ⟨by omega, by rw [← h]; exact q⟩
      · rintro ⟨h, k⟩
        by_cases e : t = n
        · exact Or.inr e.symm
        · exact Or.inl ⟨by omega, k⟩
    · rw [dcl_f q, if_neg (by decide)]
      constructor
      · rintro (⟨h, k⟩ | h)
        · exact ⟨by omega, k⟩
        · simp at h
      · rintro ⟨h, k⟩
        by_cases e : t = n
        · rw [e] at k; exact absurd k q
        · exact Or.inl ⟨by omega, k⟩
/-- the int of a set -/
noncomputable def iW (S : Int → Prop) : Int := (nS S 31 : Int)
theorem IW_iW (S : Int → Prop) : IW (iW S) S := ⟨nS S 31, rfl, nS_lt S 31, fun t ht => (nS_bit S 31 t).trans ⟨fun h => h.2, fun h => ⟨ht, h⟩⟩⟩
theorem iW_of {z : Int} {S : Int → Prop} (h : IW z S) : z = iW S := IW_eq h (IW_iW S)
theorem iW_congr {S S' : Int → Prop} (h : ∀ t : Nat, t < 31 → (S t ↔ S' t)) : iW S = iW S' := iW_of (IW_congr (IW_iW S) h)
/-- what the globals reach -/
def glR (P : Pg) (xs : List Int) (lim : Int) : Int → Prop := fun t => ∃ g, 0 ≤ g ∧ (g < 4 ∧ TC (im xs (Lf P xs lim)) g t)
def escS (P : Pg) (xs : List Int) (lim : Int) : Int → Prop := fun s => s < 8 ∧ ∃ t, (20 + 3 * s ≤ t ∧ t < 23 + 3 * s) ∧ glR P xs lim t
/-- when a fact may be asked for -/
def fAsk (P : Pg) (v w : Int) : Prop := (0 ≤ v ∧ v < 20) ∧ (0 ≤ w ∧ w < 20 + 3 * mny P 4 (-1))
/-- the number of rounds -/
def RDn (P : Pg) (ys : List Int) (lim : Int) (r : Int) : Prop := ∃ j : Nat, r = j ∧ ((∀ c u, Gr P ys lim (j + 1) c u → Gr P ys lim j c u) ∧ ∀ i, i < j → ∃ c u, Gr P ys lim (i + 1) c u ∧ ¬ Gr P ys lim i c u)
theorem RDn_uniq {P : Pg} {ys : List Int} {lim r r' : Int} (h : RDn P ys lim r) (h' : RDn P ys lim r') : r = r' := by
  obtain ⟨j, e, h1, h2⟩ := h
  obtain ⟨j', e', h1', h2'⟩ := h'
  rcases Nat.lt_trichotomy j j' with q | q | q
  · obtain ⟨c, u, k1, k2⟩ := h2' j q; exact absurd (h1 c u k1) k2
  · omega
  · obtain ⟨c, u, k1, k2⟩ := h2 j' q; exact absurd (h1' c u k1) k2
/-! the law's questions: calls and flow -/
def ECl (P : Pg) (f g : Int) : Prop := ∃ n, 0 ≤ n ∧ (n < tot P ∧ (own P n = f ∧ (kd P n = 6 ∧ nn P n = g)))
def EFn (P : Pg) (n a b : Int) : Prop := (kd P n = 1 ∧ (a = ww P n ∧ b = vv P n)) ∨ (kd P n = 6 ∧ ((a = ww P n ∧ b = 4 + 4 * nn P n) ∨ (a = 4 + 4 * nn P n + 1 ∧ b = vv P n)))
def EFl (P : Pg) (a b : Int) : Prop := ∃ n, 0 ≤ n ∧ (n < tot P ∧ EFn P n a b)
theorem EFn_rng {P : Pg} (hP : okP P) {n a b : Int} (n0 : 0 ≤ n) (n1 : n < tot P) (h : EFn P n a b) : (0 ≤ a ∧ a < 20) ∧ (0 ≤ b ∧ b < 20) := by
  obtain ⟨hv, hw, hn⟩ := (hP.2.1 n n0 n1).2.1
  rcases h with ⟨_, e1, e2⟩ | ⟨_, ⟨e1, e2⟩ | ⟨e1, e2⟩⟩ <;> omega
/-- what a function may modify -/
def modS (P : Pg) (xs : List Int) (lim f : Int) : Int → Prop := fun t => ∃ n, 0 ≤ n ∧ (n < tot P ∧ (kd P n = 3 ∧ ((own P n = f ∨ TC (ECl P) f (own P n)) ∧ im xs (Lf P xs lim) (vv P n) t)))
/-- who is on a cycle with v -/
def cyS (P : Pg) (v : Int) : Int → Prop := fun x => x = v ∨ (TC (EFl P) v x ∧ TC (EFl P) x v)
/-! numbers with a point: none that is no number -/
def okD (f : FP.Core.Fmt) : FP.Core.Datum → Prop
  | .nan => False
  | .inf _ => True
  | .fin _ c q => c < 2 ^ f.p ∧ q ≤ f.qmax
theorem ok_bound {f : FP.Core.Fmt} {s : Bool} {c : Nat} {q : Int} (hc : c < 2 ^ f.p) : okD f (FP.Core.bound f s c q) := by
  unfold FP.Core.bound
  split
  · exact ⟨hc, by assumption⟩
  · trivial
theorem ok_ratio {f : FP.Core.Fmt} (hp : f.tails < 2 ^ f.p) (hq : f.qmin ≤ f.qmax) {s : Bool} {n d : Nat} {e : Int} : okD f (FP.Core.roundRatio f s n d e) := by
  unfold FP.Core.roundRatio
  split
  · exact ⟨Nat.pow_pos (by omega), hq⟩
  · unfold FP.Core.roundAt FP.Core.settle
    split
    · exact ok_bound (by assumption)
    · exact ok_bound hp
theorem enc64 {d : FP.Core.Datum} (h : okD FP.Core.b64 d) : FP.Core.encode FP.Core.b64 d < 18446744073709551616 ∧ FP.Core.encode FP.Core.b64 d % 9223372036854775808 ≤ 9218868437227405312 := by
  have ht : FP.Core.b64.tails = 4503599627370496 := rfl
  have he : FP.Core.b64.exps = 2048 := rfl
  have h1 : FP.Core.b64.qmin = -1074 := by decide
  have h2 : FP.Core.b64.qmax = 971 := by decide
  have h3 : 2 ^ FP.Core.b64.p = 9007199254740992 := rfl
  cases d with
  | nan => exact h.elim
  | inf s =>
    unfold FP.Core.encode FP.Core.assemble
    rw [ht, he]
    cases s <;> decide
  | fin s c q =>
    have h : c < 2 ^ FP.Core.b64.p ∧ q ≤ FP.Core.b64.qmax := h
    rw [h3, h2] at h
    have ee : FP.Core.encode FP.Core.b64 (.fin s c q) = if c < 4503599627370496 then (s.toNat * 2048 + 0) * 4503599627370496 + c else (s.toNat * 2048 + ((q - -1074).toNat + 1)) * 4503599627370496 + (c - 4503599627370496) := rfl
    rw [ee]
    have hs : s.toNat = 0 ∨ s.toNat = 1 := by cases s <;> decide
    split <;> rcases hs with e | e <;> rw [e] <;> omega
/-! the law: measures, saving -/
def sm (g : Int → Int) : Nat → Int
  | 0 => 0
  | n + 1 => sm g n + g n
theorem sm_rng {g : Int → Int} {b : Int} (hg : ∀ v, 0 ≤ g v ∧ g v ≤ b) : ∀ n : Nat, 0 ≤ sm g n ∧ sm g n ≤ n * b
  | 0 => ⟨Int.le_refl 0, by show (0 : Int) ≤ 0 * b; omega⟩
  | n + 1 => by
    have h := sm_rng hg n
    have := hg n
    show 0 ≤ sm g n + g n ∧ sm g n + g n ≤ ((n + 1 : Nat) : Int) * b
    rw [show ((n + 1 : Nat) : Int) * b = n * b + b by rw [Int.natCast_add, Int.add_mul]; show _ + 1 * b = _; omega]
    omega
noncomputable def ptN (P : Pg) (xs : List Int) (lim : Int) (v : Int) : Int := pw (wS (im xs (Lf P xs lim) v))
noncomputable def unN (P : Pg) (v : Int) : Int := pw (wS (ugT P (mny P 4 (-1)) v))
theorem ptN_rng (P : Pg) (xs : List Int) (lim v : Int) : 0 ≤ ptN P xs lim v ∧ ptN P xs lim v ≤ 64 := pw_rng _
theorem unN_rng (P : Pg) (v : Int) : 0 ≤ unN P v ∧ unN P v ≤ 64 := pw_rng _
