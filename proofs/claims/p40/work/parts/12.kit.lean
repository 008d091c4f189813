/-! frames -/
def fr (M : Nat → Int → Prop) (σ σ' : St) : Prop := ∀ c j, ¬ M c j → gI σ' c j = gI σ c j ∧ (gL σ' c j = gL σ c j ∧ gD σ' c j = gD σ c j)
theorem fr_refl {M : Nat → Int → Prop} {σ : St} : fr M σ σ := fun _ _ _ => ⟨rfl, rfl, rfl⟩
theorem fr_trans {M : Nat → Int → Prop} {σ σ1 σ2 : St} (h1 : fr M σ σ1) (h2 : fr M σ1 σ2) : fr M σ σ2 := fun c j h =>
  ⟨(h2 c j h).1.trans (h1 c j h).1, (h2 c j h).2.1.trans (h1 c j h).2.1, (h2 c j h).2.2.trans (h1 c j h).2.2⟩
theorem fr_mono {M M' : Nat → Int → Prop} {σ σ' : St} (h : fr M σ σ') (hm : ∀ c j, M c j → M' c j) : fr M' σ σ' := fun c j hn => h c j (fun g => hn (hm c j g))
theorem fr_I {M : Nat → Int → Prop} {σ σ' : St} (h : fr M σ σ') (c : Nat) (j : Int) (hn : ¬ M c j) : gI σ' c j = gI σ c j := (h c j hn).1
theorem fr_L {M : Nat → Int → Prop} {σ σ' : St} (h : fr M σ σ') (c : Nat) (j : Int) (hn : ¬ M c j) : gL σ' c j = gL σ c j := (h c j hn).2.1
theorem fr_D {M : Nat → Int → Prop} {σ σ' : St} (h : fr M σ σ') (c : Nat) (j : Int) (hn : ¬ M c j) : gD σ' c j = gD σ c j := (h c j hn).2.2
theorem fr_sI {M : Nat → Int → Prop} {σ σ1 : St} {c : Nat} {i v : Int} (h : fr M σ σ1) (hm : M c i) : fr M σ (sI σ1 c i v) := fun d j hn =>
  ⟨by rw [gI_sI, if_neg (fun g => hn (by rw [g.1, g.2]; exact hm))]; exact (h d j hn).1, (h d j hn).2.1, (h d j hn).2.2⟩
theorem fr_sL {M : Nat → Int → Prop} {σ σ1 : St} {c : Nat} {i : Int} {v : BitVec 64} (h : fr M σ σ1) (hm : M c i) : fr M σ (sL σ1 c i v) := fun d j hn =>
  ⟨(h d j hn).1, by rw [gL_sL, if_neg (fun g => hn (by rw [g.1, g.2]; exact hm))]; exact (h d j hn).2.1, (h d j hn).2.2⟩
theorem fr_sD {M : Nat → Int → Prop} {σ σ1 : St} {c : Nat} {i : Int} {v : UInt64} (h : fr M σ σ1) (hm : M c i) : fr M σ (sD σ1 c i v) := fun d j hn =>
  ⟨(h d j hn).1, (h d j hn).2.1, by rw [gD_sD, if_neg (fun g => hn (by rw [g.1, g.2]; exact hm))]; exact (h d j hn).2.2⟩
/-- a whole cell anew -/
def upI (σ : St) (c : Nat) (f : Int → Int) : St := (fun d j => if d = c then f j else σ.1 d j, σ.2)
def upL (σ : St) (c : Nat) (f : Int → BitVec 64) : St := (σ.1, (fun d j => if d = c then f j else σ.2.1 d j, σ.2.2))
theorem gI_upI {σ : St} {c d : Nat} {f : Int → Int} {j : Int} : gI (upI σ c f) d j = if d = c then f j else gI σ d j := rfl
theorem gL_upI {σ : St} {c d : Nat} {f : Int → Int} {j : Int} : gL (upI σ c f) d j = gL σ d j := rfl
theorem gD_upI {σ : St} {c d : Nat} {f : Int → Int} {j : Int} : gD (upI σ c f) d j = gD σ d j := rfl
theorem gI_upL {σ : St} {c d : Nat} {f : Int → BitVec 64} {j : Int} : gI (upL σ c f) d j = gI σ d j := rfl
theorem gL_upL {σ : St} {c d : Nat} {f : Int → BitVec 64} {j : Int} : gL (upL σ c f) d j = if d = c then f j else gL σ d j := rfl
theorem gD_upL {σ : St} {c d : Nat} {f : Int → BitVec 64} {j : Int} : gD (upL σ c f) d j = gD σ d j := rfl
theorem fr_upI {M : Nat → Int → Prop} {σ σ1 : St} {c : Nat} {f : Int → Int} (h : fr M σ σ1) (hm : ∀ j, M c j) : fr M σ (upI σ1 c f) := fun d j hn =>
  ⟨by rw [gI_upI, if_neg (fun g => hn (by rw [g]; exact hm j))]; exact (h d j hn).1, (h d j hn).2.1, (h d j hn).2.2⟩
theorem fr_upL {M : Nat → Int → Prop} {σ σ1 : St} {c : Nat} {f : Int → BitVec 64} (h : fr M σ σ1) (hm : ∀ j, M c j) : fr M σ (upL σ1 c f) := fun d j hn =>
  ⟨(h d j hn).1, by rw [gL_upL, if_neg (fun g => hn (by rw [g]; exact hm j))]; exact (h d j hn).2.1, (h d j hn).2.2⟩
theorem st_ext {σ τ : St} (h1 : ∀ c j, gI σ c j = gI τ c j) (h2 : ∀ c j, gL σ c j = gL τ c j) (h3 : ∀ c j, gD σ c j = gD τ c j) : σ = τ := by
  obtain ⟨a, b, c⟩ := σ
  obtain ⟨a2, b2, c2⟩ := τ
  have e1 : a = a2 := funext fun x => funext fun y => h1 x y
  have e2 : b = b2 := funext fun x => funext fun y => h2 x y
  have e3 : c = c2 := funext fun x => funext fun y => h3 x y
  subst e1; subst e2; subst e3; rfl
theorem sI_sI {σ : St} {c : Nat} {i v w : Int} : sI (sI σ c i v) c i w = sI σ c i w := st_ext (fun d j => by
  rw [gI_sI, gI_sI, gI_sI]; split <;> rfl) (fun _ _ => rfl) (fun _ _ => rfl)
theorem sI_self {σ : St} {c : Nat} {i : Int} : sI σ c i (gI σ c i) = σ := st_ext (fun d j => by
  rw [gI_sI]; split
  · rename_i h; rw [h.1, h.2]
  · rfl) (fun _ _ => rfl) (fun _ _ => rfl)
/-! bits -/
theorem bb_and1 (l : BitVec 64) : (l &&& BitVec.ofNat 64 1 = BitVec.ofNat 64 0) ↔ l.getLsbD 0 = false := by
  rw [BitVec.and_one_eq_setWidth_ofBool_getLsbD]
  cases l.getLsbD 0 <;> simp
theorem bb_and1' (l : BitVec 64) : (l &&& BitVec.ofNat 64 1 = BitVec.ofNat 64 1) ↔ l.getLsbD 0 = true := by
  rw [BitVec.and_one_eq_setWidth_ofBool_getLsbD]
  cases l.getLsbD 0 <;> simp
theorem bb_shr (l : BitVec 64) (k : Nat) : (l >>> k).getLsbD 0 = l.getLsbD k := by
  rw [BitVec.getLsbD_ushiftRight, Nat.add_zero]
theorem bb_sar (l : BitVec 64) {k : Nat} (hk : k < 64) : (l.sshiftRight k).getLsbD 0 = l.getLsbD k := by
  rw [BitVec.getLsbD_sshiftRight]
  simp
  intro h; omega
theorem bb_one {n i : Nat} (hn : n < 64) : (BitVec.ofNat 64 1 <<< n).getLsbD i = decide (i = n) := by
  rw [BitVec.getLsbD_shiftLeft, BitVec.getLsbD_one]
  by_cases h : i = n
  · subst h; simp [hn]
  · simp only [h, decide_false]
    by_cases h2 : i < n
    · simp [h2]
    · have : ¬ (i - n = 0) := by omega
      simp [this]
theorem sh6_id {z : Int} (h0 : 0 ≤ z) (h1 : z < 64) : sh6 z = z.toNat := by unfold sh6; omega
/-! counting -/
def cn (g : Int → Bool) : Nat → Int
  | 0 => 0
  | n + 1 => cn g n + (if g n = true then 1 else 0)
theorem cn_succ (g : Int → Bool) (n : Nat) : cn g (n + 1) = cn g n + (if g n = true then 1 else 0) := rfl
theorem cn_rng (g : Int → Bool) : ∀ n : Nat, 0 ≤ cn g n ∧ cn g n ≤ n
  | 0 => ⟨Int.le_refl 0, Int.le_refl 0⟩
  | n + 1 => by
    have := cn_rng g n
    rw [cn_succ]
    split <;> omega
theorem cn_mono (g : Int → Bool) {m n : Nat} (h : m ≤ n) : cn g m ≤ cn g n := by
  induction h with
  | refl => exact Int.le_refl _
  | step _ ih => rw [cn_succ]; split <;> omega
theorem cn_congr {g g' : Int → Bool} : ∀ {n : Nat}, (∀ m : Int, 0 ≤ m → m < n → g m = g' m) → cn g n = cn g' n
  | 0, _ => rfl
  | n + 1, h => by rw [cn_succ, cn_succ, cn_congr (n := n) (fun m h0 h1 => h m h0 (by omega)), h n (by omega) (by omega)]
theorem cn_sub {g : Int → Bool} {m n : Nat} (h : m ≤ n) : cn g n - cn g m ≤ (n : Int) - m := by
  induction h with
  | refl => omega
  | step _ ih => rw [cn_succ]; split <;> omega

