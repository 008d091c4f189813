/-! the law's questions: calls and flow -/
def ECl (P : Pg) (f g : Int) : Prop := ∃ n, 0 ≤ n ∧ (n < tot P ∧ (own P n = f ∧ (kd P n = 6 ∧ nn P n = g)))
def EFn (P : Pg) (n a b : Int) : Prop := (kd P n = 1 ∧ (a = ww P n ∧ b = vv P n)) ∨ (kd P n = 6 ∧ ((a = ww P n ∧ b = 4 + 4 * nn P n) ∨ (a = 4 + 4 * nn P n + 1 ∧ b = vv P n)))
def EFl (P : Pg) (a b : Int) : Prop := ∃ n, 0 ≤ n ∧ (n < tot P ∧ EFn P n a b)
def EFd (P : Pg) (d n a b : Int) : Prop := if d = 0 then EFn P n a b else EFn P n b a
def EFD (P : Pg) (d a b : Int) : Prop := ∃ n, 0 ≤ n ∧ (n < tot P ∧ EFd P d n a b)
theorem ECl_rng {P : Pg} (hP : okP P) {f g : Int} (h : ECl P f g) : 0 ≤ g ∧ g ≤ 3 := by
  obtain ⟨n, n0, n1, _, _, e⟩ := h
  have := (hP.2.1 n n0 n1).2.1.2.2
  omega
theorem EFn_rng {P : Pg} (hP : okP P) {n a b : Int} (n0 : 0 ≤ n) (n1 : n < tot P) (h : EFn P n a b) : (0 ≤ a ∧ a < 20) ∧ (0 ≤ b ∧ b < 20) := by
  obtain ⟨hv, hw, hn⟩ := (hP.2.1 n n0 n1).2.1
  rcases h with ⟨_, e1, e2⟩ | ⟨_, ⟨e1, e2⟩ | ⟨e1, e2⟩⟩ <;> omega
theorem EFd_rng {P : Pg} (hP : okP P) {d n a b : Int} (n0 : 0 ≤ n) (n1 : n < tot P) (h : EFd P d n a b) : (0 ≤ a ∧ a < 20) ∧ (0 ≤ b ∧ b < 20) := by
  unfold EFd at h
  split at h
  · exact EFn_rng hP n0 n1 h
  · have := EFn_rng hP n0 n1 h; exact ⟨this.2, this.1⟩
theorem iW_le {S S' : Int → Prop} (h : ∀ t : Nat, t < 31 → S t → S' t) : iW S ≤ iW S' := by
  have e : nS S 31 ||| nS S' 31 = nS S' 31 := by
    apply Nat.eq_of_testBit_eq
    intro i
    rw [Nat.testBit_or]
    cases a : (nS S 31).testBit i with
    | false => rw [Bool.false_or]
    | true =>
      have k := (nS_bit S 31 i).mp a
      rw [(nS_bit S' 31 i).mpr ⟨k.1, h i k.1 k.2⟩, Bool.true_or]
  have : nS S 31 ≤ nS S 31 ||| nS S' 31 := Nat.left_le_or
  unfold iW
  rw [e] at this
  exact Int.ofNat_le.mpr this
theorem iW_lt {S : Int → Prop} (k : Nat) (h : ∀ t : Nat, t < 31 → S t → t < k) : 0 ≤ iW S ∧ iW S < ((2 ^ k : Nat) : Int) := by
  have : nS S 31 < 2 ^ k := Nat.lt_pow_two_of_testBit _ (fun i hi => by
    cases a : (nS S 31).testBit i with
    | false => rfl
    | true =>
      have b := (nS_bit S 31 i).mp a
      have := h i b.1 b.2
      omega)
  unfold iW
  exact ⟨by omega, by omega⟩
theorem iW_inj {S S' : Int → Prop} (e : iW S = iW S') {t : Int} (t0 : 0 ≤ t) (t1 : t < 31) : S t ↔ S' t := by
  have h1 := nS_bit S 31 t.toNat
  have h2 := nS_bit S' 31 t.toNat
  have e2 : nS S 31 = nS S' 31 := by unfold iW at e; exact Int.ofNat_inj.mp e
  rw [show ((t.toNat : Nat) : Int) = t by omega] at h1 h2
  rw [e2, h2] at h1
  exact ⟨fun k => (h1.mpr ⟨by omega, k⟩).2, fun k => (h1.mp ⟨by omega, k⟩).2⟩
section LQ5
variable {t : Nat} {σ : St} {Q : Res → St → Prop} {P : Pg} {xs : List Int} {lim : Int}
/-- what a pass over the calls keeps -/
def CLs (P : Pg) (f : Int) (S0 S : Int → Prop) (N : Int) : Prop := (∀ t, S0 t → S t) ∧ ((∀ t, S t → TC (ECl P) f t) ∧ ∀ n, 0 ≤ n → n < N → n < tot P → (own P n = f ∨ S0 (own P n)) → kd P n = 6 → S (nn P n))
theorem CLs_in (hP : okP P) {f : Int} {S0 S : Int → Prop} {N : Int} (h : CLs P f S0 S N) (x : Int) (k : S x) : 0 ≤ x ∧ x ≤ 3 := TC_sub (S := fun x => 0 ≤ x ∧ x ≤ 3) (h.2.1 x k) (fun _ g => ECl_rng hP g) (fun _ _ _ g => ECl_rng hP g)
/-- what a function may modify -/
def modS (P : Pg) (xs : List Int) (lim f : Int) : Int → Prop := fun t => ∃ n, 0 ≤ n ∧ (n < tot P ∧ (kd P n = 3 ∧ ((own P n = f ∨ TC (ECl P) f (own P n)) ∧ im xs (Lf P xs lim) (vv P n) t)))
/-- what a pass over the flow keeps -/
def FLs (P : Pg) (d v : Int) (S0 S : Int → Prop) (N : Int) : Prop := (∀ t, S0 t → S t) ∧ (S v ∧ ((∀ t, S t → t = v ∨ TC (EFD P d) v t) ∧ ∀ n, 0 ≤ n → n < N → n < tot P → ∀ a b, EFd P d n a b → S0 a → S b))
def Sd (P : Pg) (d n : Int) (S : Int → Prop) : Int → Prop := fun x => S x ∨ ∃ a, EFd P d n a x ∧ S a
theorem FLs_step {d v : Int} {S0 S : Int → Prop} {n : Int} (n0 : 0 ≤ n) (n1 : n < tot P) (h : FLs P d v S0 S n) : FLs P d v S0 (Sd P d n S) (n + 1) := by
  refine ⟨fun x k => Or.inl (h.1 x k), Or.inl h.2.1, fun x k => ?_, fun m m0 m1 m2 a b k k0 => ?_⟩
  · rcases k with k | ⟨a, k1, k2⟩
    · exact h.2.2.1 x k
    · have e : EFD P d a x := ⟨n, n0, n1, k1⟩
      rcases h.2.2.1 a k2 with z | z
      · rw [z] at e; exact Or.inr (TC_base e)
      · exact Or.inr (TC_trans z (TC_base e))
  · by_cases z : m = n
    · rw [z] at k; exact Or.inr ⟨a, k, h.1 a k0⟩
    · exact Or.inl (h.2.2.2 m m0 (by omega) m2 a b k k0)
theorem FLs_in (hP : okP P) {d v : Int} (hv : 0 ≤ v ∧ v < 20) {S : Int → Prop} (h : ∀ t, S t → t = v ∨ TC (EFD P d) v t) (x : Int) (k : S x) : 0 ≤ x ∧ x < 20 := by
  rcases h x k with e | e
  · omega
  · exact TC_sub (S := fun x => 0 ≤ x ∧ x < 20) e (fun y ⟨n, n0, n1, g⟩ => (EFd_rng hP n0 n1 g).2) (fun a b _ ⟨n, n0, n1, g⟩ => (EFd_rng hP n0 n1 g).2)
theorem EFD_0 {a b : Int} : EFD P 0 a b ↔ EFl P a b := by unfold EFD EFl EFd; simp only [if_true]
theorem EFD_1 {a b : Int} : EFD P 1 a b ↔ EFl P b a := by unfold EFD EFl EFd; simp only [show ((1 : Int) = 0) = False from eq_false (by decide), if_false]
theorem TC_rev {E : Int → Int → Prop} {a b : Int} (h : TC (fun x y => E y x) a b) : TC E b a := h (fun x y => TC E y x) (fun x y e => TC_base e) (fun x y z e1 e2 => TC_trans e2 e1)
/-- who is on a cycle with v -/
def cyS (P : Pg) (v : Int) : Int → Prop := fun x => x = v ∨ (TC (EFl P) v x ∧ TC (EFl P) x v)
end LQ5

