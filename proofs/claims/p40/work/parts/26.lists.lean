/-! lists as arrays -/
def la (xs : List Int) (i : Int) : Int := xs.getD i.toNat 0
theorem la_lt {xs : List Int} {i : Int} (h1 : i.toNat < xs.length) : la xs i = xs[i.toNat] := by
  unfold la; rw [List.getD_eq_getElem?_getD, List.getElem?_eq_getElem h1]; rfl
theorem la_mem {xs : List Int} {i : Int} (h0 : 0 ≤ i) (h1 : i < xs.length) : la xs i ∈ xs := by
  rw [la_lt (by omega)]; exact List.getElem_mem _
theorem mem_la {xs : List Int} {w : Int} (h : w ∈ xs) : ∃ i : Int, 0 ≤ i ∧ i < xs.length ∧ la xs i = w := by
  obtain ⟨n, hn, e⟩ := List.mem_iff_getElem.mp h
  refine ⟨n, by omega, by omega, ?_⟩
  rw [la_lt (by simpa using hn)]
  simpa using e
theorem la_app_l {xs ys : List Int} {i : Int} (h0 : 0 ≤ i) (h1 : i < xs.length) : la (xs ++ ys) i = la xs i := by
  unfold la
  rw [List.getD_eq_getElem?_getD, List.getD_eq_getElem?_getD, List.getElem?_append_left (by omega)]
theorem la_app_r {xs ys : List Int} {i : Int} (h1 : (xs.length : Int) ≤ i) : la (xs ++ ys) i = la ys (i - xs.length) := by
  unfold la
  rw [List.getD_eq_getElem?_getD, List.getD_eq_getElem?_getD, List.getElem?_append_right (by omega)]
  congr 3; omega
theorem la_cons0 {x : Int} {xs : List Int} : la (x :: xs) 0 = x := rfl
theorem la_cons {x : Int} {xs : List Int} {i : Int} (h : 0 < i) : la (x :: xs) i = la xs (i - 1) := by
  unfold la
  rw [show i.toNat = (i - 1).toNat + 1 by omega]; rfl
theorem la_take {xs : List Int} {p : Nat} {i : Int} (h0 : 0 ≤ i) (h : i < p) : la (xs.take p) i = la xs i := by
  unfold la
  rw [List.getD_eq_getElem?_getD, List.getD_eq_getElem?_getD, List.getElem?_take_of_lt (by omega)]
theorem la_drop {xs : List Int} {p : Nat} {i : Int} (h0 : 0 ≤ i) : la (xs.drop p) i = la xs (i + p) := by
  unfold la
  rw [List.getD_eq_getElem?_getD, List.getD_eq_getElem?_getD, List.getElem?_drop]
  congr 3; omega
theorem asc_la {xs : List Int} (h : xs.Pairwise (· < ·)) {i j : Int} (h0 : 0 ≤ i) (h1 : i < j) (h2 : j < xs.length) : la xs i < la xs j := by
  rw [la_lt (by omega), la_lt (by omega)]
  exact (List.pairwise_iff_getElem.mp h) i.toNat j.toNat (by omega) (by omega) (by omega)
theorem la_asc {xs : List Int} (h : ∀ i j : Int, 0 ≤ i → i < j → j < xs.length → la xs i < la xs j) : xs.Pairwise (· < ·) := by
  rw [List.pairwise_iff_getElem]
  intro i j hi hj hij
  have := h i j (by omega) (by omega) (by omega)
  rw [la_lt (by simpa using hi), la_lt (by simpa using hj)] at this
  simpa using this
theorem nd_la {xs : List Int} (h : xs.Nodup) {i j : Int} (i0 : 0 ≤ i) (i1 : i < xs.length) (j0 : 0 ≤ j) (j1 : j < xs.length) (e : la xs i = la xs j) : i = j := by
  have key : ∀ a b : Int, 0 ≤ a → a < b → b < xs.length → la xs a ≠ la xs b := fun a b a0 ab b1 => by
    rw [la_lt (by omega), la_lt (by omega)]
    exact (List.pairwise_iff_getElem.mp h) a.toNat b.toNat (by omega) (by omega) (by omega)
  rcases Int.lt_trichotomy i j with g | g | g
  · exact absurd e (key i j i0 g j1)
  · exact g
  · exact absurd e.symm (key j i j0 g i1)
/-- put in at a place -/
def insA (p : Nat) (x : Int) (zs : List Int) : List Int := zs.take p ++ x :: zs.drop p
theorem insA_len {p : Nat} {x : Int} {zs : List Int} (h : p ≤ zs.length) : (insA p x zs).length = zs.length + 1 := by
  unfold insA; rw [List.length_append, List.length_cons, List.length_take, List.length_drop]; omega
theorem insA_la {p : Nat} {x : Int} {zs : List Int} (h : p ≤ zs.length) {i : Int} (i0 : 0 ≤ i) : la (insA p x zs) i = if i < p then la zs i else if i = p then x else la zs (i - 1) := by
  have hl : (zs.take p).length = p := by rw [List.length_take]; omega
  unfold insA
  by_cases c : i < p
  · rw [if_pos c, la_app_l i0 (by omega), la_take i0 c]
  · rw [if_neg c, la_app_r (by omega), hl]
    by_cases c2 : i = p
    · rw [if_pos c2, c2, Int.sub_self, la_cons0]
    · rw [if_neg c2, la_cons (by omega), la_drop (by omega)]; congr 1; omega
theorem insA_mem {p : Nat} {x : Int} {zs : List Int} {e : Int} : e ∈ insA p x zs ↔ e = x ∨ e ∈ zs := by
  unfold insA
  rw [List.mem_append, List.mem_cons]
  have h : e ∈ zs ↔ e ∈ zs.take p ∨ e ∈ zs.drop p := by
    rw [← List.mem_append, List.take_append_drop]
  rw [h]
  constructor
  · rintro (g | g | g)
    · exact Or.inr (Or.inl g)
    · exact Or.inl g
    · exact Or.inr (Or.inr g)
  · rintro (g | g | g)
    · exact Or.inr (Or.inl g)
    · exact Or.inl g
    · exact Or.inr (Or.inr g)
theorem insA_asc {p : Nat} {x : Int} {zs : List Int} (h : zs.Pairwise (· < ·)) (hp : p ≤ zs.length) (h1 : ∀ i : Int, 0 ≤ i → i < p → la zs i < x) (h2 : ∀ i : Int, p ≤ i → i < zs.length → x < la zs i) : (insA p x zs).Pairwise (· < ·) := by
  apply la_asc
  intro i j i0 ij j1
  rw [insA_len hp] at j1
  rw [insA_la hp i0, insA_la hp (by omega)]
  by_cases c : i < p
  · rw [if_pos c]
    by_cases d : j < p
    · rw [if_pos d]; exact asc_la h i0 ij (by omega)
    · rw [if_neg d]
      by_cases d2 : j = p
      · rw [if_pos d2]; exact h1 i i0 c
      · rw [if_neg d2]; exact asc_la h i0 (by omega) (by omega)
  · rw [if_neg c, if_neg (show ¬ j < p by omega), if_neg (show ¬ j = p by omega)]
    by_cases c2 : i = p
    · rw [if_pos c2]; exact h2 (j - 1) (by omega) (by omega)
    · rw [if_neg c2]; exact asc_la h (by omega) (by omega) (by omega)
/-- how many are below -/
def cbl (xs : List Int) (b : Int) : Int := cn (fun i => decide (la xs i < b)) xs.length
theorem cn_down {g : Int → Bool} : ∀ {n : Nat}, (∀ i j : Int, 0 ≤ i → i ≤ j → j < n → g j = true → g i = true) → ∀ m : Int, 0 ≤ m → m < n → (g m = true ↔ m < cn g n)
  | 0, _, m, m0, m1 => by omega
  | n + 1, h, m, m0, m1 => by
    have ih := cn_down (n := n) (fun i j i0 ij j1 => h i j i0 ij (by omega))
    have hr := cn_rng g n
    rw [cn_succ]
    by_cases c : g n = true
    · rw [if_pos c]
      have all : ∀ k : Int, 0 ≤ k → k < n → g k = true := fun k k0 k1 => h k n k0 (by omega) (by omega) c
      have e : cn g n = n := by
        have : ∀ k : Nat, k ≤ n → cn g k = k := by
          intro k
          induction k with
          | zero => intro _; rfl
          | succ k ik => intro hk; rw [cn_succ, ik (by omega), if_pos (all k (by omega) (by omega))]; omega
        exact this n (Nat.le_refl n)
      rw [e]
      by_cases d : m = n
      · rw [d]; exact ⟨fun _ => by omega, fun _ => c⟩
      · exact ⟨fun _ => by omega, fun _ => all m m0 (by omega)⟩
    · rw [if_neg c]
      by_cases d : m = n
      · rw [d]; exact ⟨fun g => absurd g c, fun g => by omega⟩
      · rw [ih m m0 (by omega)]; omega
theorem cbl_iff {xs : List Int} (h : xs.Pairwise (· < ·)) {b i : Int} (i0 : 0 ≤ i) (i1 : i < xs.length) : la xs i < b ↔ i < cbl xs b := by
  have := cn_down (g := fun i => decide (la xs i < b)) (n := xs.length) (fun i j i0 ij j1 g => by
    rw [decide_eq_true_eq] at g ⊢
    by_cases e : i = j
    · rw [e]; exact g
    · have := asc_la h i0 (show i < j by omega) j1; omega) i i0 i1
  rw [decide_eq_true_eq] at this
  exact this
theorem cbl_rng (xs : List Int) (b : Int) : 0 ≤ cbl xs b ∧ cbl xs b ≤ xs.length := cn_rng _ _
theorem cbl_mono {xs : List Int} {a b : Int} (h : a ≤ b) : cbl xs a ≤ cbl xs b := by
  unfold cbl
  have key : ∀ n : Nat, cn (fun i => decide (la xs i < a)) n ≤ cn (fun i => decide (la xs i < b)) n := by
    intro n
    induction n with
    | zero => exact Int.le_refl _
    | succ n ih =>
      rw [cn_succ, cn_succ]
      by_cases c : la xs n < a
      · rw [if_pos (by rw [decide_eq_true_eq]; exact c), if_pos (by rw [decide_eq_true_eq]; omega)]; omega
      · rw [if_neg (by rw [decide_eq_true_eq]; exact c)]; split <;> omega
  exact key _
/-- an array holds a list -/
def asA (σ : St) (c : Nat) (xs : List Int) : Prop := ∀ i : Int, 0 ≤ i → i < xs.length → gI σ c i = la xs i
theorem asA_fr {M : Nat → Int → Prop} {σ σ' : St} {c : Nat} {xs : List Int} (h : asA σ c xs) (g : fr M σ σ') (h1 : ∀ j, ¬ M c j) : asA σ' c xs := fun i i0 i1 => (fr_I g _ _ (h1 i)).trans (h i i0 i1)
theorem asA_app {σ : St} {c : Nat} {xs : List Int} {w : Int} (h : asA σ c xs) : asA (sI σ c xs.length w) c (xs ++ [w]) := fun i i0 i1 => by
  rw [List.length_append, List.length_singleton] at i1
  rw [gI_sI]
  by_cases e : i = xs.length
  · rw [if_pos ⟨rfl, e⟩, la_app_r (by omega), e, Int.sub_self, la_cons0]
  · rw [if_neg (fun g => e g.2), la_app_l i0 (by omega)]; exact h i i0 (by omega)
theorem nd_app {xs : List Int} {w : Int} (h : xs.Nodup) (hw : w ∉ xs) : (xs ++ [w]).Nodup := by
  unfold List.Nodup at *
  rw [List.pairwise_append]
  refine ⟨h, List.pairwise_singleton _ _, fun a ha b hb e => ?_⟩
  rw [List.mem_singleton] at hb
  subst hb; subst e; exact hw ha

