/-! closing a graph -/
def TC (E : Int → Int → Prop) (a b : Int) : Prop := ∀ X : Int → Int → Prop, (∀ a b, E a b → X a b) → (∀ a b c, X a b → X b c → X a c) → X a b
theorem TC_base {E : Int → Int → Prop} {a b : Int} (h : E a b) : TC E a b := fun _ h1 _ => h1 a b h
theorem TC_trans {E : Int → Int → Prop} {a b c : Int} (h : TC E a b) (g : TC E b c) : TC E a c := fun X h1 h2 => h2 a b c (h X h1 h2) (g X h1 h2)
/-- what is closed under the edges holds all that is reached -/
theorem TC_sub {E : Int → Int → Prop} {v t : Int} {S : Int → Prop} (h : TC E v t) (h1 : ∀ t, E v t → S t) (h2 : ∀ a b, S a → E a b → S b) : S t :=
  h (fun a b => (a = v ∨ S a) → S b) (fun a b e g => by
    rcases g with rfl | g
    · exact h1 b e
    · exact h2 a b g e) (fun a b c x y g => y (Or.inr (x g))) (Or.inl rfl)
theorem TC_mono {E F : Int → Int → Prop} (h : ∀ a b, E a b → F a b) {a b : Int} (g : TC E a b) : TC F a b := g (TC F) (fun a b e => TC_base (h a b e)) (fun _ _ _ x y => TC_trans x y)
theorem TC_iff {E F : Int → Int → Prop} (h : ∀ a b, E a b ↔ F a b) {a b : Int} : TC E a b ↔ TC F a b := ⟨TC_mono (fun a b => (h a b).mp), TC_mono (fun a b => (h a b).mpr)⟩
/-- one middle more -/
theorem ws_step {R R' : Int → Int → Prop} {m : Int} (hR : ∀ a b, R' a b ↔ (R a b ∨ (R a m ∧ R m b))) (h : ∀ k, 0 ≤ k → k < m → ∀ a b, R a k → R k b → R a b) : ∀ k, 0 ≤ k → k < m + 1 → ∀ a b, R' a k → R' k b → R' a b := by
  intro k h0 h1 a b ha hb
  rw [hR] at ha hb ⊢
  by_cases hk : k = m
  · subst hk
    have ha2 : R a k := by rcases ha with g | ⟨g, -⟩ <;> exact g
    have hb2 : R k b := by rcases hb with g | ⟨-, g⟩ <;> exact g
    exact Or.inr ⟨ha2, hb2⟩
  · have hk2 : k < m := by omega
    rcases ha with ha | ⟨ha1, ha2⟩
    · rcases hb with hb | ⟨hb1, hb2⟩
      · exact Or.inl (h k h0 hk2 a b ha hb)
      · exact Or.inr ⟨h k h0 hk2 a m ha hb1, hb2⟩
    · rcases hb with hb | ⟨hb1, hb2⟩
      · exact Or.inr ⟨ha1, h k h0 hk2 m b ha2 hb⟩
      · exact Or.inr ⟨ha1, hb2⟩
/-! terms T(T(..x)), congruence -/
abbrev Tm : Type := Int × Nat
def tU (a : Tm) : Tm := (a.1, a.2 + 1)
def cg (Eq : Tm → Tm → Prop) (a b : Tm) : Prop := ∀ R : Tm → Tm → Prop, (∀ x, R x x) → (∀ x y, R x y → R y x) → (∀ x y z, R x y → R y z → R x z) → (∀ x y, R x y → R (tU x) (tU y)) → (∀ x y, Eq x y → R x y) → R a b
theorem cg_refl {Eq : Tm → Tm → Prop} (a : Tm) : cg Eq a a := fun _ h _ _ _ _ => h a
theorem cg_symm {Eq : Tm → Tm → Prop} {a b : Tm} (h : cg Eq a b) : cg Eq b a := fun R h1 h2 h3 h4 h5 => h2 a b (h R h1 h2 h3 h4 h5)
theorem cg_trans {Eq : Tm → Tm → Prop} {a b c : Tm} (h : cg Eq a b) (g : cg Eq b c) : cg Eq a c := fun R h1 h2 h3 h4 h5 => h3 a b c (h R h1 h2 h3 h4 h5) (g R h1 h2 h3 h4 h5)
theorem cg_U {Eq : Tm → Tm → Prop} {a b : Tm} (h : cg Eq a b) : cg Eq (tU a) (tU b) := fun R h1 h2 h3 h4 h5 => h4 a b (h R h1 h2 h3 h4 h5)
theorem cg_eq {Eq : Tm → Tm → Prop} {a b : Tm} (h : Eq a b) : cg Eq a b := fun _ _ _ _ _ h5 => h5 a b h
theorem cg_mono {E F : Tm → Tm → Prop} (h : ∀ a b, E a b → cg F a b) {a b : Tm} (g : cg E a b) : cg F a b :=
  g (cg F) (fun _ => cg_refl _) (fun _ _ => cg_symm) (fun _ _ _ => cg_trans) (fun _ _ => cg_U) h
/-- what a term stands for: a root, and how often T stands before it -/
def dU (ρ π : Int → Int) (d : Int × Nat) : Int × Nat := if d.2 = 0 then (if π d.1 = -1 then (d.1, 1) else (ρ (π d.1), 0)) else (d.1, d.2 + 1)
def den (ρ π : Int → Int) (x : Int) : Nat → Int × Nat
  | 0 => (ρ x, 0)
  | n + 1 => dU ρ π (den ρ π x n)
def dn (ρ π : Int → Int) (a : Tm) : Int × Nat := den ρ π a.1 a.2
theorem dn_U (ρ π : Int → Int) (a : Tm) : dn ρ π (tU a) = dU ρ π (dn ρ π a) := rfl
theorem dn_cg {ρ π : Int → Int} {Eq : Tm → Tm → Prop} (h : ∀ a b, Eq a b → dn ρ π a = dn ρ π b) {a b : Tm} (g : cg Eq a b) : dn ρ π a = dn ρ π b :=
  g (fun a b => dn ρ π a = dn ρ π b) (fun _ => rfl) (fun _ _ h => h.symm) (fun _ _ _ h k => h.trans k) (fun x y h => by rw [dn_U, dn_U, h]) h
/-- roots and pointees, N nodes, tm the nodes' terms -/
def UR (N : Int) (ρ π : Int → Int) : Prop := ∀ k, 0 ≤ k → k < N → ((0 ≤ ρ k ∧ ρ k < N) ∧ ρ (ρ k) = ρ k) ∧ (ρ k = k → π k = -1 ∨ (0 ≤ π k ∧ π k < N))
def USnd (N : Int) (ρ π : Int → Int) (tm : Int → Tm) (Eq : Tm → Tm → Prop) : Prop := ∀ k, 0 ≤ k → k < N → cg Eq (tm k) (tm (ρ k)) ∧ (ρ k = k → π k ≠ -1 → cg Eq (tU (tm k)) (tm (π k)))
def UC (N : Int) (ρ π : Int → Int) (tm : Int → Tm) (Eq : Tm → Tm → Prop) : Prop := (∀ a b, Eq a b → dn ρ π a = dn ρ π b) ∧ (∀ k, 0 ≤ k → k < N → dn ρ π (tm k) = (ρ k, 0))
def US (N : Int) (ρ π : Int → Int) (tm : Int → Tm) (Eq : Tm → Tm → Prop) : Prop := UR N ρ π ∧ (USnd N ρ π tm Eq ∧ (UC N ρ π tm Eq ∧ (∀ k, 0 ≤ k → k < N → ((tm k).1 ≥ 0 ∧ (tm k).1 < N))))
theorem US_iff {N : Int} {ρ π : Int → Int} {tm : Int → Tm} {Eq : Tm → Tm → Prop} (h : US N ρ π tm Eq) {a b : Int} (a0 : 0 ≤ a) (a1 : a < N) (b0 : 0 ≤ b) (b1 : b < N) : ρ a = ρ b ↔ cg Eq (tm a) (tm b) := by
  constructor
  · intro e
    have h1 := (h.2.1 a a0 a1).1
    have h2 := (h.2.1 b b0 b1).1
    rw [e] at h1
    exact cg_trans h1 (cg_symm h2)
  · intro g
    have := dn_cg h.2.2.1.1 g
    rw [h.2.2.1.2 a a0 a1, h.2.2.1.2 b b0 b1] at this
    exact congrArg Prod.fst this
theorem US_eqv {N : Int} {ρ π : Int → Int} {tm : Int → Tm} {E F : Tm → Tm → Prop} (h : US N ρ π tm E) (h1 : ∀ a b, E a b → cg F a b) (h2 : ∀ a b, F a b → cg E a b) : US N ρ π tm F :=
  ⟨h.1, fun k k0 k1 => ⟨cg_mono h1 (h.2.1 k k0 k1).1, fun e n => cg_mono h1 ((h.2.1 k k0 k1).2 e n)⟩, ⟨fun a b g => dn_cg h.2.2.1.1 (h2 a b g), h.2.2.1.2⟩, h.2.2.2⟩
/-- from one state to another that joins more -/
def Hom (N : Int) (ρ π ρ' π' : Int → Int) : Prop := (∀ k, 0 ≤ k → k < N → ρ' (ρ k) = ρ' k) ∧ (∀ k, 0 ≤ k → k < N → ρ k = k → π k ≠ -1 → π' (ρ' k) ≠ -1 ∧ ρ' (π' (ρ' k)) = ρ' (π k))
def hmm (ρ' π' : Int → Int) (r : Int) : Nat → Int × Nat
  | 0 => (ρ' r, 0)
  | n + 1 => dU ρ' π' (hmm ρ' π' r n)
theorem hom_dn {N : Int} {ρ π ρ' π' : Int → Int} (hU : UR N ρ π) (h : Hom N ρ π ρ' π') {x : Int} (x0 : 0 ≤ x) (x1 : x < N) : ∀ n, (0 ≤ (den ρ π x n).1 ∧ (den ρ π x n).1 < N ∧ ρ (den ρ π x n).1 = (den ρ π x n).1) ∧ den ρ' π' x n = hmm ρ' π' (den ρ π x n).1 (den ρ π x n).2
  | 0 => by
    have h1 := (hU x x0 x1).1
    refine ⟨⟨h1.1.1, h1.1.2, h1.2⟩, ?_⟩
    show (ρ' x, 0) = (ρ' (ρ x), 0)
    rw [h.1 x x0 x1]
  | n + 1 => by
    obtain ⟨⟨g0, g1, g2⟩, g3⟩ := hom_dn hU h x0 x1 n
    have e1 : den ρ π x (n + 1) = dU ρ π (den ρ π x n) := rfl
    have e2 : den ρ' π' x (n + 1) = dU ρ' π' (den ρ' π' x n) := rfl
    rw [e1, e2, g3]
    generalize den ρ π x n = d at g0 g1 g2 g3 ⊢
    obtain ⟨r, m⟩ := d
    cases m with
    | succ m => exact ⟨⟨g0, g1, g2⟩, rfl⟩
    | zero =>
      by_cases hp : π r = -1
      · have e : dU ρ π (r, 0) = (r, 1) := by unfold dU; rw [if_pos rfl, if_pos hp]
        rw [e]
        exact ⟨⟨g0, g1, g2⟩, rfl⟩
      · have e : dU ρ π (r, 0) = (ρ (π r), 0) := by unfold dU; rw [if_pos rfl, if_neg hp]
        rw [e]
        have hr := hU r g0 g1
        have hq : 0 ≤ π r ∧ π r < N := by
          rcases hr.2 g2 with q | q
          · exact absurd q hp
          · exact q
        have h1 := (hU (π r) hq.1 hq.2).1
        refine ⟨⟨h1.1.1, h1.1.2, h1.2⟩, ?_⟩
        obtain ⟨k1, k2⟩ := h.2 r g0 g1 g2 hp
        show dU ρ' π' (ρ' r, 0) = (ρ' (ρ (π r)), 0)
        unfold dU
        rw [if_pos rfl, if_neg k1, k2, h.1 (π r) hq.1 hq.2]
theorem hom_eq {N : Int} {ρ π ρ' π' : Int → Int} (hU : UR N ρ π) (h : Hom N ρ π ρ' π') {a b : Tm} (ha : a.1 ≥ 0 ∧ a.1 < N) (hb : b.1 ≥ 0 ∧ b.1 < N) (e : dn ρ π a = dn ρ π b) : dn ρ' π' a = dn ρ' π' b := by
  have h1 := (hom_dn hU h ha.1 ha.2 a.2).2
  have h2 := (hom_dn hU h hb.1 hb.2 b.2).2
  unfold dn at *
  rw [h1, h2, e]
/-- the join's state: (p, q) are still to be joined -/
def smj (ρ : Int → Int) (p q x y : Int) : Prop := ρ x = ρ y ∨ (ρ x = ρ p ∧ ρ y = ρ q) ∨ (ρ x = ρ q ∧ ρ y = ρ p)
def JI (N : Int) (ρ0 π0 : Int → Int) (a b : Int) (tm : Int → Tm) (Eq : Tm → Tm → Prop) (ρ π : Int → Int) (p q : Int) : Prop :=
  UR N ρ π ∧ (USnd N ρ π tm Eq ∧ (((0 ≤ p ∧ p < N) ∧ (0 ≤ q ∧ q < N)) ∧ (cg Eq (tm p) (tm q) ∧ ((∀ k, 0 ≤ k → k < N → ρ (ρ0 k) = ρ k) ∧ ((∀ k, 0 ≤ k → k < N → ρ0 k = k → π0 k ≠ -1 → π (ρ k) ≠ -1 ∧ smj ρ p q (π (ρ k)) (π0 k)) ∧ smj ρ p q a b)))))
def jρ (ρ : Int → Int) (x y : Int) : Int → Int := fun k => if ρ k = y then x else ρ k
def jπ (π : Int → Int) (x y : Int) : Int → Int := fun k => if k = x then (if π x = -1 then π y else π x) else π k
theorem JI_0 {N : Int} {ρ π : Int → Int} {tm : Int → Tm} {Eq : Tm → Tm → Prop} (h : US N ρ π tm Eq) {a b : Int} (ha : 0 ≤ a ∧ a < N) (hb : 0 ≤ b ∧ b < N) : JI N ρ π a b tm (fun s t => Eq s t ∨ (s = tm a ∧ t = tm b)) ρ π a b := by
  have hm : ∀ s t, cg Eq s t → cg (fun s t => Eq s t ∨ (s = tm a ∧ t = tm b)) s t := fun s t g => cg_mono (fun _ _ e => cg_eq (Or.inl e)) g
  refine ⟨h.1, fun k k0 k1 => ⟨hm _ _ (h.2.1 k k0 k1).1, fun e n => hm _ _ ((h.2.1 k k0 k1).2 e n)⟩, ⟨ha, hb⟩, cg_eq (Or.inr ⟨rfl, rfl⟩), fun k k0 k1 => (h.1 k k0 k1).1.2, fun k k0 k1 e n => ?_, Or.inr (Or.inl ⟨rfl, rfl⟩)⟩
  rw [e]; exact ⟨n, Or.inl rfl⟩
/-- one link of the join: y under x; what is still to be joined, if anything -/
theorem JI_step {N : Int} {ρ0 π0 : Int → Int} {a b : Int} {tm : Int → Tm} {Eq : Tm → Tm → Prop} {ρ π : Int → Int} {p q x y : Int} (hx : x = ρ p) (hy : y = ρ q) (hne : x ≠ y)
    (h : JI N ρ0 π0 a b tm Eq ρ π p q) :
    ((π x = -1 ∨ π y = -1) → ∀ z, 0 ≤ z → z < N → JI N ρ0 π0 a b tm Eq (jρ ρ x y) (jπ π x y) z z) ∧
    (π x ≠ -1 → π y ≠ -1 → JI N ρ0 π0 a b tm Eq (jρ ρ x y) (jπ π x y) (π x) (π y)) := by
  obtain ⟨h1, h2, ⟨hp, hq⟩, h3, h4, h5, h6⟩ := h
  have rp := (h1 p hp.1 hp.2).1
  have rq := (h1 q hq.1 hq.2).1
  rw [← hx] at rp
  rw [← hy] at rq
  have gx : jρ ρ x y x = x := by unfold jρ; rw [rp.2, if_neg hne]
  have gy : jρ ρ x y y = x := by unfold jρ; rw [rq.2, if_pos rfl]
  have gρ : ∀ k, 0 ≤ k → k < N → (0 ≤ jρ ρ x y k ∧ jρ ρ x y k < N) ∧ jρ ρ x y (jρ ρ x y k) = jρ ρ x y k := fun k k0 k1 => by
    by_cases c : ρ k = y
    · have e : jρ ρ x y k = x := if_pos c
      rw [e]; exact ⟨rp.1, gx⟩
    · have e : jρ ρ x y k = ρ k := if_neg c
      rw [e]; refine ⟨(h1 k k0 k1).1.1, ?_⟩
      show (if ρ (ρ k) = y then x else ρ (ρ k)) = ρ k
      rw [(h1 k k0 k1).1.2, if_neg c]
  have gs : ∀ s t, ρ s = ρ t → jρ ρ x y s = jρ ρ x y t := fun s t e => by unfold jρ; rw [e]
  have gsm : ∀ s t, smj ρ p q s t → jρ ρ x y s = jρ ρ x y t := fun s t e => by
    rcases e with e | ⟨e1, e2⟩ | ⟨e1, e2⟩
    · exact gs s t e
    · unfold jρ; rw [e1, e2, ← hx, ← hy, if_neg hne, if_pos rfl]
    · unfold jρ; rw [e1, e2, ← hx, ← hy, if_neg hne, if_pos rfl]
  have cxy : cg Eq (tm x) (tm y) := by
    have e1 := (h2 p hp.1 hp.2).1
    have e2 := (h2 q hq.1 hq.2).1
    rw [← hx] at e1
    rw [← hy] at e2
    exact cg_trans (cg_symm e1) (cg_trans h3 e2)
  have π_rng : ∀ r, 0 ≤ r → r < N → ρ r = r → π r ≠ -1 → 0 ≤ π r ∧ π r < N := fun r r0 r1 e n => by
    rcases (h1 r r0 r1).2 e with g | g
    · exact absurd g n
    · exact g
  have c1 : UR N (jρ ρ x y) (jπ π x y) := fun k k0 k1 => by
    refine ⟨gρ k k0 k1, fun e => ?_⟩
    have hk : ρ k = k := by
      by_cases c : ρ k = y
      · have e2 : jρ ρ x y k = x := if_pos c
        rw [e2] at e; rw [← e]; exact rp.2
      · have e2 : jρ ρ x y k = ρ k := if_neg c
        rw [e2] at e; exact e
    show (if k = x then (if π x = -1 then π y else π x) else π k) = -1 ∨ _
    by_cases c : k = x
    · have e3 : jπ π x y k = if π x = -1 then π y else π x := if_pos c
      rw [e3]
      by_cases c2 : π x = -1
      · rw [if_pos c2]; rw [if_pos c]; exact (h1 y rq.1.1 rq.1.2).2 rq.2
      · rw [if_neg c2]; rw [if_pos c]; exact (h1 x rp.1.1 rp.1.2).2 rp.2
    · have e3 : jπ π x y k = π k := if_neg c
      rw [e3, if_neg c]; exact (h1 k k0 k1).2 hk
  have c2 : USnd N (jρ ρ x y) (jπ π x y) tm Eq := fun k k0 k1 => by
    refine ⟨?_, fun e n => ?_⟩
    · by_cases c : ρ k = y
      · have e : jρ ρ x y k = x := if_pos c
        rw [e]
        have := (h2 k k0 k1).1
        rw [c] at this
        exact cg_trans this (cg_symm cxy)
      · have e : jρ ρ x y k = ρ k := if_neg c
        rw [e]; exact (h2 k k0 k1).1
    · have hk : ρ k = k := by
        by_cases c : ρ k = y
        · have e2 : jρ ρ x y k = x := if_pos c
          rw [e2] at e; rw [← e]; exact rp.2
        · have e2 : jρ ρ x y k = ρ k := if_neg c
          rw [e2] at e; exact e
      by_cases c : k = x
      · have e3 : jπ π x y k = if π x = -1 then π y else π x := if_pos c
        rw [e3] at n ⊢
        by_cases c2 : π x = -1
        · rw [if_pos c2] at n ⊢
          rw [c]
          exact cg_trans (cg_U cxy) ((h2 y rq.1.1 rq.1.2).2 rq.2 n)
        · rw [if_neg c2] at n ⊢
          rw [c]
          exact (h2 x rp.1.1 rp.1.2).2 rp.2 c2
      · have e3 : jπ π x y k = π k := if_neg c
        rw [e3] at n ⊢
        exact (h2 k k0 k1).2 hk n
  have c4 : ∀ k, 0 ≤ k → k < N → jρ ρ x y (ρ0 k) = jρ ρ x y k := fun k k0 k1 => gs _ _ (h4 k k0 k1)
  have ex : jπ π x y x = if π x = -1 then π y else π x := if_pos rfl
  -- the pointee of a joined class
  have c5 : ∀ k, 0 ≤ k → k < N → ρ0 k = k → π0 k ≠ -1 → jπ π x y (jρ ρ x y k) ≠ -1 ∧ (jρ ρ x y (jπ π x y (jρ ρ x y k)) = jρ ρ x y (π0 k) ∨ (π x ≠ -1 ∧ π y ≠ -1 ∧ jρ ρ x y (jπ π x y (jρ ρ x y k)) = jρ ρ x y (π x) ∧ jρ ρ x y (π0 k) = jρ ρ x y (π y))) := fun k k0 k1 e n => by
    obtain ⟨g1, g2⟩ := h5 k k0 k1 e n
    have g3 := gsm _ _ g2
    by_cases c : ρ k = y
    · have e1 : jρ ρ x y k = x := if_pos c
      rw [e1, ex]
      rw [c] at g1 g3
      by_cases c2 : π x = -1
      · rw [if_pos c2]; exact ⟨g1, Or.inl g3⟩
      · rw [if_neg c2]; exact ⟨c2, Or.inr ⟨c2, g1, rfl, g3.symm⟩⟩
    · have e1 : jρ ρ x y k = ρ k := if_neg c
      rw [e1]
      by_cases c3 : ρ k = x
      · rw [c3] at g1 g3 ⊢
        rw [ex, if_neg g1]; exact ⟨g1, Or.inl g3⟩
      · have e2 : jπ π x y (ρ k) = π (ρ k) := if_neg c3
        rw [e2]; exact ⟨g1, Or.inl g3⟩
  refine ⟨fun hn z z0 z1 => ⟨c1, c2, ⟨⟨z0, z1⟩, ⟨z0, z1⟩⟩, cg_refl _, c4, fun k k0 k1 e n => ?_, Or.inl (gsm _ _ h6)⟩, fun hpx hpy => ?_⟩
  · obtain ⟨g1, g2 | ⟨g2, g3, -⟩⟩ := c5 k k0 k1 e n
    · exact ⟨g1, Or.inl g2⟩
    · rcases hn with g | g
      · exact absurd g g2
      · exact absurd g g3
  · have b1 := π_rng x rp.1.1 rp.1.2 rp.2 hpx
    have b2 := π_rng y rq.1.1 rq.1.2 rq.2 hpy
    refine ⟨c1, c2, ⟨b1, b2⟩, cg_trans (cg_symm ((h2 x rp.1.1 rp.1.2).2 rp.2 hpx)) (cg_trans (cg_U cxy) ((h2 y rq.1.1 rq.1.2).2 rq.2 hpy)), c4, fun k k0 k1 e n => ?_, Or.inl (gsm _ _ h6)⟩
    obtain ⟨g1, g2 | ⟨-, -, g3, g4⟩⟩ := c5 k k0 k1 e n
    · exact ⟨g1, Or.inl g2⟩
    · exact ⟨g1, Or.inr (Or.inl ⟨g3, g4⟩)⟩
/-- the join is over -/
theorem JI_end {N : Int} {ρ0 π0 : Int → Int} {a b : Int} {tm : Int → Tm} {Eq : Tm → Tm → Prop} {ρ π : Int → Int} {p q : Int}
    (h0 : US N ρ0 π0 tm Eq) (hE : ∀ s t, Eq s t → (s.1 ≥ 0 ∧ s.1 < N) ∧ (t.1 ≥ 0 ∧ t.1 < N)) (ha : 0 ≤ a ∧ a < N) (hb : 0 ≤ b ∧ b < N)
    (h : JI N ρ0 π0 a b tm (fun s t => Eq s t ∨ (s = tm a ∧ t = tm b)) ρ π p q) (he : ρ p = ρ q) : US N ρ π tm (fun s t => Eq s t ∨ (s = tm a ∧ t = tm b)) := by
  obtain ⟨h1, h2, -, -, h4, h5, h6⟩ := h
  have hs : ∀ x y, smj ρ p q x y → ρ x = ρ y := fun x y g => by
    rcases g with g | ⟨g, g2⟩ | ⟨g, g2⟩
    · exact g
    · rw [g, g2, he]
    · rw [g, g2, he]
  have hh : Hom N ρ0 π0 ρ π := ⟨h4, fun k k0 k1 e n => ⟨(h5 k k0 k1 e n).1, hs _ _ (h5 k k0 k1 e n).2⟩⟩
  have hden : ∀ k, 0 ≤ k → k < N → dn ρ π (tm k) = (ρ k, 0) := fun k k0 k1 => by
    have e1 := (hom_dn h0.1 hh (h0.2.2.2 k k0 k1).1 (h0.2.2.2 k k0 k1).2 (tm k).2).2
    have e2 : den ρ0 π0 (tm k).1 (tm k).2 = (ρ0 k, 0) := h0.2.2.1.2 k k0 k1
    rw [e2] at e1
    show den ρ π (tm k).1 (tm k).2 = _
    rw [e1]
    show (ρ (ρ0 k), 0) = _
    rw [h4 k k0 k1]
  refine ⟨h1, h2, ⟨fun s t g => ?_, hden⟩, h0.2.2.2⟩
  rcases g with g | ⟨rfl, rfl⟩
  · exact hom_eq h0.1 hh (hE s t g).1 (hE s t g).2 (h0.2.2.1.1 s t g)
  · rw [hden a ha.1 ha.2, hden b hb.1 hb.2, hs a b h6]
/-! chains of parents -/
def itp (par : Int → Int) (k : Int) : Nat → Int
  | 0 => k
  | j + 1 => itp par (par k) j
theorem itp_root {par : Int → Int} {r : Int} (h : par r = r) : ∀ j, itp par r j = r
  | 0 => rfl
  | j + 1 => by show itp par (par r) j = r; rw [h]; exact itp_root h j
/-- ρ is the roots of the forest par; no chain is longer than u -/
def FO (N : Int) (par ρ : Int → Int) (u : Nat) : Prop := ∀ k, 0 ≤ k → k < N → (0 ≤ par k ∧ par k < N) ∧ ((0 ≤ ρ k ∧ ρ k < N) ∧ (par (ρ k) = ρ k ∧ ∃ j, j ≤ u ∧ itp par k j = ρ k))
def par' (par : Int → Int) (x y : Int) : Int → Int := fun k => if k = y then x else par k
theorem FO_root {N : Int} {par ρ : Int → Int} {u : Nat} (h : FO N par ρ u) {k : Int} (k0 : 0 ≤ k) (k1 : k < N) (e : par k = k) : ρ k = k := by
  obtain ⟨-, -, -, j, -, h4⟩ := h k k0 k1
  rw [itp_root e] at h4; exact h4.symm
theorem FO_par {N : Int} {par ρ : Int → Int} {u : Nat} (h : FO N par ρ u) {k : Int} (k0 : 0 ≤ k) (k1 : k < N) : ρ (par k) = ρ k := by
  obtain ⟨hp, -, h3, j, -, h4⟩ := h k k0 k1
  obtain ⟨-, -, h5, i, -, h6⟩ := h (par k) hp.1 hp.2
  have key : ∀ (j i : Nat) (k r s : Int), itp par k j = r → par r = r → itp par k i = s → par s = s → r = s := by
    intro j
    induction j with
    | zero => intro i k r s h1 h2 h3 h4; have h1 : k = r := h1; subst h1; rw [itp_root h2] at h3; exact h3
    | succ j ih =>
      intro i k r s h1 h2 h3 h4
      cases i with
      | zero => have h3 : k = s := h3; subst h3; rw [itp_root h4] at h1; exact h1.symm
      | succ i => exact ih i (par k) r s h1 h2 h3 h4
  cases j with
  | zero =>
    have h4 : k = ρ k := h4
    rw [← h4] at h3
    rw [h3]
  | succ j => exact (key j i (par k) _ _ h4 h3 h6 h5).symm
theorem FO_link {N : Int} {par ρ : Int → Int} {u : Nat} (h : FO N par ρ u) {x y : Int} (hx : (0 ≤ x ∧ x < N) ∧ par x = x) (hy : (0 ≤ y ∧ y < N) ∧ par y = y) (hne : x ≠ y) : FO N (par' par x y) (jρ ρ x y) (u + 1) := by
  have px : par' par x y x = x := by unfold par'; rw [if_neg hne]; exact hx.2
  have k1 : ∀ (j : Nat) (k : Int), itp par k j = y → ∃ i, i ≤ j + 1 ∧ itp (par' par x y) k i = x := by
    intro j
    induction j with
    | zero => intro k e; have e : k = y := e; subst e; exact ⟨1, Nat.le_refl _, by show par' par x k k = x; unfold par'; rw [if_pos rfl]⟩
    | succ j ih =>
      intro k e
      by_cases c : k = y
      · subst c; exact ⟨1, by omega, by show par' par x k k = x; unfold par'; rw [if_pos rfl]⟩
      · obtain ⟨i, hi, e2⟩ := ih (par k) e
        refine ⟨i + 1, by omega, ?_⟩
        show itp (par' par x y) (par' par x y k) i = x
        have e3 : par' par x y k = par k := if_neg c
        rw [e3]; exact e2
  have k2 : ∀ (j : Nat) (k r : Int), r ≠ y → itp par k j = r → itp (par' par x y) k j = r := by
    intro j
    induction j with
    | zero => intro k r _ e; exact e
    | succ j ih =>
      intro k r hr e
      have c : k ≠ y := fun c => by subst c; rw [itp_root hy.2] at e; exact hr e.symm
      show itp (par' par x y) (par' par x y k) j = r
      have e3 : par' par x y k = par k := if_neg c
      rw [e3]; exact ih (par k) r hr e
  intro k k0 kN
  obtain ⟨h1, h2, h3, j, hj, h4⟩ := h k k0 kN
  refine ⟨?_, ?_⟩
  · by_cases c : k = y
    · have e3 : par' par x y k = x := if_pos c
      rw [e3]; exact hx.1
    · have e3 : par' par x y k = par k := if_neg c
      rw [e3]; exact h1
  · by_cases c : ρ k = y
    · have e : jρ ρ x y k = x := if_pos c
      rw [e]
      rw [c] at h4
      obtain ⟨i, hi, e2⟩ := k1 j k h4
      exact ⟨hx.1, px, i, by omega, e2⟩
    · have e : jρ ρ x y k = ρ k := if_neg c
      rw [e]
      refine ⟨h2, ?_, j, by omega, k2 j k _ c h4⟩
      have e3 : par' par x y (ρ k) = par (ρ k) := if_neg c
      rw [e3]; exact h3
/-- how many roots -/
def nrt (par : Int → Int) (N : Nat) : Int := cn (fun k => par k == k) N
theorem nrt_link {par : Int → Int} {x y : Int} {N : Nat} (hy : 0 ≤ y ∧ y < N) (py : par y = y) (hne : x ≠ y) : nrt (par' par x y) N + 1 = nrt par N := by
  have key : ∀ n : Nat, nrt (par' par x y) n + (if y < n then 1 else 0) = nrt par n := by
    intro n
    induction n with
    | zero => rw [if_neg (by omega)]; rfl
    | succ n ih =>
      have e1 : nrt (par' par x y) (n + 1) = nrt (par' par x y) n + (if (par' par x y n == n) = true then 1 else 0) := rfl
      have e2 : nrt par (n + 1) = nrt par n + (if (par n == n) = true then 1 else 0) := rfl
      rw [e1, e2, ← ih]
      by_cases c : (n : Int) = y
      · have e3 : par' par x y n = x := if_pos c
        rw [e3]
        have e4 : (x == (n : Int)) = false := by rw [beq_eq_false_iff_ne, c]; exact hne
        have e5 : (par n == (n : Int)) = true := by rw [beq_iff_eq, c, py]
        rw [e4, e5, if_neg (show ¬ (false = true) by decide), if_pos (show true = true from rfl), if_neg (show ¬ (y < (n : Int)) by omega), if_pos (show y < ((n + 1 : Nat) : Int) by omega)]
      · have e3 : par' par x y n = par n := if_neg c
        rw [e3]
        by_cases c2 : y < n
        · rw [if_pos c2, if_pos (show y < ((n + 1 : Nat) : Int) by omega)]; omega
        · rw [if_neg c2, if_neg (show ¬ (y < ((n + 1 : Nat) : Int)) by omega)]; omega
  have := key N
  rw [if_pos hy.2] at this
  exact this
theorem nrt_pos {par : Int → Int} {r : Int} {N : Nat} (hr : 0 ≤ r ∧ r < N) (pr : par r = r) : 1 ≤ nrt par N := by
  have h1 := cn_mono (fun k => par k == k) (m := r.toNat + 1) (n := N) (by omega)
  have h2 := (cn_rng (fun k => par k == k) r.toNat).1
  rw [cn_succ, show ((r.toNat : Nat) : Int) = r by omega, pr] at h1
  unfold nrt
  simp at h1
  omega

