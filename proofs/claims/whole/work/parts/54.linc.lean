/-! the law's inclusion: what a statement brings -/
def fM : Nat → Int → Prop := fun c j => c = 62 ∨ (c = 53 ∧ j = 20)
def FW (r1 : Nat) (D : Fa → Fa) (σ σ' : St) : Prop :=
  (∀ c u, Gc 62 σ c u → Gc 62 σ' c u) ∧ ((∀ c u, D (Gc r1 σ) c u → Gc 62 σ' c u) ∧ ((∀ X Y : Fa, (∀ c u, Gc 62 σ c u → X c u) → (∀ c u, Gc r1 σ c u → Y c u) → (r1 = 62 → ∀ c u, X c u → Y c u) → (∀ c u, D Y c u → X c u) → ∀ c u, Gc 62 σ' c u → X c u) ∧
  (((gI σ' 53 20 = 1 ∧ (gI σ 53 20 = 1 ∨ ∃ c u, Gc 62 σ' c u ∧ ¬ Gc 62 σ c u)) ∨ (gI σ' 53 20 = gI σ 53 20 ∧ ∀ c u, Gc 62 σ' c u → Gc 62 σ c u)) ∧ fr fM σ σ')))
theorem FW_refl {r1 : Nat} {D : Fa → Fa} {σ : St} (h : ∀ c u, D (Gc r1 σ) c u → Gc 62 σ c u) : FW r1 D σ σ :=
  ⟨fun _ _ k => k, h, fun _ _ k _ _ _ => k, Or.inr ⟨rfl, fun _ _ k => k⟩, fr_refl⟩
theorem FW_congr {r1 : Nat} {D D' : Fa → Fa} {σ σ' : St} (h : ∀ A c u, D A c u ↔ D' A c u) (g : FW r1 D σ σ') : FW r1 D' σ σ' := by
  have e : D = D' := funext fun A => funext fun c => funext fun u => propext (h A c u)
  rw [← e]; exact g
theorem FW_of {r1 : Nat} {D : Fa → Fa} {σ σ' : St} (h : ∀ c u, Gc 62 σ' c u ↔ (Gc 62 σ c u ∨ D (Gc r1 σ) c u)) (hD : ∀ A B : Fa, (∀ c u, A c u → B c u) → ∀ c u, D A c u → D B c u) (hF : (gI σ' 53 20 = 1 ∧ (gI σ 53 20 = 1 ∨ ∃ c u, Gc 62 σ' c u ∧ ¬ Gc 62 σ c u)) ∨ (gI σ' 53 20 = gI σ 53 20 ∧ ∀ c u, Gc 62 σ' c u → Gc 62 σ c u)) (hf : fr fM σ σ') : FW r1 D σ σ' :=
  ⟨fun c u k => (h c u).mpr (Or.inl k), fun c u k => (h c u).mpr (Or.inr k), fun X Y h1 h2 h3 h4 c u k => ((h c u).mp k).elim (h1 c u) (fun k => h4 c u (hD _ _ h2 c u k)), hF, hf⟩
theorem Gr1 {r1 : Nat} (hr : r1 = 62 ∨ r1 = 63) {σ σ' : St} (hf : fr fM σ σ') (hm : ∀ c u, Gc 62 σ c u → Gc 62 σ' c u) {c u : Int} (k : Gc r1 σ c u) : Gc r1 σ' c u := by
  rcases hr with rfl | rfl
  · exact hm c u k
  · rw [Gc_fr hf (fun j => by unfold fM; omega)]; exact k
theorem FW_comp {r1 : Nat} (hr : r1 = 62 ∨ r1 = 63) {D1 D2 : Fa → Fa} {σ σ1 σ2 : St} (hD : ∀ A B : Fa, (∀ c u, A c u → B c u) → ∀ c u, D2 A c u → D2 B c u) (h1 : FW r1 D1 σ σ1) (h2 : FW r1 D2 σ1 σ2) : FW r1 (fun A c u => D1 A c u ∨ D2 A c u) σ σ2 := by
  obtain ⟨a1, a2, a3, a4, a5⟩ := h1
  obtain ⟨b1, b2, b3, b4, b5⟩ := h2
  refine ⟨fun c u k => b1 c u (a1 c u k), fun c u k => ?_, fun X Y x1 x2 x3 x4 c u k => ?_, ?_, fr_trans a5 b5⟩
  · rcases k with k | k
    · exact b1 c u (a2 c u k)
    · exact b2 c u (hD _ _ (fun c u q => Gr1 hr a5 a1 q) c u k)
  · have y1 := a3 X Y x1 x2 x3 (fun c u q => x4 c u (Or.inl q))
    refine b3 X Y y1 (fun c u q => ?_) x3 (fun c u q => x4 c u (Or.inr q)) c u k
    rcases hr with rfl | rfl
    · exact x3 rfl c u (y1 c u q)
    · rw [Gc_fr a5 (fun j => by unfold fM; omega)] at q; exact x2 c u q
  · rcases b4 with ⟨e2, n2⟩ | ⟨e2, n2⟩
    · refine Or.inl ⟨e2, ?_⟩
      rcases n2 with n2 | ⟨c, u, n2, n3⟩
      · rcases a4 with ⟨e1, n1⟩ | ⟨e1, n1⟩
        · rcases n1 with n1 | ⟨c, u, n1, n3⟩
          · exact Or.inl n1
          · exact Or.inr ⟨c, u, b1 c u n1, n3⟩
        · exact Or.inl (e1.symm.trans n2)
      · exact Or.inr ⟨c, u, n2, fun q => n3 (a1 c u q)⟩
    · rcases a4 with ⟨e1, n1⟩ | ⟨e1, n1⟩
      · refine Or.inl ⟨e2.trans e1, ?_⟩
        rcases n1 with n1 | ⟨c, u, n1, n3⟩
        · exact Or.inl n1
        · exact Or.inr ⟨c, u, b1 c u n1, n3⟩
      · exact Or.inr ⟨e2.trans e1, fun c u k => n1 c u (n2 c u k)⟩
theorem FW_if {r1 : Nat} {E : Fa → Fa} {σ σ' : St} {w i : Int} (h : Gc r1 σ w i → FW r1 E σ σ') (hn : ¬ Gc r1 σ w i → σ' = σ) : FW r1 (fun A c u => A w i ∧ E A c u) σ σ' := by
  by_cases q : Gc r1 σ w i
  · obtain ⟨a1, a2, a3, a4, a5⟩ := h q
    exact ⟨a1, fun c u k => a2 c u k.2, fun X Y x1 x2 x3 x4 => a3 X Y x1 x2 x3 (fun c u k => x4 c u ⟨x2 _ _ q, k⟩), a4, a5⟩
  · rw [hn q]
    exact FW_refl (fun c u k => absurd k.1 q)
theorem Gc_bt {g : Nat} {σ : St} {c u : Int} (hc : 0 ≤ c ∧ c < 152) (hu : 0 ≤ u ∧ u < 192) : Gc g σ c u ↔ (gL σ g (3 * c + u / 64)).getLsbD (u % 64).toNat = true := by
  unfold Gc bt
  exact ⟨fun k => k.2.2, fun k => ⟨hc, hu, k⟩⟩
/-- a word is united -/
theorem Gc_word {r1 : Nat} {σ : St} {c x w : Int} (hc : 0 ≤ c ∧ c < 152) (hx : 0 ≤ x ∧ x < 152) (hw : 0 ≤ w ∧ w < 3) (c' u' : Int) :
    Gc 62 (sI (sL σ 62 (3 * c + w) (gL σ 62 (3 * c + w) ||| (gL σ r1 (3 * x + w) &&& (gL σ 62 (3 * c + w) ^^^ BitVec.ofInt 64 (-1))))) 53 20 1) c' u' ↔ (Gc 62 σ c' u' ∨ (c' = c ∧ (Gc r1 σ x u' ∧ (64 * w ≤ u' ∧ u' < 64 * w + 64)))) := by
  by_cases hr : (0 ≤ c' ∧ c' < 152) ∧ (0 ≤ u' ∧ u' < 192)
  · rw [Gc_bt hr.1 hr.2, Gc_bt hr.1 hr.2, Gc_bt hx hr.2, gL_sI, gL_sL]
    by_cases q : 3 * c' + u' / 64 = 3 * c + w
    · have e1 : c' = c := by omega
      have e2 : u' / 64 = w := by omega
      rw [if_pos ⟨rfl, q⟩, BitVec.getLsbD_or, Bool.or_eq_true, frs_get, q, e2, Bool.and_eq_true, Bool.not_eq_true']
      constructor
      · rintro (k | ⟨k, _⟩)
        · exact Or.inl k
        · exact Or.inr ⟨e1, k, by omega, by omega⟩
      · rintro (k | ⟨_, k, _⟩)
        · exact Or.inl k
        · cases z : (gL σ 62 (3 * c + w)).getLsbD (u' % 64).toNat with
          | true => exact Or.inl rfl
          | false => exact Or.inr ⟨k, rfl⟩
    · rw [if_neg (fun k => q k.2)]
      exact ⟨Or.inl, fun k => k.resolve_right (fun ⟨e1, _, e2⟩ => q (by omega))⟩
  · constructor
    · rintro ⟨k1, k2, _⟩; exact absurd ⟨k1, k2⟩ hr
    · rintro (⟨k1, k2, _⟩ | ⟨e, ⟨_, k2, _⟩, _⟩)
      · exact absurd ⟨k1, k2⟩ hr
      · exact absurd ⟨by omega, k2⟩ hr
section LI
variable {t : Nat} {σ : St} {Q : Res → St → Prop} {P : Pg} {xs : List Int} {lim : Int}
theorem e210 {r : Nat} {c u : Int} (hr : lc r = 102 ∧ ln r = 456) (hc : 0 ≤ c ∧ c < 152) (hu : 0 ≤ u ∧ u < 192) : Call t 210 [vR r, vI c, vI u] σ Q ↔ Q (.inl (some (vI (b2i (bt (gL σ r) c u))))) σ := Call_iff (fun Q hq => by
  have hs : sh6 (u % 64) = (u % 64).toNat := sh6_id (by omega) (by omega)
  have key : (lCmp (BitVec.sshiftRight (gL σ r (3 * c + u / 64)) (sh6 (u % 64)) &&& BitVec.ofNat 64 1) (BitVec.ofNat 64 1) = 0) ↔ bt (gL σ r) c u = true := by
    rw [lCmp_eq, bb_and1', hs, bb_sar _ (by omega)]
    exact Iff.rfl
  rw [x210_0]
  refine ⟨⟨hu.1, by omega⟩, ⟨hr.1, by omega, by rw [hr.2]; omega⟩, ⟨hu.1, by omega⟩, lCmp_in, fun a => ?_, fun a => ?_⟩
  · rw [x210_22, x210_27]
    rw [key.mp a, b2i_t] at hq
    exact ⟨Or.inr rfl, hq⟩
  · rw [x210_26, x210_27]
    rw [key] at a
    have e : bt (gL σ r) c u = false := by cases z : bt (gL σ r) c u with
      | true => exact absurd z a
      | false => rfl
    rw [e, b2i_f] at hq
    exact ⟨Or.inl rfl, hq⟩)
theorem e211 {x i : Int} (h0 : 0 ≤ x) (h1 : x ≤ 19) : Call t 211 [vI x, vI i] σ Q ↔ Q (.inl (some (vI (clo x i)))) σ := Call_iff (fun Q hq => by
  unfold clo at hq
  rw [x211_0]
  refine ⟨⟨by omega, by omega⟩, fun a => ?_, fun a => ?_⟩
  · rw [if_pos a] at hq
    rw [x211_5, x211_18]; exact hq
  · rw [if_neg a] at hq
    rw [x211_9, x211_18, show x % 4 = (x - 4) % 4 by omega]; exact ⟨⟨h0, by omega⟩, hq⟩)
theorem e212 (hX : LX σ xs) {c : Int} (hc : vld xs c) : Call t 212 [vR 53, vI c] σ Q ↔ Q (.inl (some (vI (cdf xs c)))) σ := Call_iff (fun Q hq => by
  have h0 := hc.1
  have h1 := hc.2
  have hl := hX.1.2
  unfold cdf at hq
  rw [x212_0]
  refine ⟨⟨by omega, by omega⟩, fun a => ?_, fun a => ?_⟩
  · rw [if_neg (by omega), if_pos a] at hq
    rw [x212_5, x212_45]; exact hq
  · rw [x212_9]
    refine ⟨⟨by omega, by omega⟩, fun b => ?_, fun b => ?_⟩
    · rw [if_neg (by omega), if_neg a] at hq
      have g := (hX.2.1 ((c - 4) / 4) (by omega) (by omega)).1
      rw [x212_16, x212_45, g, show c % 4 = (c - 4) % 4 by omega]
      exact ⟨⟨by omega, by omega⟩, ⟨by omega, by omega⟩, ⟨by omega, by omega⟩, hq⟩
    · rw [if_pos (by omega)] at hq
      rw [x212_37, x212_45]; exact hq)
/-- adds -/
theorem c213 {r1 : Nat} {c u : Int} (hc : 0 ≤ c ∧ c < 152) (hu : 0 ≤ u ∧ u < 152) (hq : ∀ σ', FW r1 (fun _ c' u' => c' = c ∧ u' = u) σ σ' → Q (.inl none) σ') : Call t 213 [vR 53, vI c, vI u] σ Q := by
  have hG : Gc 62 σ c u ↔ bt (gL σ 62) c u = true := ⟨fun k => k.2.2, fun k => ⟨hc, ⟨hu.1, by omega⟩, k⟩⟩
  simp only [x213_0, e210 (r := 62) ⟨rfl, rfl⟩ hc (show 0 ≤ u ∧ u < 192 by omega), x213_9, eq_true (b2i_in _), b2i_0, aft_l, aft_r, optL_s, optL_n, xgo_n, xgo_s, List.cons_append, List.nil_append, List.append_nil, true_and, and_true, Nat.sub_zero, Nat.zero_le, true_implies, false_implies, implies_true, not_true_eq_false, not_false_eq_true, true_or, or_true]
  refine ⟨fun a => ?_, fun a => ?_⟩
  · rw [x213_13]
    have hs : sh6 (u % 64) = (u % 64).toNat := sh6_id (by omega) (by omega)
    refine ⟨⟨hu.1, by omega⟩, ⟨by omega, by omega⟩, ⟨hu.1, by omega⟩, ⟨by omega, by omega⟩, hq _ ?_⟩
    have key : ∀ c' u', Gc 62 (sI (sL σ 62 (3 * c + u / 64) (gL σ 62 (3 * c + u / 64) ||| (BitVec.ofNat 64 1 <<< sh6 (u % 64)))) 53 20 1) c' u' ↔ (Gc 62 σ c' u' ∨ (c' = c ∧ u' = u)) := fun c' u' => by
      by_cases hr : (0 ≤ c' ∧ c' < 152) ∧ (0 ≤ u' ∧ u' < 192)
      · rw [Gc_bt hr.1 hr.2, Gc_bt hr.1 hr.2, gL_sI, gL_sL]
        by_cases q : 3 * c' + u' / 64 = 3 * c + u / 64
        · rw [if_pos ⟨rfl, q⟩, BitVec.getLsbD_or, Bool.or_eq_true, hs, bb_one (by omega), decide_eq_true_eq, q]
          constructor
          · rintro (k | k)
            · exact Or.inl k
            · exact Or.inr ⟨by omega, by omega⟩
          · rintro (k | k)
            · exact Or.inl k
            · exact Or.inr (by omega)
        · rw [if_neg (fun k => q k.2)]
          exact ⟨Or.inl, fun k => k.resolve_right (fun ⟨e1, e2⟩ => q (by rw [e1, e2]))⟩
      · constructor
        · rintro ⟨k1, k2, _⟩; exact absurd ⟨k1, k2⟩ hr
        · rintro (⟨k1, k2, _⟩ | ⟨e1, e2⟩)
          · exact absurd ⟨k1, k2⟩ hr
          · exact absurd ⟨by omega, by omega⟩ hr
    refine FW_of key (fun _ _ _ _ _ k => k) (Or.inl ⟨by rw [gI_sI, if_pos ⟨rfl, rfl⟩], Or.inr ⟨c, u, (key c u).mpr (Or.inr ⟨rfl, rfl⟩), fun k => ?_⟩⟩) (fr_sI (fr_sL fr_refl (by unfold fM; omega)) (by unfold fM; omega))
    rw [hG.mp k] at a; cases a
  · rw [x213_12]
    refine hq σ (FW_refl (fun c' u' k => ?_))
    rw [k.1, k.2, hG]
    cases z : bt (gL σ 62) c u with
    | true => rfl
    | false => exact absurd z a
theorem adl2 {r1 : Nat} (hr : r1 = 62 ∨ r1 = 63) {c x : Int} (hc : 0 ≤ c ∧ c < 152) (hx : 0 ≤ x ∧ x < 152) (hq : ∀ σ', FW r1 (fun A c' u' => c' = c ∧ A x u') σ σ' → Q (.inl none) σ') :
    ∀ (d : Nat) (w : Int) (σ1 : St) (a5 a6 : Option AV), 0 ≤ w → w + d = 3 → FW r1 (fun A c' u' => c' = c ∧ (A x u' ∧ u' < 64 * w)) σ σ1 → wp t 214 3 [some (vR 53), some (vR r1), some (vI c), some (vI x), some (vI w), a5, a6] [] σ1 Q
  | 0, w, σ1, a5, a6, w0, hd, h => by
    have e : w = 3 := by omega
    subst e
    rw [x214_3]
    refine ⟨⟨by omega, by omega⟩, fun h => by omega, fun _ => ?_⟩
    rw [x214_72]
    obtain ⟨h1, h2, h3, h4, h5⟩ := h
    refine hq σ1 ⟨h1, fun c' u' k => h2 c' u' ⟨k.1, k.2, by have := k.2.2.1; omega⟩, fun X Y x1 x2 x3 x4 => h3 X Y x1 x2 x3 (fun c' u' k => x4 c' u' ⟨k.1, k.2.1⟩), h4, h5⟩
  | d + 1, w, σ1, a5, a6, w0, hd, h => by
    have hl : lc r1 = 102 ∧ (ln r1 : Int) = 456 := by rcases hr with rfl | rfl <;> exact ⟨rfl, rfl⟩
    have mono : ∀ A B : Fa, (∀ c u, A c u → B c u) → ∀ c' u', (c' = c ∧ (A x u' ∧ (64 * w ≤ u' ∧ u' < 64 * w + 64))) → (c' = c ∧ (B x u' ∧ (64 * w ≤ u' ∧ u' < 64 * w + 64))) := fun A B hAB c' u' k => ⟨k.1, hAB _ _ k.2.1, k.2.2⟩
    have step : ∀ σ2, FW r1 (fun A c' u' => c' = c ∧ (A x u' ∧ (64 * w ≤ u' ∧ u' < 64 * w + 64))) σ1 σ2 → FW r1 (fun A c' u' => c' = c ∧ (A x u' ∧ u' < 64 * (w + 1))) σ σ2 := fun σ2 h2 => by
      have h3 := FW_comp hr (D2 := fun A c' u' => c' = c ∧ (A x u' ∧ (64 * w ≤ u' ∧ u' < 64 * w + 64))) mono h h2
      refine FW_congr (fun A c' u' => ?_) h3
      constructor
      · rintro (⟨e, k1, k2⟩ | ⟨e, k1, k2⟩)
        · exact ⟨e, k1, by omega⟩
        · exact ⟨e, k1, by omega⟩
      · rintro ⟨e, k1, k2⟩
        by_cases q : u' < 64 * w
        · exact Or.inl ⟨e, k1, q⟩
        · exact Or.inr ⟨e, k1, by omega, by omega⟩
    have key := fun c' u' => Gc_word (r1 := r1) (σ := σ1) (c := c) (x := x) (w := w) hc hx (by omega) c' u'
    rw [x214_3]
    refine ⟨⟨by omega, by omega⟩, fun _ => ?_, fun h => by omega⟩
    rw [x214_9]
    refine ⟨⟨hl.1, by omega, by rw [hl.2]; omega⟩, ⟨by omega, by omega⟩, lCmp_in, fun a => ?_, fun a => ?_⟩
    · rw [lCmp_eq] at a
      rw [x214_42, x214_66]
      refine adl2 hr hc hx hq d (w + 1) σ1 _ _ (by omega) (by omega) (step σ1 (FW_refl (fun c' u' k => ?_)))
      have := (key c' u').mpr (Or.inr k)
      rw [a, BitVec.or_zero] at this
      have e : gL (sI (sL σ1 62 (3 * c + w) (gL σ1 62 (3 * c + w))) 53 20 1) 62 = gL σ1 62 := funext fun j => by
        rw [gL_sI, gL_sL]
        by_cases q : j = 3 * c + w
        · rw [if_pos ⟨rfl, q⟩, q]
        · rw [if_neg (fun k => q k.2)]
      unfold Gc at *
      rw [e] at this; exact this
    · rw [lCmp_eq] at a
      rw [x214_45, x214_66]
      refine ⟨⟨by omega, by omega⟩, ⟨by omega, by omega⟩, adl2 hr hc hx hq d (w + 1) _ _ _ (by omega) (by omega) (step _ (FW_of key mono (Or.inl ⟨by rw [gI_sI, if_pos ⟨rfl, rfl⟩], Or.inr ?_⟩) (fr_sI (fr_sL fr_refl (by unfold fM; omega)) (by unfold fM; omega))))⟩
      have hex : ∃ j : Nat, j < 64 ∧ (gL σ1 r1 (3 * x + w) &&& (gL σ1 62 (3 * c + w) ^^^ BitVec.ofInt 64 (-1))).getLsbD j = true := by
        apply Classical.byContradiction
        intro hno
        apply a
        apply BitVec.eq_of_getLsbD_eq
        intro i hi
        have e0 : (BitVec.ofNat 64 0).getLsbD i = false := by simp
        rw [e0]
        cases z : (gL σ1 r1 (3 * x + w) &&& (gL σ1 62 (3 * c + w) ^^^ BitVec.ofInt 64 (-1))).getLsbD i with
        | false => rfl
        | true => exact absurd ⟨i, hi, z⟩ hno
      obtain ⟨j, hj, hb⟩ := hex
      rw [frs_get, Bool.and_eq_true, Bool.not_eq_true'] at hb
      have e1 : (64 * w + (j : Int)) / 64 = w := by omega
      have e2 : ((64 * w + (j : Int)) % 64).toNat = j := by omega
      refine ⟨c, 64 * w + j, (key _ _).mpr (Or.inr ⟨rfl, ?_, by omega, by omega⟩), fun k => ?_⟩
      · rw [Gc_bt hx (by omega), e1, e2]; exact hb.1
      · rw [Gc_bt hc (by omega), e1, e2, hb.2] at k; cases k
/-- addsAll -/
theorem c214 {r1 : Nat} (hr : r1 = 62 ∨ r1 = 63) {c x : Int} (hc : 0 ≤ c ∧ c < 152) (hx : 0 ≤ x ∧ x < 152) (hq : ∀ σ', FW r1 (fun A c' u' => c' = c ∧ A x u') σ σ' → Q (.inl none) σ') : Call t 214 [vR 53, vR r1, vI c, vI x] σ Q := by
  rw [x214_0]
  exact adl2 hr hc hx hq 3 0 σ _ _ (by omega) (by omega) (FW_refl (fun c' u' k => by have := k.2.1.2.1; omega))
end LI
