/-! the law's inclusion: what a statement brings -/
def fM : Nat → Int → Prop := fun c j => c = 62 ∨ (c = 53 ∧ j = 20)
def FW (r1 : Nat) (D : Fa → Fa) (σ σ' : St) : Prop :=
  (∀ c u, Gc 62 σ c u → Gc 62 σ' c u) ∧ ((∀ c u, D (Gc r1 σ) c u → Gc 62 σ' c u) ∧ ((∀ X Y : Fa, (∀ c u, Gc 62 σ c u → X c u) → (∀ c u, Gc r1 σ c u → Y c u) → (r1 = 62 → ∀ c u, X c u → Y c u) → (∀ c u, D Y c u → X c u) → ∀ c u, Gc 62 σ' c u → X c u) ∧
  (((gI σ' 53 20 = 1 ∧ (gI σ 53 20 = 1 ∨ ∃ c u, Gc 62 σ' c u ∧ ¬ Gc 62 σ c u)) ∨ (gI σ' 53 20 = gI σ 53 20 ∧ ∀ c u, Gc 62 σ' c u → Gc 62 σ c u)) ∧ fr fM σ σ')))
theorem FW_refl {r1 : Nat} {D : Fa → Fa} {σ : St} (h : ∀ c u, D (Gc r1 σ) c u → Gc 62 σ c u) : FW r1 D σ σ :=
  ⟨fun _ _ k => k, h, fun _ _ k _ _ _ => k, Or.inr ⟨rfl, fun _ _ k => k⟩, fr_refl⟩
theorem FW_congr {r1 : Nat} {D D' : Fa → Fa} {σ σ' : St} (h : ∀ A c u, D A c u ↔ D' A c u) (g : FW r1 D σ σ') : FW r1 D' σ σ' := by
  have e : D = D' := funext fun A => funext fun c => funext fun u => propext (h A c u)
  rw [← e]; exact g
theorem FW_of {r1 : Nat} {D : Fa → Fa} {σ σ' : St} (h : ∀ c u, Gc 62 σ' c u ↔ (Gc 62 σ c u ∨ D (Gc r1 σ) c u)) (hD : ∀ A B : Fa, (∀ c u, A c u → B c u) → ∀ c u, D A c u → D B c u) (hF : (gI σ' 53 20 = 1 ∧ (gI σ 53 20 = 1 ∨ ∃ c u, Gc 62 σ' c u ∧ ¬ Gc 62 σ c u)) ∨ (gI σ' 53 20 = gI σ 53 20 ∧ ∀ c u, Gc 62 σ' c u → Gc 62 σ c u)) (hf : fr fM σ σ') : FW r1 D σ σ' :=
  ⟨fun c u k => (h c u).mpr (Or.inl k), fun c u k => (h c u).mpr (Or.inr k), fun X Y h1 h2 h3 h4 c u k => ((h c u).mp k).elim (h1 c u) (fun k => h4 c u (hD _ _ h2 c u k)), hF, hf⟩
theorem Gr1 {r1 : Nat} (hr : r1 = 62 ∨ r1 = 63) {σ σ' : St} (hf : fr fM σ σ') (hm : ∀ c u, Gc 62 σ c u → Gc 62 σ' c u) {c u : Int} (k : Gc r1 σ c u) : Gc r1 σ' c u := by
  rcases hr with rfl | rfl
  · exact hm c u k
  · rw [Gc_fr hf (fun j => by unfold fM; omega)]; exact k
theorem FW_comp {r1 : Nat} (hr : r1 = 62 ∨ r1 = 63) {D1 D2 : Fa → Fa} {σ σ1 σ2 : St} (hD : ∀ A B : Fa, (∀ c u, A c u → B c u) → ∀ c u, D2 A c u → D2 B c u) (h1 : FW r1 D1 σ σ1) (h2 : FW r1 D2 σ1 σ2) : FW r1 (fun A c u => D1 A c u ∨ D2 A c u) σ σ2 := by
  obtain ⟨a1, a2, a3, a4, a5⟩ := h1
  obtain ⟨b1, b2, b3, b4, b5⟩ := h2
  refine ⟨fun c u k => b1 c u (a1 c u k), fun c u k => ?_, fun X Y x1 x2 x3 x4 c u k => ?_, ?_, fr_trans a5 b5⟩
  · rcases k with k | k
    · exact b1 c u (a2 c u k)
    · exact b2 c u (hD _ _ (fun c u q => Gr1 hr a5 a1 q) c u k)
  · have y1 := a3 X Y x1 x2 x3 (fun c u q => x4 c u (Or.inl q))
    refine b3 X Y y1 (fun c u q => ?_) x3 (fun c u q => x4 c u (Or.inr q)) c u k
    rcases hr with rfl | rfl
    · exact x3 rfl c u (y1 c u q)
    · rw [Gc_fr a5 (fun j => by unfold fM; omega)] at q; exact x2 c u q
  · rcases b4 with ⟨e2, n2⟩ | ⟨e2, n2⟩
    · refine Or.inl ⟨e2, ?_⟩
      rcases n2 with n2 | ⟨c, u, n2, n3⟩
      · rcases a4 with ⟨e1, n1⟩ | ⟨e1, n1⟩
        · rcases n1 with n1 | ⟨c, u, n1, n3⟩
          · exact Or.inl n1
          · exact Or.inr ⟨c, u, b1 c u n1, n3⟩
        · exact Or.inl (e1.symm.trans n2)
      · exact Or.inr ⟨c, u, n2, fun q => n3 (a1 c u q)⟩
    · rcases a4 with ⟨e1, n1⟩ | ⟨e1, n1⟩
      · refine Or.inl ⟨e2.trans e1, ?_⟩
        rcases n1 with n1 | ⟨c, u, n1, n3⟩
        · exact Or.inl n1
        · exact Or.inr ⟨c, u, b1 c u n1, n3⟩
      · exact Or.inr ⟨e2.trans e1, fun c u k => n1 c u (n2 c u k)⟩
theorem FW_if {r1 : Nat} {E : Fa → Fa} {σ σ' : St} {w i : Int} (h : Gc r1 σ w i → FW r1 E σ σ') (hn : ¬ Gc r1 σ w i → σ' = σ) : FW r1 (fun A c u => A w i ∧ E A c u) σ σ' := by
  by_cases q : Gc r1 σ w i
  · obtain ⟨a1, a2, a3, a4, a5⟩ := h q
    exact ⟨a1, fun c u k => a2 c u k.2, fun X Y x1 x2 x3 x4 => a3 X Y x1 x2 x3 (fun c u k => x4 c u ⟨x2 _ _ q, k⟩), a4, a5⟩
  · rw [hn q]
    exact FW_refl (fun c u k => absurd k.1 q)
theorem Gc_bt {g : Nat} {σ : St} {c u : Int} (hc : 0 ≤ c ∧ c < 152) (hu : 0 ≤ u ∧ u < 192) : Gc g σ c u ↔ (gL σ g (3 * c + u / 64)).getLsbD (u % 64).toNat = true := by
  unfold Gc bt
  exact ⟨fun k => k.2.2, fun k => ⟨hc, hu, k⟩⟩
/-- a word is united -/
theorem Gc_word {r1 : Nat} {σ : St} {c x w : Int} (hc : 0 ≤ c ∧ c < 152) (hx : 0 ≤ x ∧ x < 152) (hw : 0 ≤ w ∧ w < 3) (c' u' : Int) :
    Gc 62 (sI (sL σ 62 (3 * c + w) (gL σ 62 (3 * c + w) ||| (gL σ r1 (3 * x + w) &&& (gL σ 62 (3 * c + w) ^^^ BitVec.ofInt 64 (-1))))) 53 20 1) c' u' ↔ (Gc 62 σ c' u' ∨ (c' = c ∧ (Gc r1 σ x u' ∧ (64 * w ≤ u' ∧ u' < 64 * w + 64)))) := by
  by_cases hr : (0 ≤ c' ∧ c' < 152) ∧ (0 ≤ u' ∧ u' < 192)
  · rw [Gc_bt hr.1 hr.2, Gc_bt hr.1 hr.2, Gc_bt hx hr.2, gL_sI, gL_sL]
    by_cases q : 3 * c' + u' / 64 = 3 * c + w
    · have e1 : c' = c := by omega
      have e2 : u' / 64 = w := by omega
      rw [if_pos ⟨rfl, q⟩, BitVec.getLsbD_or, Bool.or_eq_true, frs_get, q, e2, Bool.and_eq_true, Bool.not_eq_true']
      constructor
      · rintro (k | ⟨k, _⟩)
        · exact Or.inl k
        · exact Or.inr ⟨e1, k, by omega, by omega⟩
      · rintro (k | ⟨_, k, _⟩)
        · exact Or.inl k
        · cases z : (gL σ 62 (3 * c + w)).getLsbD (u' % 64).toNat with
          | true => exact Or.inl rfl
          | false => exact Or.inr ⟨k, rfl⟩
    · rw [if_neg (fun k => q k.2)]
      exact ⟨Or.inl, fun k => k.resolve_right (fun ⟨e1, _, e2⟩ => q (by omega))⟩
  · constructor
    · rintro ⟨k1, k2, _⟩; exact absurd ⟨k1, k2⟩ hr
    · rintro (⟨k1, k2, _⟩ | ⟨e, ⟨_, k2, _⟩, _⟩)
      · exact absurd ⟨k1, k2⟩ hr
      · exact absurd ⟨by omega, k2⟩ hr
section LI
variable {t : Nat} {σ : St} {Q : Res → St → Prop} {P : Pg} {xs : List Int} {lim : Int}
end LI

