/-! the law's program -/
theorem Call_iff {b y : Nat} {as : List AV} {σ σ1 : St} {a : Res} {Q : Res → St → Prop} (h : ∀ Q : Res → St → Prop, Q a σ1 → Call b y as σ Q) : Call b y as σ Q ↔ Q a σ1 := ⟨fun g => by
  obtain ⟨n1, r1, s1, e1, q1, q2⟩ := h (fun r s => r = a ∧ s = σ1) ⟨rfl, rfl⟩
  obtain ⟨n2, r2, s2, e2, q3⟩ := g
  have a1 := ex_mono e1 (Nat.le_add_right n1 n2)
  have a2 := ex_mono e2 (Nat.le_add_left n2 n1)
  rw [a1] at a2
  have a3 := Option.some.inj a2
  have a4 : r1 = r2 := congrArg Prod.fst a3
  have a5 : s1 = s2 := congrArg Prod.snd a3
  rw [← q1, ← q2, a4, a5]; exact q3, fun g => h Q g⟩
def LPr (σ : St) (P : Pg) : Prop := (∀ c j, 54 ≤ c → c ≤ 57 → 0 ≤ j → j < 48 → gI σ c j = P c j) ∧ (∀ j, 0 ≤ j → j < 4 → gI σ 58 j = P 58 j)
theorem LP_fr {M : Nat → Int → Prop} {σ σ' : St} {P : Pg} (h : LPr σ P) (g : fr M σ σ') (hM : ∀ c j, M c j → (c < 54 ∨ 58 < c ∨ (c ≤ 57 ∧ 48 ≤ j) ∨ (c = 58 ∧ 4 ≤ j))) : LPr σ' P :=
  ⟨fun c j c0 c1 j0 j1 => (fr_I g _ _ (fun k => by have := hM c j k; omega)).trans (h.1 c j c0 c1 j0 j1), fun j j0 j1 => (fr_I g _ _ (fun k => by have := hM 58 j k; omega)).trans (h.2 j j0 j1)⟩
section LPR
variable {t : Nat} {σ : St} {Q : Res → St → Prop} {P : Pg}
theorem LP_z (h : LPr σ P) {f : Int} (f0 : 0 ≤ f) (f1 : f ≤ 3) : gI σ 58 f = P 58 f := h.2 f f0 (by omega)
theorem LP_kd (h : LPr σ P) (hz : okZ P) {n : Int} (n0 : 0 ≤ n) (n1 : n < tot P) : gI σ 54 (plc P n) = kd P n := by
  have := plc_rng hz n0 n1; exact h.1 54 _ (by decide) (by decide) this.1 this.2
theorem LP_vv (h : LPr σ P) (hz : okZ P) {n : Int} (n0 : 0 ≤ n) (n1 : n < tot P) : gI σ 55 (plc P n) = vv P n := by
  have := plc_rng hz n0 n1; exact h.1 55 _ (by decide) (by decide) this.1 this.2
theorem LP_ww (h : LPr σ P) (hz : okZ P) {n : Int} (n0 : 0 ≤ n) (n1 : n < tot P) : gI σ 56 (plc P n) = ww P n := by
  have := plc_rng hz n0 n1; exact h.1 56 _ (by decide) (by decide) this.1 this.2
theorem LP_nn (h : LPr σ P) (hz : okZ P) {n : Int} (n0 : 0 ≤ n) (n1 : n < tot P) : gI σ 57 (plc P n) = nn P n := by
  have := plc_rng hz n0 n1; exact h.1 57 _ (by decide) (by decide) this.1 this.2
end LPR

