def vM : Nat → Int → Prop := fun c j => (60 ≤ c ∧ c ≤ 69) ∨ (c = 53 ∧ (j = 16 ∨ (19 ≤ j ∧ j ≤ 29)))
section LF
variable {t : Nat} {σ : St} {Q : Res → St → Prop} {P : Pg} {xs : List Int} {lim : Int}
/-- within a pass from σ0: the statements that B tells are done -/
def PW (P : Pg) (xs : List Int) (lim : Int) (B : Int → Int → Prop) (σ0 σ1 : St) : Prop :=
  (∀ c u, Gc 62 σ0 c u → Gc 62 σ1 c u) ∧ ((∀ c u, Gc 62 σ1 c u → Lf P xs lim c u) ∧ (((gI σ1 53 20 = 1 ∧ ∃ c u, Gc 62 σ1 c u ∧ ¬ Gc 62 σ0 c u) ∨ (gI σ1 53 20 = 0 ∧ ((∀ c u, Gc 62 σ1 c u → Gc 62 σ0 c u) ∧ ∀ i n, itm P xs i n → B i n → ∀ c u, DD P xs lim (Gc 62 σ0) i n c u → Gc 62 σ0 c u))) ∧ fr fM σ0 σ1))
theorem PW_step {B : Int → Int → Prop} {σ0 σ1 σ2 : St} {i n : Int} (hi : itm P xs i n) (h : PW P xs lim B σ0 σ1) (g : FW 62 (fun A => DD P xs lim A i n) σ1 σ2) : PW P xs lim (fun i' n' => B i' n' ∨ (i' = i ∧ n' = n)) σ0 σ2 := by
  obtain ⟨h1, h2, h3, h4⟩ := h
  obtain ⟨g1, g2, g3, g4, g5⟩ := g
  refine ⟨fun c u k => g1 c u (h1 c u k), fun c u k => g3 (Lf P xs lim) (Lf P xs lim) h2 h2 (fun _ _ _ k => k) (fun c u k => LF_closed hi k) c u k, ?_, fr_trans h4 g5⟩
  rcases g4 with ⟨e, n2⟩ | ⟨e, n2⟩
  · refine Or.inl ⟨e, ?_⟩
    rcases n2 with n2 | ⟨c, u, n2, n3⟩
    · rcases h3 with ⟨_, c, u, k1, k2⟩ | ⟨z, _⟩
      · exact ⟨c, u, g1 c u k1, k2⟩
      · omega
    · exact ⟨c, u, n2, fun k => n3 (h1 c u k)⟩
  · rcases h3 with ⟨z, c, u, k1, k2⟩ | ⟨z, k1, k2⟩
    · exact Or.inl ⟨e.trans z, c, u, g1 c u k1, k2⟩
    · refine Or.inr ⟨e.trans z, fun c u k => k1 c u (n2 c u k), fun i' n' hi' hB c u k => ?_⟩
      rcases hB with hB | ⟨e1, e2⟩
      · exact k2 i' n' hi' hB c u k
      · rw [e1, e2] at k
        exact k1 c u (n2 c u (g2 c u (DD_mono h1 k)))
theorem PW_sub {B B' : Int → Int → Prop} {σ0 σ1 : St} (hB : ∀ i n, itm P xs i n → B' i n → B i n) (h : PW P xs lim B σ0 σ1) : PW P xs lim B' σ0 σ1 := by
  obtain ⟨h1, h2, h3, h4⟩ := h
  refine ⟨h1, h2, ?_, h4⟩
  rcases h3 with h3 | ⟨z, k1, k2⟩
  · exact Or.inl h3
  · exact Or.inr ⟨z, k1, fun i n hi hb => k2 i n hi (hB i n hi hb)⟩
end LF

