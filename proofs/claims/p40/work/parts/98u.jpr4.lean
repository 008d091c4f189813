/-! the law's program, walked: its loops -/
section JPL
variable {Γ : JG} {Q : JQ} {α : Nat → Nat} {σ : St} {P : Pg} {lim : Int} {qA qF iF n : Nat} {v f : Int} {fA : Nat → Option Nat}
theorem j_k02 {μ : MD} {pc t : Nat} {L : Lo} {st : List AV} {w : va_W} (h : Γ.2.1 0 ≠ Γ.2.1 2 → J Γ μ pc L st w t Q) : J Γ μ pc L st w t Q := by
  intro p e R s m args below meth c H locs cells slots ls Qs B E hc hs hl hP hD hS
  refine h (fun e0 => ?_) p e R s m args below meth c H locs cells slots ls Qs B E hc hs hl hP hD hS
  obtain ⟨k0, a0, c0, d0⟩ := ((B.kj.2 0 _ rfl).1 0 (fun _ => .null)).2
  obtain ⟨k2, a2, c2, d2⟩ := ((B.kj.2 2 _ rfl).1 0 (fun _ => .null)).2
  have a0 : s.vm.classes[Γ.2.1 0]? = some k0 := a0
  have a2 : s.vm.classes[Γ.2.1 2]? = some k2 := a2
  rw [e0, a2] at a0
  cases a0
  rw [d0] at d2
  cases d2
theorem hS_wd {u : va_W} {r : Nat} {S : List Int} (h0 : Γ.2.1 0 ≠ Γ.2.1 2) (h53 : gI σ 53 (-1) = 0) (h : hS Γ (wd Γ.2.1 α σ ++ u) r S) : hS Γ u r S := by
  obtain ⟨bs, ns, fs, h1, h2⟩ := h
  refine ⟨bs, ns, fs, ?_, h2⟩
  have l : (wd Γ.2.1 α σ).length = 53 := by rw [wd_len, h53]; rfl
  have key : ∀ (k : Nat) (q : Nat × va_E), (wd Γ.2.1 α σ ++ u)[k]? = some q → ((∃ fs, q.2 = .inr (10, fs)) ∨ ∃ n f, q.2 = .inl (Γ.2.1 2, (n, .inl f))) → u[k - 53]? = some q := by
    intro k q hk hq
    by_cases hl : k < 53
    · exfalso
      rw [List.getElem?_append_left (by omega), wd_get hl] at hk
      cases hk
      have h9 := List.all_eq_true.mp lc_al k (List.mem_range.mpr hl)
      simp only [Bool.or_eq_true, decide_eq_true_eq] at h9
      rcases h9 with h | h | h
      · rw [cE_101 h] at hq
        rcases hq with ⟨_, e⟩ | ⟨_, _, e⟩
        · cases e
        · exact h0 (congrArg Prod.fst (Sum.inl.inj e))
      · rw [cE_102 h] at hq
        rcases hq with ⟨_, e⟩ | ⟨_, _, e⟩
        · cases e
        · have := congrArg (fun x => x.2.2) (Sum.inl.inj e)
          cases this
      · rw [cE_obj h] at hq
        rcases hq with ⟨_, e⟩ | ⟨_, _, e⟩
        · have := congrArg Prod.fst (Sum.inr.inj e)
          have : lc k = 10 := this
          omega
        · cases e
    · rw [List.getElem?_append_right (by omega), l] at hk
      exact hk
  rcases h1 with ⟨i, j, x, y, g1, g2⟩ | h1
  · exact Or.inl ⟨_, _, x, y, key i _ g1 (Or.inl ⟨_, rfl⟩), key j _ g2 (Or.inr ⟨_, _, rfl⟩)⟩
  · exact Or.inr h1
end JPL
