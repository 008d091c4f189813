theorem cq_snoc (q : Int) (L : List St4) (s : St4) : cq q (L ++ [s]) = cq q L + (if s.1 = q then 1 else 0) := by
  unfold cq
  rw [List.filter_append, List.length_append]
  by_cases h : s.1 = q
  · rw [if_pos h, List.filter_cons_of_pos (by rw [h]; exact beq_self_eq_true q)]
    simp
  · rw [if_neg h, List.filter_cons_of_neg (by rw [beq_iff_eq]; exact h)]
    simp
theorem inR_9 {n : Nat} (h : n ≤ 9) : inR ((n : Nat) : Int) := ⟨by omega, by omega⟩
section JPM
variable {Γ : JG} {Q : JQ} {α : Nat → Nat} {σ : St} {qA qF iF n : Nat} {v f N4 N6 : Int} {fA : Nat → Option Nat}
theorem pg_kl (hlt : Γ.1.stackTraces = false) (h53 : gI σ 53 (-1) = 0) (h02 : Γ.2.1 0 ≠ Γ.2.1 2) (hf : 0 ≤ f ∧ f < 4) (hfA : fA f.toNat = some qF) (hi : 0 < iF) (hn : n ≤ 9) (m4 : 0 ≤ N4) (m6 : 0 ≤ N6) (B : Nat)
    (kk : ∀ (Ls : List St4) (z nw cl : Int) (rs t : Nat) (u : va_W) (a9 : Option AV) (fF : Nat → Option Nat), Ls.length = n → (∀ s ∈ Ls, okr s) → inR z → nw = cq 4 Ls + N4 → nw ≤ 8 → cl = cq 6 Ls + N6 → cl ≤ 5 → hS Γ u rs (bx Ls) → u[0]? = some (qA, .inl (Γ.2.1 4, 4, rA fA)) → u[iF]? = some (qF, .inl (Γ.2.1 3, n, rA fF)) → B ≤ t →
      J Γ m_lwG 326 [some (vR (α 0)), some (vI v), some (vR qA), some (vI z), some (vI nw), some (vI cl), some (vI f), some (vR rs), some (vI Ls.length), a9] [] (wd Γ.2.1 α σ ++ u) t Q) :
    ∀ (d : Nat) (Ls : List St4) (z nw cl : Int) (rs t : Nat) (u : va_W) (a9 : Option AV) (fF : Nat → Option Nat), Ls.length + d = n → (∀ s ∈ Ls, okr s) → inR z → nw = cq 4 Ls + N4 → nw ≤ 8 → cl = cq 6 Ls + N6 → cl ≤ 5 → hS Γ u rs (bx Ls) → u[0]? = some (qA, .inl (Γ.2.1 4, 4, rA fA)) → u[iF]? = some (qF, .inl (Γ.2.1 3, n, rA fF)) → B + 1800 * d ≤ t →
      J Γ m_lwG 96 [some (vR (α 0)), some (vI v), some (vR qA), some (vI z), some (vI nw), some (vI cl), some (vI f), some (vR rs), some (vI Ls.length), a9] [] (wd Γ.2.1 α σ ++ u) t Q
  | 0, Ls, z, nw, cl, rs, t, u, a9, fF, hd, ho, hz, e4, h4, e6, h6, hs, hA, hF, ht => by
    refine j_iload (a := (Ls.length : Int)) d_lwG_96 rfl ?_
    refine j_aload_n (a := qA) d_lwG_98 rfl ?_
    refine j_iload (a := f) d_lwG_99 rfl ?_
    refine j_aald (y := 4) (i := 53 + 0) (n := 4) d_lwG_101 ((wu_at h53).trans hA) rfl ⟨hf.1, by omega⟩ (by decide) hfA ?_
    refine j_alen (y := 3) (i := 53 + iF) d_lwG_102 ((wu_at h53).trans hF) rfl ?_
    refine j_icmp_ge_t (tgt := 326) d_lwG_103 (by decide) ⟨by omega, by omega⟩ (inR_9 hn) (by show (n : Int) ≤ _; omega) ?_
    exact kk Ls z nw cl rs t u a9 fF hd ho hz e4 h4 e6 h6 hs hA hF (by rw [Nat.mul_zero] at ht; exact ht)
  | d + 1, Ls, z, nw, cl, rs, t, u, a9, fF, hd, ho, hz, e4, h4, e6, h6, hs, hA, hF, ht => by
    have ht2 : B + 1800 * d + 1800 ≤ t := by rw [Nat.mul_succ, ← Nat.add_assoc] at ht; exact ht
    clear ht
    have c4 := (cq_rng 4 Ls).1
    have c6 := (cq_rng 6 Ls).1
    refine j_iload (a := (Ls.length : Int)) d_lwG_96 rfl ?_
    refine j_aload_n (a := qA) d_lwG_98 rfl ?_
    refine j_iload (a := f) d_lwG_99 rfl ?_
    refine j_aald (y := 4) (i := 53 + 0) (n := 4) d_lwG_101 ((wu_at h53).trans hA) rfl ⟨hf.1, by omega⟩ (by decide) hfA ?_
    refine j_alen (y := 3) (i := 53 + iF) d_lwG_102 ((wu_at h53).trans hF) rfl ?_
    refine j_icmp_ge_f (tgt := 326) d_lwG_103 (by decide) ⟨by omega, by omega⟩ (inR_9 hn) (by show ¬ ((n : Int) ≤ _); omega) ?_
    refine pg_A hlt ⟨by omega, h4⟩ ⟨by omega, h6⟩ h53 (fun z2 κ hz2 hκ k4 k6 => ?_)
    refine pg_R (n := n) hlt h53 hz2 hκ hf ⟨by omega, by omega⟩ (by omega) hA hfA hF (by omega) (fun s q g os es g0 g1 g2 g3 => ?_)
    have lF := get_lt hF
    have hF2 : (u ++ [((q, .inl (Γ.2.1 0, (4, .inl g))) : Nat × va_E)])[iF]? = some (qF, .inl (Γ.2.1 3, n, rA fF)) := (app_lt lF).trans hF
    have q0 : ((u ++ [((q, .inl (Γ.2.1 0, (4, .inl g))) : Nat × va_E)]).set iF (qF, .inl (Γ.2.1 3, n, rA (updR fF (Ls.length : Int).toNat (some q)))))[0]? = some (qA, .inl (Γ.2.1 4, 4, rA fA)) := by
      rw [List.getElem?_set_ne (by omega)]; exact (app_lt (get_lt hA)).trans hA
    have q1 : ((u ++ [((q, .inl (Γ.2.1 0, (4, .inl g))) : Nat × va_E)]).set iF (qF, .inl (Γ.2.1 3, n, rA (updR fF (Ls.length : Int).toNat (some q)))))[iF]? = some (qF, .inl (Γ.2.1 3, n, rA (updR fF (Ls.length : Int).toNat (some q)))) := List.getElem?_set_self (get_lt hF2)
    have q2 : ((u ++ [((q, .inl (Γ.2.1 0, (4, .inl g))) : Nat × va_E)]).set iF (qF, .inl (Γ.2.1 3, n, rA (updR fF (Ls.length : Int).toNat (some q)))))[u.length]? = some (q, .inl (Γ.2.1 0, 4, .inl g)) := by
      rw [List.getElem?_set_ne (by omega)]; exact app_get
    have q3 := hS_setR (y := (qF, .inl (Γ.2.1 3, n, rA (updR fF (Ls.length : Int).toNat (some q))))) (hS_app (u := [((q, .inl (Γ.2.1 0, (4, .inl g))) : Nat × va_E)]) hs) hF2
    generalize (u ++ [((q, .inl (Γ.2.1 0, (4, .inl g))) : Nat × va_E)]).set iF (qF, .inl (Γ.2.1 3, n, rA (updR fF (Ls.length : Int).toNat (some q)))) = u2 at q0 q1 q2 q3 ⊢
    refine pg_T (iA := 53 + 0) (iF := 53 + iF) (iR := 53 + u.length) (n := n) hf rfl (by omega) hn ho os ((wu_at h53).trans q0) hfA ((wu_at h53).trans q1) (by unfold updR; rw [if_pos rfl]) ((wu_at h53).trans q2) g0 g1 g2 g3 (hS_pre q3) (by omega) (fun w' rs' s' hw => ?_)
    obtain ⟨u1, rfl⟩ := hw
    rw [List.append_assoc] at s' ⊢
    have s2 := hS_wd h02 h53 s'
    have el : ((Ls.length : Int) + 1) = (((Ls ++ [s]).length : Nat) : Int) := by rw [List.length_append, List.length_singleton]; omega
    rw [el]
    refine pg_kl hlt h53 h02 hf hfA hi hn m4 m6 B kk d (Ls ++ [s]) z2 _ _ rs' _ (u2 ++ u1) _ _ (by rw [List.length_append, List.length_singleton]; omega) (fun x hx => ?_) hz2 (by rw [cq_snoc, es]; omega) (by split <;> omega) (by rw [cq_snoc, es]; omega) (by split <;> omega) s2 ((app_lt (get_lt q0)).trans q0) ((app_lt (get_lt q1)).trans q1) ?_
    · rcases List.mem_append.mp hx with h | h
      · exact ho x h
      · rw [List.mem_singleton.mp h]; exact os
    · generalize 1800 * d = D at ht2 ⊢
      omega
end JPM
