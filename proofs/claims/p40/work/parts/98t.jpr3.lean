/-! the law's program, walked: a body's text -/
section JPU
variable {Γ : JG} {t : Nat} {Q : JQ} {w : va_W} {a0 qA rs : Nat} {v z nw cl f k : Int}
/-- one statement more of the text -/
theorem pg_T {κ : Int} {qF q iA iF iR n : Nat} {fA fF : Nat → Option Nat} {g : Nat → Int32} {Ls : List St4} {s : St4} (hf : 0 ≤ f ∧ f < 4) (hk : k = Ls.length) (hkn : Ls.length < n) (hn : n ≤ 9) (ho : ∀ s ∈ Ls, okr s) (os : okr s)
    (hA : w[iA]? = some (qA, .inl (Γ.2.1 4, 4, rA fA))) (hfA : fA f.toNat = some qF) (hF : w[iF]? = some (qF, .inl (Γ.2.1 3, n, rA fF))) (hfF : fF k.toNat = some q) (hR : w[iR]? = some (q, .inl (Γ.2.1 0, 4, .inl g)))
    (g0 : g 0 = Int32.ofInt s.1) (g1 : g 1 = Int32.ofInt s.2.1) (g2 : g 2 = Int32.ofInt s.2.2.1) (g3 : g 3 = Int32.ofInt s.2.2.2) (hs : hS Γ w rs (bx Ls)) (ht : 1784 ≤ t)
    (kk : ∀ w' rs', hS Γ w' rs' (bx (Ls ++ [s])) → (∃ u, w' = w ++ u) → J Γ m_lwG 96 [some (vR a0), some (vI v), some (vR qA), some (vI z), some (vI nw), some (vI cl), some (vI f), some (vR rs'), some (vI (k + 1)), some (vI κ)] [] w' (t - 1784) Q) :
    J Γ m_lwG 275 [some (vR a0), some (vI v), some (vR qA), some (vI z), some (vI nw), some (vI cl), some (vI f), some (vR rs), some (vI k), some (vI κ)] [] w t Q := by
  have lS : (bx (Ls ++ [s])).length ≤ 71 := by
    have := bx_len (Ls ++ [s])
    rw [List.length_append, List.length_singleton] at this
    omega
  have eS := bx_snoc s Ls
  have cS : ∀ c ∈ bx (Ls ++ [s]), 33 ≤ c ∧ c ≤ 126 := bx_chr _ (fun x hx => by
    rcases List.mem_append.mp hx with h | h
    · exact ho x h
    · rw [List.mem_singleton.mp h]; exact os)
  have l2 : (bx Ls).length + ((if Ls = [] then [] else [59]) ++ sx s).length ≤ 71 := by
    rw [eS, List.length_append] at lS; exact lS
  rw [List.length_append] at l2
  refine j_new9 d_lwG_275 jw_701 jw_702 jw_80 (by omega) (fun r => ?_)
  refine j_dup d_lwG_278 rfl ?_
  refine j_I m_sbI r [] 17 d_lwG_279 cw_lwG_sbI rfl rfl jw_704 jw_703 rfl (Nat.le_of_ble_eq_true rfl) (Nat.le_of_ble_eq_true rfl) (by omega) ?_
  have hlen : (w ++ [((r, .inr (9, dSB)) : Nat × va_E)]).length = w.length + 1 := by rw [List.length_append]; rfl
  refine e_sbI (K := w.length) app_get (Nat.le_refl _) (Nat.le_refl _) (fun w1 b1 n1 f1 => ?_)
  have p1 : ∀ k, k < w.length → w1[k]? = w[k]? := fun k hk => (f1 k (by omega) (by omega)).trans (app_lt hk)
  have m1 : w.length ≤ w1.length := by omega
  refine j_aload (a := rs) d_lwG_282 rfl ?_
  refine j_V m_sbS r [vR rs] 161 d_lwG_284 cw_lwG_sbS jw_732 jw_733 jw_731 rfl b1.rv (Nat.le_of_ble_eq_true rfl) (Nat.le_of_ble_eq_true rfl) (by omega) ?_
  refine e_sbS b1 (hS_up hs p1) (by show ([] : List Int).length + _ ≤ 80; rw [List.length_nil]; omega) (Nat.le_refl _) (fun w2 b2 n2 f2 => ?_)
  rw [List.nil_append] at b2
  have p2 : ∀ k, k < w.length → w2[k]? = w[k]? := fun k hk => (f2 k hk (by omega)).trans (p1 k hk)
  have m2 : w.length ≤ w2.length := by omega
  -- the mark between
  have mid : ∀ (i : Nat), i < 12 → kS i = (if Ls = [] then [] else [59]) → J Γ m_lwG 299 [some (vR a0), some (vI v), some (vR qA), some (vI z), some (vI nw), some (vI cl), some (vI f), some (vR rs), some (vI k), some (vI κ)] [vR (Γ.2.2.2.1.1 i), vR r] w2 (t - 1 - 17 - 161) Q := fun i hi ei => by
    refine j_V m_sbS r [vR (Γ.2.2.2.1.1 i)] 161 d_lwG_299 cw_lwG_sbS jw_732 jw_733 jw_731 rfl b2.rv (Nat.le_of_ble_eq_true rfl) (Nat.le_of_ble_eq_true rfl) (by omega) ?_
    refine e_sbS b2 (hS_k hi) (by rw [ei]; omega) (Nat.le_refl _) (fun w3 b3 n3 f3 => ?_)
    rw [ei] at b3
    have p3 : ∀ k, k < w.length → w3[k]? = w[k]? := fun k hk => (f3 k hk (by omega)).trans (p2 k hk)
    have m3 : w.length ≤ w3.length := by omega
    refine j_aload_n (a := qA) d_lwG_302 rfl ?_
    refine j_iload (a := f) d_lwG_303 rfl ?_
    refine j_aald (y := 4) (i := iA) (n := 4) d_lwG_305 ((p3 _ (get_lt hA)).trans hA) rfl ⟨hf.1, by omega⟩ (by decide) hfA ?_
    refine j_iload (a := k) d_lwG_306 rfl ?_
    refine j_aald (y := 3) (i := iF) (n := n) d_lwG_308 ((p3 _ (get_lt hF)).trans hF) rfl ⟨by omega, by omega⟩ (by omega) hfF ?_
    refine j_S m_lwT [vR q] 1200 d_lwG_309 cw_lwG_lwT jw_834 jw_833 rfl (Nat.le_of_ble_eq_true rfl) (Nat.le_of_ble_eq_true rfl) (by omega) ?_
    refine e_lwT os ((p3 _ (get_lt hR)).trans hR) g0 g1 g2 g3 (Nat.le_refl _) (fun w4 r4 s4 n4 f4 => ?_)
    have p4 : ∀ k, k < w.length → w4[k]? = w[k]? := fun k hk => (f4 k (by omega)).trans (p3 k hk)
    have b4 : hB Γ w.length w4 w.length r (bx Ls ++ (if Ls = [] then [] else [59])) := by
      obtain ⟨hK, j, b, nn, ff, x, h1, h2, h3, h4⟩ := b3
      exact ⟨hK, j, b, nn, ff, x, h1, (f4 _ (get_lt h2)).trans h2, (f4 _ (get_lt h3)).trans h3, h4⟩
    refine j_V m_sbS r [vR r4] 161 d_lwG_312 cw_lwG_sbS jw_732 jw_733 jw_731 rfl b4.rv (Nat.le_of_ble_eq_true rfl) (Nat.le_of_ble_eq_true rfl) (by omega) ?_
    refine e_sbS b4 s4 (by rw [List.length_append]; omega) (Nat.le_refl _) (fun w5 b5 n5 f5 => ?_)
    have p5 : ∀ k, k < w.length → w5[k]? = w[k]? := fun k hk => (f5 k hk (by omega)).trans (p4 k hk)
    rw [List.append_assoc, ← eS] at b5
    refine j_V m_sbT r [] 83 d_lwG_315 cw_lwG_sbT jw_852 jw_853 jw_851 rfl b5.rv (Nat.le_of_ble_eq_true rfl) (Nat.le_of_ble_eq_true rfl) (by omega) ?_
    refine e_sbT b5 (by omega) (fun c hc => by have := cS c hc; omega) (Nat.le_refl _) (fun w6 r6 s6 n6 f6 => ?_)
    have p6 : ∀ k, k < w.length → w6[k]? = w[k]? := fun k hk => (f6 k (by omega)).trans (p5 k hk)
    refine j_astore d_lwG_318 (by decide) ?_
    refine j_iinc (a := k) d_lwG_320 rfl (by decide) ?_
    refine j_goto (tgt := 96) d_lwG_323 (by decide) ?_
    have := kk w6 r6 s6 (pre_ex (by omega) p6)
    rw [show t - 1784 = t - 1 - 17 - 161 - 161 - 1200 - 161 - 83 by omega] at this
    exact this
  refine j_iload (a := k) d_lwG_287 rfl ?_
  by_cases h0 : Ls = []
  · refine j_if_ne_f (tgt := 297) d_lwG_289 (by decide) ⟨by omega, by omega⟩ (by rw [h0] at hk; rw [hk]; decide) ?_
    refine j_ldcS (i := 10) d_lwG_292 (by decide) rfl ?_
    refine j_goto (tgt := 299) d_lwG_294 (by decide) ?_
    exact mid 10 (by decide) (by rw [if_pos h0]; rfl)
  · have h9 : Ls.length ≠ 0 := fun e => h0 (List.length_eq_zero_iff.mp e)
    refine j_if_ne_t (tgt := 297) d_lwG_289 (by decide) ⟨by omega, by omega⟩ (by show k ≠ 0; omega) ?_
    refine j_ldcS (i := 11) d_lwG_297 (by decide) rfl ?_
    exact mid 11 (by decide) (by rw [if_neg h0]; rfl)
end JPU
