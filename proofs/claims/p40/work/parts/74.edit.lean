/-! a body is replaced -/
theorem cn_no {g : Int → Bool} : ∀ {n : Nat}, (∀ m : Int, 0 ≤ m → m < n → g m = false) → cn g n = 0
  | 0, _ => rfl
  | n + 1, h => by rw [cn_succ, cn_no (fun m m0 m1 => h m m0 (by omega)), h n (by omega) (by omega)]; rfl
/-- how many statements of a kind a function has -/
def cf (P : Pg) (q g : Int) : Int := cn (fun k => P 54 (12 * g + k) == q) (P 58 g).toNat
theorem cf_part {P : Pg} (hz : okZ P) (q wo : Int) {g : Int} (g0 : 0 ≤ g) (g1 : g ≤ 3) : cn (fun m => mg P q wo (m + stt P g)) (P 58 g).toNat = if wo = g then 0 else cf P q g := by
  have hzg := okZ_at hz g0 g1
  by_cases e : wo = g
  · rw [if_pos e]
    refine cn_no (fun m m0 m1 => ?_)
    have := own_of hz g0 g1 m0 (show m < P 58 g by omega)
    show ((own P (m + stt P g) != wo) && _) = false
    rw [Int.add_comm m, this, e]; simp
  · rw [if_neg e]
    refine cn_congr (fun m m0 m1 => ?_)
    have h1 := own_of hz g0 g1 m0 (show m < P 58 g by omega)
    have h2 := plc_of hz g0 g1 m0 (show m < P 58 g by omega)
    show ((own P (m + stt P g) != wo) && (P 54 (plc P (m + stt P g)) == q)) = (P 54 (12 * g + m) == q)
    rw [Int.add_comm m, h1, h2, show (g != wo) = true by simp; exact fun k => e k.symm, Bool.true_and]
theorem mny_cf {P : Pg} (hz : okZ P) (q wo : Int) : mny P q wo = (if wo = 0 then 0 else cf P q 0) + (if wo = 1 then 0 else cf P q 1) + (if wo = 2 then 0 else cf P q 2) + (if wo = 3 then 0 else cf P q 3) := by
  have p0 := cf_part hz q wo (g := 0) (by omega) (by omega)
  have p1 := cf_part hz q wo (g := 1) (by omega) (by omega)
  have p2 := cf_part hz q wo (g := 2) (by omega) (by omega)
  have p3 := cf_part hz q wo (g := 3) (by omega) (by omega)
  have s0 : stt P 0 = 0 := if_pos rfl
  have s1 := stt_succ P (f := 0) (by omega) (by omega)
  have s2 := stt_succ P (f := 1) (by omega) (by omega)
  have s3 := stt_succ P (f := 2) (by omega) (by omega)
  have z0 := okZ_at hz (f := 0) (by omega) (by omega)
  have z1 := okZ_at hz (f := 1) (by omega) (by omega)
  have z2 := okZ_at hz (f := 2) (by omega) (by omega)
  have z3 := okZ_at hz (f := 3) (by omega) (by omega)
  rw [show (0 : Int) + 1 = 1 from rfl] at s1
  rw [show (1 : Int) + 1 = 2 from rfl] at s2
  rw [show (2 : Int) + 1 = 3 from rfl] at s3
  have et : (tot P).toNat = (P 58 0).toNat + (P 58 1).toNat + (P 58 2).toNat + (P 58 3).toNat := by unfold tot; omega
  show cn (mg P q wo) (tot P).toNat = _
  rw [et, cn_add, cn_add, cn_add, ← p0, ← p1, ← p2, ← p3]
  have a1 : (((P 58 0).toNat : Nat) : Int) = stt P 1 := by omega
  have a2 : (((P 58 0).toNat + (P 58 1).toNat : Nat) : Int) = stt P 2 := by omega
  have a3 : (((P 58 0).toNat + (P 58 1).toNat + (P 58 2).toNat : Nat) : Int) = stt P 3 := by omega
  rw [a1, a2, a3, s0]
  simp only [Int.add_zero]
theorem cq_cn (q : Int) : ∀ (L : List St4) (n : Nat), n ≤ L.length → cn (fun k => (L.getD k.toNat s0).1 == q) n = cq q (L.take n)
  | L, 0, _ => rfl
  | L, n + 1, h => by
    rw [cn_succ, cq_cn q L n (by omega), List.take_succ_eq_append_getElem (by omega), cq_app, Int.toNat_natCast]
    have e : L.getD n s0 = L[n] := by rw [List.getD_eq_getElem?_getD, List.getElem?_eq_getElem (by omega)]; rfl
    rw [e]
    by_cases z : (L[n]).1 = q
    · rw [if_pos z, if_pos (by rw [beq_iff_eq]; exact z)]
    · rw [if_neg z, if_neg (by rw [beq_iff_eq]; exact z)]
/-- the program with a body replaced -/
def SPr (P : Pg) (f : Int) (L : List St4) (P' : Pg) : Prop :=
  (P' 58 f = L.length ∧ ∀ g, 0 ≤ g → g ≤ 3 → g ≠ f → P' 58 g = P 58 g) ∧ ((∀ c j, 54 ≤ c → c ≤ 57 → 0 ≤ j → j < 48 → ¬ (12 * f ≤ j ∧ j < 12 * f + 12) → P' c j = P c j) ∧
  ∀ i : Nat, i < L.length → P' 54 (12 * f + i) = (L.getD i s0).1 ∧ (P' 55 (12 * f + i) = (L.getD i s0).2.1 ∧ (P' 56 (12 * f + i) = (L.getD i s0).2.2.1 ∧ P' 57 (12 * f + i) = (L.getD i s0).2.2.2)))
theorem SPr_z {P P' : Pg} {f : Int} {L : List St4} (hz : okZ P) (h : SPr P f L P') (hf : 0 ≤ f ∧ f ≤ 3) (hL : L.length ≤ 12) : okZ P' := by
  have key : ∀ g, 0 ≤ g → g ≤ 3 → 0 ≤ P' 58 g ∧ P' 58 g ≤ 12 := fun g g0 g1 => by
    by_cases e : g = f
    · rw [e, h.1.1]; omega
    · rw [h.1.2 g g0 g1 e]; exact okZ_at hz g0 g1
  exact ⟨key 0 (by omega) (by omega), key 1 (by omega) (by omega), key 2 (by omega) (by omega), key 3 (by omega) (by omega)⟩
theorem SPr_cf {P P' : Pg} {f : Int} {L : List St4} (hz : okZ P) (h : SPr P f L P') (hf : 0 ≤ f ∧ f ≤ 3) (hL : L.length ≤ 12) (q : Int) {g : Int} (g0 : 0 ≤ g) (g1 : g ≤ 3) : cf P' q g = if g = f then cq q L else cf P q g := by
  by_cases e : g = f
  · rw [if_pos e, e]
    unfold cf
    rw [h.1.1, Int.toNat_natCast]
    have := cq_cn q L L.length (Nat.le_refl _)
    rw [List.take_length] at this
    rw [← this]
    refine cn_congr (fun m m0 m1 => ?_)
    have := (h.2.2 m.toNat (by omega)).1
    rw [show ((m.toNat : Nat) : Int) = m by omega] at this
    rw [this]
  · rw [if_neg e]
    have hzg := okZ_at hz g0 g1
    unfold cf
    rw [h.1.2 g g0 g1 e]
    refine cn_congr (fun m m0 m1 => ?_)
    rw [h.2.1 54 _ (by decide) (by decide) (by omega) (by omega) (by omega)]
theorem SPr_mny {P P' : Pg} {f : Int} {L : List St4} (hz : okZ P) (h : SPr P f L P') (hf : 0 ≤ f ∧ f ≤ 3) (hL : L.length ≤ 12) (q : Int) : mny P' q (-1) = cq q L + mny P q f := by
  have c0 := SPr_cf hz h hf hL q (g := 0) (by omega) (by omega)
  have c1 := SPr_cf hz h hf hL q (g := 1) (by omega) (by omega)
  have c2 := SPr_cf hz h hf hL q (g := 2) (by omega) (by omega)
  have c3 := SPr_cf hz h hf hL q (g := 3) (by omega) (by omega)
  rw [mny_cf (SPr_z hz h hf hL), mny_cf hz, c0, c1, c2, c3, if_neg (show ¬ (-1 : Int) = 0 by decide), if_neg (show ¬ (-1 : Int) = 1 by decide), if_neg (show ¬ (-1 : Int) = 2 by decide), if_neg (show ¬ (-1 : Int) = 3 by decide)]
  have hc : f = 0 ∨ f = 1 ∨ f = 2 ∨ f = 3 := by omega
  rcases hc with e | e | e | e <;> subst e <;> simp only [Int.reduceEq, if_true, if_false] <;> omega
theorem SPr_ok {P P' : Pg} {f : Int} {L : List St4} (hP : okP P) (h : SPr P f L P') (hf : 0 ≤ f ∧ f ≤ 3) (hL : L.length ≤ 12) (h4 : ∀ s ∈ L, ok4 s) (h8 : cq 4 L + mny P 4 f ≤ 8) (h5 : cq 6 L + mny P 6 f ≤ 5) : okP P' := by
  have hz' := SPr_z hP.1 h hf hL
  refine ⟨hz', fun n n0 n1 => ?_, by rw [SPr_mny hP.1 h hf hL]; exact h8, by rw [SPr_mny hP.1 h hf hL]; exact h5⟩
  have hs := own_spec hz' n0 n1
  have hpl := plc_of hz' hs.1.1 hs.1.2 (k := n - stt P' (own P' n)) (by omega) (by omega)
  rw [show stt P' (own P' n) + (n - stt P' (own P' n)) = n by omega] at hpl
  unfold kd vv ww nn
  rw [hpl]
  have hk0 : 0 ≤ n - stt P' (own P' n) := by omega
  have hk1 : n - stt P' (own P' n) < P' 58 (own P' n) := by omega
  generalize n - stt P' (own P' n) = k at hk0 hk1
  generalize own P' n = g at hs hk1
  by_cases e : g = f
  · rw [e, h.1.1] at hk1
    have hd := h.2.2 k.toNat (by omega)
    rw [show ((k.toNat : Nat) : Int) = k by omega] at hd
    rw [e, hd.1, hd.2.1, hd.2.2.1, hd.2.2.2]
    have hm : L.getD k.toNat s0 ∈ L := by
      rw [List.getD_eq_getElem?_getD, List.getElem?_eq_getElem (by omega)]
      exact List.getElem_mem _
    exact h4 _ hm
  · have hzg := okZ_at hP.1 hs.1.1 hs.1.2
    rw [h.1.2 g hs.1.1 hs.1.2 e] at hk1
    have hn := hP.2.1 (stt P g + k) (by have := stt_rng hP.1 hs.1.1 hs.1.2; omega) (by have := stt_rng hP.1 hs.1.1 hs.1.2; omega)
    unfold kd vv ww nn at hn
    rw [plc_of hP.1 hs.1.1 hs.1.2 hk0 hk1] at hn
    rw [h.2.1 54 _ (by decide) (by decide) (by omega) (by omega) (by omega), h.2.1 55 _ (by decide) (by decide) (by omega) (by omega) (by omega), h.2.1 56 _ (by decide) (by decide) (by omega) (by omega) (by omega), h.2.1 57 _ (by decide) (by decide) (by omega) (by omega) (by omega)]
    exact hn
section LED
variable {t : Nat} {σ : St} {Q : Res → St → Prop} {P : Pg} {xs : List Int} {lim : Int}
/-- a body of the law's copied -/
def cpS (σ0 : St) (a b k : Int) (σ : St) : Prop := (∀ c, 54 ≤ c → c ≤ 57 → ∀ j, gI σ c j = if 12 * b ≤ j ∧ j < 12 * b + k then gI σ0 c (12 * a + (j - 12 * b)) else gI σ0 c j) ∧ ((∀ c, ¬ (54 ≤ c ∧ c ≤ 57) → gI σ c = gI σ0 c) ∧ (gL σ = gL σ0 ∧ gD σ = gD σ0))
end LED

