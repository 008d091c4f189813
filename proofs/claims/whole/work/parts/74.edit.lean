/-! a body is replaced -/
theorem cn_no {g : Int → Bool} : ∀ {n : Nat}, (∀ m : Int, 0 ≤ m → m < n → g m = false) → cn g n = 0
  | 0, _ => rfl
  | n + 1, h => by rw [cn_succ, cn_no (fun m m0 m1 => h m m0 (by omega)), h n (by omega) (by omega)]; rfl
/-- how many statements of a kind a function has -/
def cf (P : Pg) (q g : Int) : Int := cn (fun k => P 54 (12 * g + k) == q) (P 58 g).toNat
theorem cf_part {P : Pg} (hz : okZ P) (q wo : Int) {g : Int} (g0 : 0 ≤ g) (g1 : g ≤ 3) : cn (fun m => mg P q wo (m + stt P g)) (P 58 g).toNat = if wo = g then 0 else cf P q g := by
  have hzg := okZ_at hz g0 g1
  by_cases e : wo = g
  · rw [if_pos e]
    refine cn_no (fun m m0 m1 => ?_)
    have := own_of hz g0 g1 m0 (show m < P 58 g by omega)
    show ((own P (m + stt P g) != wo) && _) = false
    rw [Int.add_comm m, this, e]; simp
  · rw [if_neg e]
    refine cn_congr (fun m m0 m1 => ?_)
    have h1 := own_of hz g0 g1 m0 (show m < P 58 g by omega)
    have h2 := plc_of hz g0 g1 m0 (show m < P 58 g by omega)
    show ((own P (m + stt P g) != wo) && (P 54 (plc P (m + stt P g)) == q)) = (P 54 (12 * g + m) == q)
    rw [Int.add_comm m, h1, h2, show (g != wo) = true by simp; exact fun k => e k.symm, Bool.true_and]
theorem mny_cf {P : Pg} (hz : okZ P) (q wo : Int) : mny P q wo = (if wo = 0 then 0 else cf P q 0) + (if wo = 1 then 0 else cf P q 1) + (if wo = 2 then 0 else cf P q 2) + (if wo = 3 then 0 else cf P q 3) := by
  have p0 := cf_part hz q wo (g := 0) (by omega) (by omega)
  have p1 := cf_part hz q wo (g := 1) (by omega) (by omega)
  have p2 := cf_part hz q wo (g := 2) (by omega) (by omega)
  have p3 := cf_part hz q wo (g := 3) (by omega) (by omega)
  have s0 : stt P 0 = 0 := if_pos rfl
  have s1 := stt_succ P (f := 0) (by omega) (by omega)
  have s2 := stt_succ P (f := 1) (by omega) (by omega)
  have s3 := stt_succ P (f := 2) (by omega) (by omega)
  have z0 := okZ_at hz (f := 0) (by omega) (by omega)
  have z1 := okZ_at hz (f := 1) (by omega) (by omega)
  have z2 := okZ_at hz (f := 2) (by omega) (by omega)
  have z3 := okZ_at hz (f := 3) (by omega) (by omega)
  rw [show (0 : Int) + 1 = 1 from rfl] at s1
  rw [show (1 : Int) + 1 = 2 from rfl] at s2
  rw [show (2 : Int) + 1 = 3 from rfl] at s3
  have et : (tot P).toNat = (P 58 0).toNat + (P 58 1).toNat + (P 58 2).toNat + (P 58 3).toNat := by unfold tot; omega
  show cn (mg P q wo) (tot P).toNat = _
  rw [et, cn_add, cn_add, cn_add, ← p0, ← p1, ← p2, ← p3]
  have a1 : (((P 58 0).toNat : Nat) : Int) = stt P 1 := by omega
  have a2 : (((P 58 0).toNat + (P 58 1).toNat : Nat) : Int) = stt P 2 := by omega
  have a3 : (((P 58 0).toNat + (P 58 1).toNat + (P 58 2).toNat : Nat) : Int) = stt P 3 := by omega
  rw [a1, a2, a3, s0]
  simp only [Int.add_zero]
theorem cq_cn (q : Int) : ∀ (L : List St4) (n : Nat), n ≤ L.length → cn (fun k => (L.getD k.toNat s0).1 == q) n = cq q (L.take n)
  | L, 0, _ => rfl
  | L, n + 1, h => by
    rw [cn_succ, cq_cn q L n (by omega), List.take_succ_eq_append_getElem (by omega), cq_app, Int.toNat_natCast]
    have e : L.getD n s0 = L[n] := by rw [List.getD_eq_getElem?_getD, List.getElem?_eq_getElem (by omega)]; rfl
    rw [e]
    by_cases z : (L[n]).1 = q
    · rw [if_pos z, if_pos (by rw [beq_iff_eq]; exact z)]
    · rw [if_neg z, if_neg (by rw [beq_iff_eq]; exact z)]
/-- the program with a body replaced -/
def SPr (P : Pg) (f : Int) (L : List St4) (P' : Pg) : Prop :=
  (P' 58 f = L.length ∧ ∀ g, 0 ≤ g → g ≤ 3 → g ≠ f → P' 58 g = P 58 g) ∧ ((∀ c j, 54 ≤ c → c ≤ 57 → 0 ≤ j → j < 48 → ¬ (12 * f ≤ j ∧ j < 12 * f + 12) → P' c j = P c j) ∧
  ∀ i : Nat, i < L.length → P' 54 (12 * f + i) = (L.getD i s0).1 ∧ (P' 55 (12 * f + i) = (L.getD i s0).2.1 ∧ (P' 56 (12 * f + i) = (L.getD i s0).2.2.1 ∧ P' 57 (12 * f + i) = (L.getD i s0).2.2.2)))
theorem SPr_z {P P' : Pg} {f : Int} {L : List St4} (hz : okZ P) (h : SPr P f L P') (hf : 0 ≤ f ∧ f ≤ 3) (hL : L.length ≤ 12) : okZ P' := by
  have key : ∀ g, 0 ≤ g → g ≤ 3 → 0 ≤ P' 58 g ∧ P' 58 g ≤ 12 := fun g g0 g1 => by
    by_cases e : g = f
    · rw [e, h.1.1]; omega
    · rw [h.1.2 g g0 g1 e]; exact okZ_at hz g0 g1
  exact ⟨key 0 (by omega) (by omega), key 1 (by omega) (by omega), key 2 (by omega) (by omega), key 3 (by omega) (by omega)⟩
theorem SPr_cf {P P' : Pg} {f : Int} {L : List St4} (hz : okZ P) (h : SPr P f L P') (hf : 0 ≤ f ∧ f ≤ 3) (hL : L.length ≤ 12) (q : Int) {g : Int} (g0 : 0 ≤ g) (g1 : g ≤ 3) : cf P' q g = if g = f then cq q L else cf P q g := by
  by_cases e : g = f
  · rw [if_pos e, e]
    unfold cf
    rw [h.1.1, Int.toNat_natCast]
    have := cq_cn q L L.length (Nat.le_refl _)
    rw [List.take_length] at this
    rw [← this]
    refine cn_congr (fun m m0 m1 => ?_)
    have := (h.2.2 m.toNat (by omega)).1
    rw [show ((m.toNat : Nat) : Int) = m by omega] at this
    rw [this]
  · rw [if_neg e]
    have hzg := okZ_at hz g0 g1
    unfold cf
    rw [h.1.2 g g0 g1 e]
    refine cn_congr (fun m m0 m1 => ?_)
    rw [h.2.1 54 _ (by decide) (by decide) (by omega) (by omega) (by omega)]
theorem SPr_mny {P P' : Pg} {f : Int} {L : List St4} (hz : okZ P) (h : SPr P f L P') (hf : 0 ≤ f ∧ f ≤ 3) (hL : L.length ≤ 12) (q : Int) : mny P' q (-1) = cq q L + mny P q f := by
  have c0 := SPr_cf hz h hf hL q (g := 0) (by omega) (by omega)
  have c1 := SPr_cf hz h hf hL q (g := 1) (by omega) (by omega)
  have c2 := SPr_cf hz h hf hL q (g := 2) (by omega) (by omega)
  have c3 := SPr_cf hz h hf hL q (g := 3) (by omega) (by omega)
  rw [mny_cf (SPr_z hz h hf hL), mny_cf hz, c0, c1, c2, c3, if_neg (show ¬ (-1 : Int) = 0 by decide), if_neg (show ¬ (-1 : Int) = 1 by decide), if_neg (show ¬ (-1 : Int) = 2 by decide), if_neg (show ¬ (-1 : Int) = 3 by decide)]
  have hc : f = 0 ∨ f = 1 ∨ f = 2 ∨ f = 3 := by omega
  rcases hc with e | e | e | e <;> subst e <;> simp only [Int.reduceEq, if_true, if_false] <;> omega
theorem SPr_ok {P P' : Pg} {f : Int} {L : List St4} (hP : okP P) (h : SPr P f L P') (hf : 0 ≤ f ∧ f ≤ 3) (hL : L.length ≤ 12) (h4 : ∀ s ∈ L, ok4 s) (h8 : cq 4 L + mny P 4 f ≤ 8) (h5 : cq 6 L + mny P 6 f ≤ 5) : okP P' := by
  have hz' := SPr_z hP.1 h hf hL
  refine ⟨hz', fun n n0 n1 => ?_, by rw [SPr_mny hP.1 h hf hL]; exact h8, by rw [SPr_mny hP.1 h hf hL]; exact h5⟩
  have hs := own_spec hz' n0 n1
  have hpl := plc_of hz' hs.1.1 hs.1.2 (k := n - stt P' (own P' n)) (by omega) (by omega)
  rw [show stt P' (own P' n) + (n - stt P' (own P' n)) = n by omega] at hpl
  unfold kd vv ww nn
  rw [hpl]
  have hk0 : 0 ≤ n - stt P' (own P' n) := by omega
  have hk1 : n - stt P' (own P' n) < P' 58 (own P' n) := by omega
  generalize n - stt P' (own P' n) = k at hk0 hk1
  generalize own P' n = g at hs hk1
  by_cases e : g = f
  · rw [e, h.1.1] at hk1
    have hd := h.2.2 k.toNat (by omega)
    rw [show ((k.toNat : Nat) : Int) = k by omega] at hd
    rw [e, hd.1, hd.2.1, hd.2.2.1, hd.2.2.2]
    have hm : L.getD k.toNat s0 ∈ L := by
      rw [List.getD_eq_getElem?_getD, List.getElem?_eq_getElem (by omega)]
      exact List.getElem_mem _
    exact h4 _ hm
  · have hzg := okZ_at hP.1 hs.1.1 hs.1.2
    rw [h.1.2 g hs.1.1 hs.1.2 e] at hk1
    have hn := hP.2.1 (stt P g + k) (by have := stt_rng hP.1 hs.1.1 hs.1.2; omega) (by have := stt_rng hP.1 hs.1.1 hs.1.2; omega)
    unfold kd vv ww nn at hn
    rw [plc_of hP.1 hs.1.1 hs.1.2 hk0 hk1] at hn
    rw [h.2.1 54 _ (by decide) (by decide) (by omega) (by omega) (by omega), h.2.1 55 _ (by decide) (by decide) (by omega) (by omega) (by omega), h.2.1 56 _ (by decide) (by decide) (by omega) (by omega) (by omega), h.2.1 57 _ (by decide) (by decide) (by omega) (by omega) (by omega)]
    exact hn
section LED
variable {t : Nat} {σ : St} {Q : Res → St → Prop} {P : Pg} {xs : List Int} {lim : Int}
/-- appendCharacter -/
theorem c186 (h : 0 ≤ gI σ 53 8 ∧ gI σ 53 8 ≤ 80) {c : Int} (hc : inR c) (h1 : ¬ (33 ≤ c ∧ c ≤ 126) → Q (.inl (some (vI 0))) (sI σ 53 0 1)) (h2 : (33 ≤ c ∧ c ≤ 126) → gI σ 53 8 = 80 → Q (.inl (some (vI 0))) (sI σ 53 0 2))
    (h3 : (33 ≤ c ∧ c ≤ 126) → gI σ 53 8 < 80 → Q (.inl (some (vI (gI σ 53 8 + 1)))) (sI (sI (sI σ 53 0 0) 59 (gI σ 53 8) c) 53 8 (gI σ 53 8 + 1))) : Call t 186 [vR 53, vI c] σ Q := by
  have e8 : gI (sI σ 53 0 0) 53 8 = gI σ 53 8 := by simp only [gI_sI, gI_sI, gL_sI, gD_sI, gI_sL, gL_sL, gD_sL, gI_sD, gL_sD, gD_sD, Nat.reduceEqDiff, Int.reduceEq, reduceCtorEq, false_and, and_false, and_self, if_true, if_false, not_false_eq_true, not_true_eq_false]
  have e8' : gI (sI (sI σ 53 0 0) 59 (gI σ 53 8) c) 53 8 = gI σ 53 8 := by simp only [gI_sI, gI_sI, gL_sI, gD_sI, gI_sL, gL_sL, gD_sL, gI_sD, gL_sD, gD_sD, Nat.reduceEqDiff, Int.reduceEq, reduceCtorEq, false_and, and_false, and_self, if_true, if_false, not_false_eq_true, not_true_eq_false]
  simp only [x186_0, e177 hc (show inR 33 from ⟨by decide, by decide⟩) (show inR 126 from ⟨by decide, by decide⟩), x186_8, eq_true (b2i_in _), b2i_0, aft_l, aft_r, optL_s, optL_n, xgo_n, xgo_s, List.cons_append, List.nil_append, List.append_nil, true_and, and_true, Nat.sub_zero, Nat.zero_le, true_implies, false_implies, implies_true, not_true_eq_false, not_false_eq_true, true_or, or_true]
  by_cases q : 33 ≤ c ∧ c ≤ 126
  · rw [dcl_t q]
    refine ⟨fun a => (by cases a), fun _ => ?_⟩
    rw [x186_17]
    refine ⟨⟨by omega, by omega⟩, fun a => ?_, fun a => ?_⟩
    · simp only [x186_26, e175, x186_31, aft_l, aft_r, optL_s, optL_n, xgo_n, xgo_s, List.cons_append, List.nil_append, List.append_nil, true_and, and_true, Nat.sub_zero, Nat.zero_le, true_implies, false_implies, implies_true, not_true_eq_false, not_false_eq_true, true_or, or_true]
      exact h2 q a
    · rw [x186_32, e8, e8', gI_sI, if_pos ⟨rfl, rfl⟩]
      exact ⟨by omega, h3 q (by omega)⟩
  · rw [dcl_f q]
    refine ⟨fun _ => ?_, fun a => absurd rfl a⟩
    simp only [x186_11, e175, x186_16, aft_l, aft_r, optL_s, optL_n, xgo_n, xgo_s, List.cons_append, List.nil_append, List.append_nil, true_and, and_true, Nat.sub_zero, Nat.zero_le, true_implies, false_implies, implies_true, not_true_eq_false, not_false_eq_true, true_or, or_true]
    exact h1 q
/-- a body of the law's copied -/
def cpS (σ0 : St) (a b k : Int) (σ : St) : Prop := (∀ c, 54 ≤ c → c ≤ 57 → ∀ j, gI σ c j = if 12 * b ≤ j ∧ j < 12 * b + k then gI σ0 c (12 * a + (j - 12 * b)) else gI σ0 c j) ∧ ((∀ c, ¬ (54 ≤ c ∧ c ≤ 57) → gI σ c = gI σ0 c) ∧ (gL σ = gL σ0 ∧ gD σ = gD σ0))
theorem cpl {σ0 : St} {a b : Int} (ha : 0 ≤ a ∧ a ≤ 4) (hb : 0 ≤ b ∧ b ≤ 4) (hab : a ≠ b) (hq : ∀ σ', cpS σ0 a b 12 σ' → Q (.inl none) σ') :
    ∀ (d : Nat) (i : Int) (σ1 : St), 0 ≤ i → i + d = 12 → cpS σ0 a b i σ1 → wp t 196 14 [some (vR 53), some (vI a), some (vI b), some (vI i)] [] σ1 Q
  | 0, i, σ1, i0, hd, h => by
    have e : i = 12 := by omega
    subst e
    rw [x196_14]
    refine ⟨⟨by omega, by omega⟩, fun a => by omega, fun _ => ?_⟩
    rw [x196_114]; exact hq σ1 h
  | d + 1, i, σ1, i0, hd, h => by
    rw [x196_14]
    refine ⟨⟨by omega, by omega⟩, fun _ => ?_, fun a => by omega⟩
    rw [x196_20]
    refine ⟨by omega, by omega, by omega, by omega, by omega, by omega, by omega, by omega, cpl ha hb hab hq d (i + 1) _ (by omega) (by omega) ⟨fun c c0 c1 j => ?_, fun c hc => ?_, h.2.2.1, h.2.2.2⟩⟩
    · have src : gI σ1 c (12 * a + i) = gI σ0 c (12 * a + i) := by rw [h.1 c c0 c1, if_neg (by omega)]
      have hc : c = 54 ∨ c = 55 ∨ c = 56 ∨ c = 57 := by omega
      have old := h.1 c c0 c1 j
      have fin : gI (sI (sI (sI (sI σ1 54 (12 * b + i) (gI σ0 54 (12 * a + i))) 55 (12 * b + i) (gI σ0 55 (12 * a + i))) 56 (12 * b + i) (gI σ0 56 (12 * a + i))) 57 (12 * b + i) (gI σ0 57 (12 * a + i))) c j = if j = 12 * b + i then gI σ0 c (12 * a + i) else gI σ1 c j := by
        rcases hc with e | e | e | e <;> subst e <;> simp only [gI_sI, gI_sI, gL_sI, gD_sI, gI_sL, gL_sL, gD_sL, gI_sD, gL_sD, gD_sD, Nat.reduceEqDiff, Int.reduceEq, reduceCtorEq, false_and, and_false, and_self, if_true, if_false, not_false_eq_true, not_true_eq_false, true_and]
      have e54 : gI σ1 54 (12 * a + i) = gI σ0 54 (12 * a + i) := by rw [h.1 54 (by decide) (by decide), if_neg (by omega)]
      have e55 : ∀ v, gI (sI σ1 54 (12 * b + i) v) 55 (12 * a + i) = gI σ0 55 (12 * a + i) := fun v => by rw [gI_rne (by decide), h.1 55 (by decide) (by decide), if_neg (by omega)]
      have e56 : ∀ v w, gI (sI (sI σ1 54 (12 * b + i) v) 55 (12 * b + i) w) 56 (12 * a + i) = gI σ0 56 (12 * a + i) := fun v w => by rw [gI_rne (by decide), gI_rne (by decide), h.1 56 (by decide) (by decide), if_neg (by omega)]
      have e57 : ∀ v w x, gI (sI (sI (sI σ1 54 (12 * b + i) v) 55 (12 * b + i) w) 56 (12 * b + i) x) 57 (12 * a + i) = gI σ0 57 (12 * a + i) := fun v w x => by rw [gI_rne (by decide), gI_rne (by decide), gI_rne (by decide), h.1 57 (by decide) (by decide), if_neg (by omega)]
      rw [e54, e55, e56, e57, fin, old]
      by_cases q : j = 12 * b + i
      · rw [if_pos q, if_pos (by omega), show 12 * a + (j - 12 * b) = 12 * a + i by omega]
      · rw [if_neg q]
        by_cases q2 : 12 * b ≤ j ∧ j < 12 * b + i
        · rw [if_pos q2, if_pos (by omega)]
        · rw [if_neg q2, if_neg (by omega)]
    · rw [gI_rne (by omega), gI_rne (by omega), gI_rne (by omega), gI_rne (by omega)]; exact h.2.1 c hc
/-- copies -/
theorem c196 {a b : Int} (ha : 0 ≤ a ∧ a ≤ 4) (hb : 0 ≤ b ∧ b ≤ 4) (hab : a ≠ b) (hq : ∀ σ', cpS (sI σ 58 b (gI σ 58 a)) a b 12 σ' → Q (.inl none) σ') : Call t 196 [vR 53, vI a, vI b] σ Q := by
  rw [x196_0]
  exact ⟨by omega, by omega, cpl ha hb hab hq 12 0 _ (by omega) (by omega) ⟨fun c _ _ j => by rw [if_neg (by omega)], fun c _ => rfl, rfl, rfl⟩⟩
def eM : Nat → Int → Prop := fun c j => rL c j ∨ (c = 53 ∧ (j = 0 ∨ j = 8 ∨ j = 10))
def eM2 : Nat → Int → Prop := fun c j => eM c j ∨ (54 ≤ c ∧ c ≤ 58) ∨ c = 75 ∨ (c = 53 ∧ (j = 19 ∨ j = 38 ∨ j = 39))
/-- setBody -/
theorem c197 (hP : okP P) (hLP : LPr σ P) (hx : tx2 σ) {f : Int} (hfr : inR f) {r : Int} {L : List St4} (hr : lT σ f = (r, L)) (hrr : -1 ≤ r ∧ r ≤ 80) (hLl : L.length ≤ 1000) (h4 : ∀ s ∈ L, ok4 s)
    (h1 : ¬ (0 ≤ f ∧ f < 4) → Q (.inl (some (vI 0))) (sI σ 53 0 1))
    (h2 : (0 ≤ f ∧ f < 4) → r ≠ -1 → ∀ σ', gI σ' 53 8 = 0 → gI σ' 53 10 = r → gI σ' 53 0 = 2 → fr eM σ σ' → Q (.inl (some (vI 0))) σ')
    (h3 : (0 ≤ f ∧ f < 4) → r = -1 → (12 < L.length ∨ 8 < cq 4 L + mny P 4 f ∨ 5 < cq 6 L + mny P 6 f) → ∀ σ', gI σ' 53 8 = 0 → gI σ' 53 10 = -1 → gI σ' 53 0 = 3 → fr eM σ σ' → Q (.inl (some (vI 0))) σ')
    (h5 : (0 ≤ f ∧ f < 4) → r = -1 → L.length ≤ 12 → cq 4 L + mny P 4 f ≤ 8 → cq 6 L + mny P 6 f ≤ 5 → ∀ σ' P', SPr P f L P' → okP P' → LPr σ' P' → gI σ' 53 8 = 0 → gI σ' 53 10 = -1 → gI σ' 53 0 = 0 → gI σ' 53 19 = 0 → (∀ a, 0 ≤ a → a < 44 → gL σ' 75 a = BitVec.ofNat 64 0) → gI σ' 53 39 = 0 → gI σ' 53 38 = 0 → fr eM2 σ σ' → Q (.inl (some (vI L.length))) σ') : Call t 197 [vR 53, vI f] σ Q := by
  simp only [x197_0, e179 hfr, x197_4, eq_true (b2i_in _), b2i_0, aft_l, aft_r, optL_s, optL_n, xgo_n, xgo_s, List.cons_append, List.nil_append, List.append_nil, true_and, and_true, Nat.sub_zero, Nat.zero_le, true_implies, false_implies, implies_true, not_true_eq_false, not_false_eq_true, true_or, or_true]
  by_cases q : 0 ≤ f ∧ f < 4
  · rw [dcl_t q]
    refine ⟨fun a => (by cases a), fun _ => ?_⟩
    rw [x197_13]
    refine c195 hx (show 0 ≤ f ∧ f ≤ 3 by omega) (fun σ1 g1 g2 => ?_)
    rw [hr] at g1 ⊢
    have fb : ∀ v, fr eM σ (sI (sI σ1 53 8 0) 53 10 v) := fun v => fr_sI (fr_sI (fr_mono g2 (fun c j k => Or.inl k)) (by unfold eM; omega)) (by unfold eM; omega)
    refine ⟨fun e => ?_, fun e e9 => ?_⟩
    · have e : r = -1 := e
      have hc4 := cq_rng 4 L
      have hc6 := cq_rng 6 L
      have hm4 := mny_rng hP.1 4 f
      have hm6 := mny_rng hP.1 6 f
      have hL1 : LPr (sI (sI σ1 53 8 0) 53 10 (-1)) P := LP_fr hLP (fb _) (fun c j k => by unfold eM rL at k; omega)
      have k58 : gI (sI (sI σ1 53 8 0) 53 10 (-1)) 58 4 = L.length := by rw [gI_rne (by decide), gI_rne (by decide)]; exact g1.1
      have k12 : gI (sI (sI σ1 53 8 0) 53 10 (-1)) 53 12 = cq 4 L := by simp only [gI_sI, gI_sI, gL_sI, gD_sI, gI_sL, gL_sL, gD_sL, gI_sD, gL_sD, gD_sD, Nat.reduceEqDiff, Int.reduceEq, reduceCtorEq, false_and, and_false, and_self, if_true, if_false, not_false_eq_true, not_true_eq_false]; exact g1.2.1
      have k13 : gI (sI (sI σ1 53 8 0) 53 10 (-1)) 53 13 = cq 6 L := by simp only [gI_sI, gI_sI, gL_sI, gD_sI, gI_sL, gL_sL, gD_sL, gI_sD, gL_sD, gD_sD, Nat.reduceEqDiff, Int.reduceEq, reduceCtorEq, false_and, and_false, and_self, if_true, if_false, not_false_eq_true, not_true_eq_false]; exact g1.2.2.1
      have bad : ∀ a1 a2, (12 < L.length ∨ 8 < cq 4 L + mny P 4 f ∨ 5 < cq 6 L + mny P 6 f) → wp t 197 93 [some (vR 53), a1, a2] [] (sI (sI σ1 53 8 0) 53 10 (-1)) Q := fun a1 a2 hb => by
        simp only [x197_93, e175, x197_98, aft_l, aft_r, optL_s, optL_n, xgo_n, xgo_s, List.cons_append, List.nil_append, List.append_nil, true_and, and_true, Nat.sub_zero, Nat.zero_le, true_implies, false_implies, implies_true, not_true_eq_false, not_false_eq_true, true_or, or_true]
        exact h3 q e hb _ (by simp only [gI_sI, gI_sI, gL_sI, gD_sI, gI_sL, gL_sL, gD_sL, gI_sD, gL_sD, gD_sD, Nat.reduceEqDiff, Int.reduceEq, reduceCtorEq, false_and, and_false, and_self, if_true, if_false, not_false_eq_true, not_true_eq_false]) (by simp only [gI_sI, gI_sI, gL_sI, gD_sI, gI_sL, gL_sL, gD_sL, gI_sD, gL_sD, gD_sD, Nat.reduceEqDiff, Int.reduceEq, reduceCtorEq, false_and, and_false, and_self, if_true, if_false, not_false_eq_true, not_true_eq_false]) (by rw [gI_sI, if_pos ⟨rfl, rfl⟩]) (fr_sI (fb _) (by unfold eM; omega))
      simp only [x197_18, (show inR (1 : Int) = True from eq_true ⟨by decide, by decide⟩), Int.reduceEq, x197_29, x197_37, aft_l, aft_r, optL_s, optL_n, xgo_n, xgo_s, List.cons_append, List.nil_append, List.append_nil, true_and, and_true, Nat.sub_zero, Nat.zero_le, true_implies, false_implies, implies_true, not_true_eq_false, not_false_eq_true, true_or, or_true]
      rw [x197_50, k58]
      refine ⟨⟨by omega, by omega⟩, fun b => bad _ _ (Or.inl (by omega)), fun b => ?_⟩
      simp only [x197_61, k12, e184 hL1 hP (show inR 4 from ⟨by decide, by decide⟩) hfr, x197_71, aft_l, aft_r, optL_s, optL_n, xgo_n, xgo_s, List.cons_append, List.nil_append, List.append_nil, true_and, and_true, Nat.sub_zero, Nat.zero_le, true_implies, false_implies, implies_true, not_true_eq_false, not_false_eq_true, true_or, or_true]
      refine ⟨⟨by omega, by omega⟩, fun c => bad _ _ (Or.inr (Or.inl c)), fun c => ?_⟩
      simp only [x197_77, k13, e184 hL1 hP (show inR 6 from ⟨by decide, by decide⟩) hfr, x197_88, aft_l, aft_r, optL_s, optL_n, xgo_n, xgo_s, List.cons_append, List.nil_append, List.append_nil, true_and, and_true, Nat.sub_zero, Nat.zero_le, true_implies, false_implies, implies_true, not_true_eq_false, not_false_eq_true, true_or, or_true]
      refine ⟨⟨by omega, by omega⟩, fun d => bad _ _ (Or.inr (Or.inr d)), fun d => ?_⟩
      rw [x197_99]
      refine c196 (a := 4) (b := f) (by omega) (by omega) (by omega) (fun σ2 k1 => ?_)
      simp only [x197_110, aft_l, aft_r, optL_s, optL_n, xgo_n, xgo_s, List.cons_append, List.nil_append, List.append_nil, true_and, and_true, Nat.sub_zero, Nat.zero_le, true_implies, false_implies, implies_true, not_true_eq_false, not_false_eq_true, true_or, or_true]
      refine c259 (fun σ3 m1 m2 m3 m4 => ?_)
      simp only [x197_119, aft_l, aft_r, optL_s, optL_n, xgo_n, xgo_s, List.cons_append, List.nil_append, List.append_nil, true_and, and_true, Nat.sub_zero, Nat.zero_le, true_implies, false_implies, implies_true, not_true_eq_false, not_false_eq_true, true_or, or_true]
      obtain ⟨s1, s2, s3, s4⟩ := k1
      have k580 : gI (sI (sI (sI σ1 53 8 0) 53 10 (-1)) 53 0 0) 58 4 = L.length := by rw [gI_rne (by decide)]; exact k58
      rw [k580] at s1 s2 s3 s4
      have f3 : ∀ c j, 54 ≤ c → c ≤ 58 → gI σ3 c j = gI σ2 c j := fun c j c0 c1 => by rw [fr_I m4 c j (by omega), gI_rne (by omega)]
      have t58 : ∀ j, gI σ3 58 j = if j = f then (L.length : Int) else gI σ1 58 j := fun j => by
        rw [f3 58 j (by decide) (by decide), s2 58 (by decide), gI_sI]
        by_cases z : j = f
        · rw [if_pos ⟨rfl, z⟩, if_pos z]
        · rw [if_neg (fun k => z k.2), if_neg z]; rfl
      have tc : ∀ c, 54 ≤ c → c ≤ 57 → ∀ j, gI σ3 c j = if 12 * f ≤ j ∧ j < 12 * f + 12 then gI σ1 c (48 + (j - 12 * f)) else gI σ1 c j := fun c c0 c1 j => by
        have w : ∀ j, gI (sI (sI (sI (sI σ1 53 8 0) 53 10 (-1)) 53 0 0) 58 f L.length) c j = gI σ1 c j := fun j => by rw [gI_rne (by omega), gI_rne (by omega), gI_rne (by omega), gI_rne (by omega)]
        rw [f3 c j c0 (by omega), s1 c c0 c1, w, w]
        rfl
      have hS : SPr P f L (fun c j => gI σ3 c j) := by
        refine ⟨⟨by show gI σ3 58 f = _; rw [t58, if_pos rfl], fun g g0 g1' ge => ?_⟩, fun c j c0 c1 j0 j1 hj => ?_, fun i hi => ?_⟩
        · show gI σ3 58 g = P 58 g
          rw [t58, if_neg ge, fr_I g2 58 g (by unfold rL; omega)]
          exact hLP.2 g g0 (by omega)
        · show gI σ3 c j = P c j
          rw [tc c c0 c1, if_neg hj, fr_I g2 c j (by unfold rL; omega)]
          exact hLP.1 c j c0 c1 j0 j1
        · have g4 := g1.2.2.2 i hi (by omega)
          have ix : ∀ c, 54 ≤ c → c ≤ 57 → gI σ3 c (12 * f + i) = gI σ1 c (48 + i) := fun c c0 c1 => by
            rw [tc c c0 c1, if_pos (by omega), show 48 + (12 * f + (i : Int) - 12 * f) = 48 + i by omega]
          show gI σ3 54 (12 * f + i) = _ ∧ (gI σ3 55 (12 * f + i) = _ ∧ (gI σ3 56 (12 * f + i) = _ ∧ gI σ3 57 (12 * f + i) = _))
          rw [ix 54 (by decide) (by decide), ix 55 (by decide) (by decide), ix 56 (by decide) (by decide), ix 57 (by decide) (by decide)]
          exact g4
      have fcp : fr (fun c _ => 54 ≤ c ∧ c ≤ 57) (sI (sI (sI (sI σ1 53 8 0) 53 10 (-1)) 53 0 0) 58 f L.length) σ2 := fun c j hM => ⟨by rw [s2 c hM], by rw [s3], by rw [s4]⟩
      have fin : fr eM2 σ σ3 := fr_trans (fr_sI (fr_sI (fr_mono (fb (-1)) (fun c j k => Or.inl k)) (by unfold eM2 eM; omega)) (by unfold eM2; omega)) (fr_trans (fr_mono fcp (fun c j k => by unfold eM2; omega)) (fr_trans (fr_sI fr_refl (by unfold eM2; omega)) (fr_mono m4 (fun c j k => by unfold eM2; omega))))
      have t53 : ∀ j, j ≠ 38 → j ≠ 39 → gI σ3 53 j = gI (sI (sI (sI (sI (sI σ1 53 8 0) 53 10 (-1)) 53 0 0) 58 f L.length) 53 19 0) 53 j := fun j j0 j1 => by
        rw [fr_I m4 53 j (by omega), gI_sI, gI_sI, s2 53 (by decide)]
      rw [t58, if_pos rfl]
      exact ⟨by omega, h5 q e (by omega) (by omega) (by omega) σ3 _ hS (SPr_ok hP hS (by omega) (by omega) h4 (by omega) (by omega)) ⟨fun c j _ _ _ _ => rfl, fun j _ _ => rfl⟩ (by rw [t53 8 (by omega) (by omega)]; simp only [gI_sI, gI_sI, gL_sI, gD_sI, gI_sL, gL_sL, gD_sL, gI_sD, gL_sD, gD_sD, Nat.reduceEqDiff, Int.reduceEq, reduceCtorEq, false_and, and_false, and_self, if_true, if_false, not_false_eq_true, not_true_eq_false]) (by rw [t53 10 (by omega) (by omega)]; simp only [gI_sI, gI_sI, gL_sI, gD_sI, gI_sL, gL_sL, gD_sL, gI_sD, gL_sD, gD_sD, Nat.reduceEqDiff, Int.reduceEq, reduceCtorEq, false_and, and_false, and_self, if_true, if_false, not_false_eq_true, not_true_eq_false]) (by rw [t53 0 (by omega) (by omega)]; simp only [gI_sI, gI_sI, gL_sI, gD_sI, gI_sL, gL_sL, gD_sL, gI_sD, gL_sD, gD_sD, Nat.reduceEqDiff, Int.reduceEq, reduceCtorEq, false_and, and_false, and_self, if_true, if_false, not_false_eq_true, not_true_eq_false]) (by rw [t53 19 (by omega) (by omega)]; simp only [gI_sI, gI_sI, gL_sI, gD_sI, gI_sL, gL_sL, gD_sL, gI_sD, gL_sD, gD_sD, Nat.reduceEqDiff, Int.reduceEq, reduceCtorEq, false_and, and_false, and_self, if_true, if_false, not_false_eq_true, not_true_eq_false]) m1 m2 m3 fin⟩
    · have e : r ≠ -1 := e
      have e9 : gI σ1 53 9 = r := e9
      have e9' : gI (sI σ1 53 8 0) 53 9 = r := by simp only [gI_sI, gI_sI, gL_sI, gD_sI, gI_sL, gL_sL, gD_sL, gI_sD, gL_sD, gD_sD, Nat.reduceEqDiff, Int.reduceEq, reduceCtorEq, false_and, and_false, and_self, if_true, if_false, not_false_eq_true, not_true_eq_false]; exact e9
      simp only [x197_18, (show inR (0 : Int) = True from eq_true ⟨by decide, by decide⟩), Int.reduceEq, x197_33, x197_37, e9', x197_44, e175, x197_49, aft_l, aft_r, optL_s, optL_n, xgo_n, xgo_s, List.cons_append, List.nil_append, List.append_nil, true_and, and_true, Nat.sub_zero, Nat.zero_le, true_implies, false_implies, implies_true, not_true_eq_false, not_false_eq_true, true_or, or_true]
      exact h2 q e _ (by simp only [gI_sI, gI_sI, gL_sI, gD_sI, gI_sL, gL_sL, gD_sL, gI_sD, gL_sD, gD_sD, Nat.reduceEqDiff, Int.reduceEq, reduceCtorEq, false_and, and_false, and_self, if_true, if_false, not_false_eq_true, not_true_eq_false]) (by simp only [gI_sI, gI_sI, gL_sI, gD_sI, gI_sL, gL_sL, gD_sL, gI_sD, gL_sD, gD_sD, Nat.reduceEqDiff, Int.reduceEq, reduceCtorEq, false_and, and_false, and_self, if_true, if_false, not_false_eq_true, not_true_eq_false]) (by rw [gI_sI, if_pos ⟨rfl, rfl⟩]) (fr_sI (fb _) (by unfold eM; omega))
  · rw [dcl_f q]
    refine ⟨fun _ => ?_, fun a => absurd rfl a⟩
    simp only [x197_7, e175, x197_12, aft_l, aft_r, optL_s, optL_n, xgo_n, xgo_s, List.cons_append, List.nil_append, List.append_nil, true_and, and_true, Nat.sub_zero, Nat.zero_le, true_implies, false_implies, implies_true, not_true_eq_false, not_false_eq_true, true_or, or_true]
    exact h1 q
end LED
