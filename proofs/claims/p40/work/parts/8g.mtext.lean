/-! the law's texts: its statements (kind, places of two names, number), their characters, what the reader makes of them -/
def nm (i : Int) : Int := if i < 4 then 97 + i else if i = 4 then 112 else if i = 5 then 114 else if i = 6 then 120 else 121
def sv (f0 i : Int) : Int := if i < 4 then i else f0 + (i - 4)
def okr (s : St4) : Prop := (0 ≤ s.1 ∧ s.1 ≤ 6) ∧ ((0 ≤ s.2.1 ∧ s.2.1 ≤ 7) ∧ ((0 ≤ s.2.2.1 ∧ s.2.2.1 ≤ 7) ∧ ((s.1 = 5 → 0 ≤ s.2.2.2 ∧ s.2.2.2 ≤ 2) ∧ ((s.1 = 6 → 0 ≤ s.2.2.2 ∧ s.2.2.2 ≤ 3) ∧ (s.1 ≠ 5 → s.1 ≠ 6 → s.2.2.2 = 0)))))
def sx (s : St4) : List Int :=
  if s.1 = 0 then [nm s.2.1, 61, 38, nm s.2.2.1] else if s.1 = 1 then [nm s.2.1, 61, nm s.2.2.1] else if s.1 = 2 then [nm s.2.1, 61, 42, nm s.2.2.1]
  else if s.1 = 3 then [42, nm s.2.1, 61, nm s.2.2.1] else if s.1 = 4 then [nm s.2.1, 61, 110, 101, 119]
  else if s.1 = 5 then [nm s.2.1, 61, nm s.2.2.1, 43, 48 + s.2.2.2] else [nm s.2.1, 61, 102, 48 + s.2.2.2, 40, nm s.2.2.1, 41]
def stm (f0 : Int) (s : St4) : St4 := (s.1, sv f0 s.2.1, if s.1 = 4 then 0 else sv f0 s.2.2.1, s.2.2.2)
def bx : List St4 → List Int
  | [] => []
  | [s] => sx s
  | s :: r :: ss => sx s ++ 59 :: bx (r :: ss)
theorem nm_cs {i : Int} (i0 : 0 ≤ i) (i1 : i ≤ 7) : nm i = 97 ∨ nm i = 98 ∨ nm i = 99 ∨ nm i = 100 ∨ nm i = 112 ∨ nm i = 114 ∨ nm i = 120 ∨ nm i = 121 := by
  unfold nm
  split
  · omega
  · split
    · omega
    · split
      · omega
      · split <;> omega
theorem nm_vn {i f0 : Int} (i0 : 0 ≤ i) (i1 : i ≤ 7) : vn (nm i) f0 = sv f0 i := by
  unfold nm sv
  by_cases a : i < 4
  · rw [if_pos a, if_pos a]; unfold vn; rw [if_pos (by omega)]; omega
  · rw [if_neg a, if_neg a]
    rcases (show i = 4 ∨ i = 5 ∨ i = 6 ∨ i = 7 by omega) with e | e | e | e <;> subst e
    · have h : vn 112 f0 = f0 := rfl
      show vn 112 f0 = _
      rw [h]; omega
    · have h : vn 114 f0 = f0 + 1 := rfl
      show vn 114 f0 = _
      rw [h]; omega
    · have h : vn 120 f0 = f0 + 2 := rfl
      show vn 120 f0 = _
      rw [h]; omega
    · have h : vn 121 f0 = f0 + 3 := rfl
      show vn 121 f0 = _
      rw [h]; omega
theorem sv_rng {f0 i : Int} (hf : 4 ≤ f0 ∧ f0 ≤ 16) (i0 : 0 ≤ i) (i1 : i ≤ 7) : 0 ≤ sv f0 i ∧ sv f0 i ≤ 19 := by
  unfold sv; split <;> omega
theorem sv_loc {f i : Int} (f0 : 0 ≤ f) (i0 : 0 ≤ i) (i1 : i ≤ 7) : loc f (sv (4 + 4 * f) i) := by
  unfold loc sv; split <;> omega
def rdsN (N : Int → Int) (p : Int) : List Int → Prop
  | [] => True
  | c :: B => N p = c ∧ rdsN N (p + 1) B
theorem rdsN_app {N : Int → Int} : ∀ (A B : List Int) (p : Int), rdsN N p (A ++ B) ↔ rdsN N p A ∧ rdsN N (p + A.length) B
  | [], B, p => by
    show rdsN N p B ↔ True ∧ rdsN N (p + ((0 : Nat) : Int)) B
    rw [show p + ((0 : Nat) : Int) = p by omega]
    exact ⟨fun h => ⟨trivial, h⟩, fun h => h.2⟩
  | c :: A, B, p => by
    show (N p = c ∧ rdsN N (p + 1) (A ++ B)) ↔ (N p = c ∧ rdsN N (p + 1) A) ∧ rdsN N (p + (((A.length + 1 : Nat)) : Int)) B
    rw [rdsN_app A B (p + 1), show p + (((A.length + 1 : Nat)) : Int) = p + 1 + (A.length : Int) by omega]
    exact ⟨fun ⟨a, b, c⟩ => ⟨⟨a, b⟩, c⟩, fun ⟨⟨a, b⟩, c⟩ => ⟨a, b, c⟩⟩
theorem rdsN_of {N : Int → Int} : ∀ (B : List Int) (p : Int), (∀ i : Nat, i < B.length → N (p + i) = B.getD i 0) → rdsN N p B
  | [], p, _ => trivial
  | c :: B, p, h => by
    refine ⟨?_, rdsN_of B (p + 1) (fun i hi => ?_)⟩
    · have := h 0 (Nat.zero_lt_succ _)
      rw [show p + ((0 : Nat) : Int) = p by omega] at this
      exact this
    · have := h (i + 1) (Nat.succ_lt_succ hi)
      rw [show p + (((i + 1 : Nat)) : Int) = p + 1 + (i : Int) by omega] at this
      exact this
/-- one statement -/
theorem pS_sx {N : Int → Int} {f0 p : Int} {s : St4} (hf : 4 ≤ f0 ∧ f0 ≤ 16) (h : okr s) (hr : rdsN N p (sx s)) (h1 : s.1 = 1 → N (p + 1 + 1 + 1) ≠ 43) : pS N f0 p = (p + (sx s).length, some (stm f0 s)) := by
  obtain ⟨k, i, j, n⟩ := s
  obtain ⟨⟨k0, k1⟩, ⟨i0, i1⟩, ⟨j0, j1⟩, n5, n6, nz⟩ := h
  dsimp only at k0 k1 i0 i1 j0 j1 n5 n6 nz h1
  have ci := nm_cs i0 i1
  have cj := nm_cs j0 j1
  have vi := nm_vn (f0 := f0) i0 i1
  have vj := nm_vn (f0 := f0) j0 j1
  have ri := sv_rng hf i0 i1
  have rj := sv_rng hf j0 j1
  rcases (show k = 0 ∨ k = 1 ∨ k = 2 ∨ k = 3 ∨ k = 4 ∨ k = 5 ∨ k = 6 by omega) with e | e | e | e | e | e | e <;> subst e
  · obtain ⟨a0, a1, a2, a3, -⟩ := (show rdsN N p [nm i, 61, 38, nm j] from hr)
    have z := nz (by omega) (by omega)
    subst z
    unfold pS
    rw [if_neg (by omega), a0, vi, if_neg (by omega), if_pos a1]
    unfold pRt
    rw [if_pos a2]
    unfold pOp
    rw [a3, vj, if_neg (by omega)]
    exact Prod.ext (show p + 1 + 1 + 1 + 1 = p + ((4 : Nat) : Int) by omega) rfl
  · obtain ⟨a0, a1, a2, -⟩ := (show rdsN N p [nm i, 61, nm j] from hr)
    have z := nz (by omega) (by omega)
    subst z
    have b := h1 rfl
    unfold pS
    rw [if_neg (by omega), a0, vi, if_neg (by omega), if_pos a1]
    unfold pRt
    rw [if_neg (by omega), if_neg (by omega), if_neg (by omega), if_neg (by omega)]
    unfold pCo
    rw [a2, vj, if_neg (by omega), if_neg b]
    exact Prod.ext (show p + 1 + 1 + 1 = p + ((3 : Nat) : Int) by omega) rfl
  · obtain ⟨a0, a1, a2, a3, -⟩ := (show rdsN N p [nm i, 61, 42, nm j] from hr)
    have z := nz (by omega) (by omega)
    subst z
    unfold pS
    rw [if_neg (by omega), a0, vi, if_neg (by omega), if_pos a1]
    unfold pRt
    rw [if_neg (by omega), if_pos a2]
    unfold pOp
    rw [a3, vj, if_neg (by omega)]
    exact Prod.ext (show p + 1 + 1 + 1 + 1 = p + ((4 : Nat) : Int) by omega) rfl
  · obtain ⟨a0, a1, a2, a3, -⟩ := (show rdsN N p [42, nm i, 61, nm j] from hr)
    have z := nz (by omega) (by omega)
    subst z
    unfold pS
    rw [if_pos a0, a1, vi, if_neg (by omega), if_pos a2]
    unfold pOp
    rw [a3, vj, if_neg (by omega)]
    exact Prod.ext (show p + 1 + 1 + 1 + 1 = p + ((4 : Nat) : Int) by omega) rfl
  · obtain ⟨a0, a1, a2, a3, a4, -⟩ := (show rdsN N p [nm i, 61, 110, 101, 119] from hr)
    have z := nz (by omega) (by omega)
    subst z
    unfold pS
    rw [if_neg (by omega), a0, vi, if_neg (by omega), if_pos a1]
    unfold pRt
    rw [if_neg (by omega), if_neg (by omega), if_pos a2, if_pos a3, if_pos a4]
    exact Prod.ext (show p + 1 + 1 + 1 + 1 + 1 = p + ((5 : Nat) : Int) by omega) rfl
  · obtain ⟨a0, a1, a2, a3, a4, -⟩ := (show rdsN N p [nm i, 61, nm j, 43, 48 + n] from hr)
    have z := n5 rfl
    unfold pS
    rw [if_neg (by omega), a0, vi, if_neg (by omega), if_pos a1]
    unfold pRt
    rw [if_neg (by omega), if_neg (by omega), if_neg (by omega), if_neg (by omega)]
    unfold pCo
    rw [a2, vj, if_neg (by omega), if_pos a3, if_pos (by omega), a4, show 48 + n - 48 = n by omega]
    exact Prod.ext (show p + 1 + 1 + 1 + 1 + 1 = p + ((5 : Nat) : Int) by omega) rfl
  · obtain ⟨a0, a1, a2, a3, a4, a5, a6, -⟩ := (show rdsN N p [nm i, 61, 102, 48 + n, 40, nm j, 41] from hr)
    have z := n6 rfl
    unfold pS
    rw [if_neg (by omega), a0, vi, if_neg (by omega), if_pos a1]
    unfold pRt
    rw [if_neg (by omega), if_neg (by omega), if_neg (by omega), if_pos a2]
    unfold pCl
    rw [if_pos (by omega), if_pos a4, a5, vj, if_neg (by omega), if_pos a6, a3, show 48 + n - 48 = n by omega]
    exact Prod.ext (show p + 1 + 1 + 1 + 1 + 1 + 1 + 1 = p + ((7 : Nat) : Int) by omega) rfl
theorem sx_3 {s : St4} (h : s.1 = 1) : (sx s).length = 3 := by
  unfold sx; rw [if_neg (by omega), if_pos h]; rfl
/-- all of them -/
theorem pT_bx {N : Int → Int} {f0 len : Int} (hf : 4 ≤ f0 ∧ f0 ≤ 16) (hl : N len = -1) : ∀ (ss : List St4) (s : St4) (d : Nat) (p : Int) (L : List St4), (∀ x ∈ s :: ss, okr x) → ss.length < d → rdsN N p (bx (s :: ss)) → len = p + (bx (s :: ss)).length → (∀ q, p ≤ q → q < len → N q ≠ -1) → pT N f0 len d p L = (-1, L ++ (s :: ss).map (stm f0))
  | [], s, 0, p, L, _, hd, _, _, _ => by omega
  | _ :: _, s, 0, p, L, _, hd, _, _, _ => by omega
  | [], s, d + 1, p, L, ho, hd, hr, he, hN => by
    have hr : rdsN N p (sx s) := hr
    have he : len = p + ((sx s).length : Int) := he
    have hp := pS_sx hf (ho s (List.mem_cons_self ..)) hr (fun e => by
      have := sx_3 e
      rw [show p + 1 + 1 + 1 = len by omega, hl]; decide)
    unfold pT
    rw [hp]
    show (if p + ((sx s).length : Int) = len then _ else _) = _
    rw [if_pos he.symm]
    rfl
  | r :: ss, s, d + 1, p, L, ho, hd, hr, he, hN => by
    have hr : rdsN N p (sx s ++ 59 :: bx (r :: ss)) := hr
    have he : len = p + ((sx s ++ 59 :: bx (r :: ss)).length : Int) := he
    rw [List.length_append, List.length_cons] at he
    obtain ⟨h1, h2, h3⟩ := (rdsN_app _ _ _).mp hr
    have hp := pS_sx hf (ho s (List.mem_cons_self ..)) h1 (fun e => by
      have := sx_3 e
      rw [show p + 1 + 1 + 1 = p + ((sx s).length : Int) by omega, h2]; decide)
    have ih := pT_bx hf hl ss r d (p + ((sx s).length : Int) + 1) (L ++ [stm f0 s]) (fun x hx => ho x (List.mem_cons_of_mem _ hx)) (by rw [List.length_cons] at hd; omega) h3 (by omega) (fun q q0 q1 => hN q (by omega) q1)
    unfold pT
    rw [hp]
    show (if p + ((sx s).length : Int) = len then _ else if N (p + ((sx s).length : Int)) = 59 then pT N f0 len d (p + ((sx s).length : Int) + 1) (L ++ [stm f0 s]) else _) = _
    rw [if_neg (by omega), if_pos h2, ih, List.append_assoc]
    rfl
/-- what stands in the row of characters -/
def TXb (σ : St) (B : List Int) : Prop := gI σ 1 1 = B.length ∧ (B.length ≤ 80 ∧ ((∀ c ∈ B, 33 ≤ c ∧ c ≤ 126) ∧ ∀ i : Nat, i < B.length → gI σ 2 i = B.getD i 0))
theorem TX_tx1 {σ : St} {B : List Int} (h : TXb σ B) : tx1 σ := by
  obtain ⟨h1, h2, h3, h4⟩ := h
  refine ⟨by omega, fun i i0 i1 => ?_⟩
  have := h4 i.toNat (by omega)
  rw [show ((i.toNat : Nat) : Int) = i by omega] at this
  rw [this]
  refine h3 _ ?_
  rw [List.getD_eq_getElem?_getD, List.getElem?_eq_getElem (by omega)]
  exact List.getElem_mem _
theorem TX_0 {σ : St} (h : gI σ 1 1 = 0) : TXb σ [] := ⟨h, Nat.zero_le _, (fun c k => nomatch k), fun i hi => absurd hi (Nat.not_lt_zero _)⟩
theorem TX_rT {σ : St} {f : Int} {L : List St4} (hf : 0 ≤ f ∧ f ≤ 3) (h : TXb σ (bx L)) (ho : ∀ s ∈ L, okr s) (hL : L.length ≤ 80) : rT σ f = (-1, L.map (stm (4 + 4 * f))) := by
  obtain ⟨h1, h2, h3, h4⟩ := h
  unfold rT
  cases L with
  | nil =>
    have h0 : gI σ 1 1 = 0 := h1
    rw [if_pos h0]; rfl
  | cons s ss =>
    have hlen : 0 < (bx (s :: ss)).length := by
      have hs : 0 < (sx s).length := by
        unfold sx; repeat' split
        all_goals exact Nat.zero_lt_succ _
      cases ss with
      | nil => exact hs
      | cons r rs => show 0 < (sx s ++ 59 :: bx (r :: rs)).length; rw [List.length_append]; omega
    rw [if_neg (by omega)]
    have hN : rdsN (CH σ) 0 (bx (s :: ss)) := rdsN_of _ 0 (fun i hi => by
      rw [show (0 : Int) + (i : Int) = (i : Int) by omega]
      unfold CH
      rw [if_pos (by omega)]
      exact h4 i hi)
    have := pT_bx (N := CH σ) (f0 := 4 + 4 * f) (len := gI σ 1 1) (by omega) (by unfold CH; rw [if_neg (by omega)]) ss s 80 0 [] ho (by rw [List.length_cons] at hL; omega) hN (by rw [h1]; omega) (fun q q0 q1 => by
      have := (TX_tx1 (σ := σ) (B := bx (s :: ss)) ⟨h1, h2, h3, h4⟩).2 q q0 q1
      unfold CH
      rw [if_pos q1]; omega)
    rw [this]; rfl
theorem bx_snoc (s : St4) : ∀ (L : List St4), bx (L ++ [s]) = bx L ++ ((if L = [] then [] else [59]) ++ sx s)
  | [] => rfl
  | [r] => rfl
  | r :: q :: ss => by
    have ih := bx_snoc s (q :: ss)
    show sx r ++ 59 :: bx ((q :: ss) ++ [s]) = (sx r ++ 59 :: bx (q :: ss)) ++ _
    rw [ih, if_neg (by intro h; cases h), if_neg (by intro h; cases h), List.append_assoc]
    rfl
theorem sx_len (s : St4) : (sx s).length ≤ 7 ∧ 3 ≤ (sx s).length := by
  unfold sx; repeat' split
  all_goals exact ⟨Nat.le_of_ble_eq_true rfl, Nat.le_of_ble_eq_true rfl⟩
theorem bx_len : ∀ (L : List St4), (bx L).length ≤ 8 * L.length - 1
  | [] => Nat.zero_le _
  | [r] => (sx_len r).1
  | r :: q :: ss => by
    have ih := bx_len (q :: ss)
    have := sx_len r
    show (sx r ++ 59 :: bx (q :: ss)).length ≤ 8 * (ss.length + 1 + 1) - 1
    rw [List.length_append, List.length_cons]
    rw [List.length_cons] at ih
    omega
theorem sx_chr {s : St4} (h : okr s) : ∀ c ∈ sx s, 33 ≤ c ∧ c ≤ 126 := by
  obtain ⟨⟨k0, k1⟩, ⟨i0, i1⟩, ⟨j0, j1⟩, n5, n6, nz⟩ := h
  have ci := nm_cs i0 i1
  have cj := nm_cs j0 j1
  have nn : s.1 ≠ 5 ∧ s.1 ≠ 6 ∨ 0 ≤ s.2.2.2 ∧ s.2.2.2 ≤ 3 := by omega
  unfold sx
  intro c hc
  split at hc
  · simp only [List.mem_cons, List.not_mem_nil, or_false] at hc; omega
  split at hc
  · simp only [List.mem_cons, List.not_mem_nil, or_false] at hc; omega
  split at hc
  · simp only [List.mem_cons, List.not_mem_nil, or_false] at hc; omega
  split at hc
  · simp only [List.mem_cons, List.not_mem_nil, or_false] at hc; omega
  split at hc
  · simp only [List.mem_cons, List.not_mem_nil, or_false] at hc; omega
  split at hc
  · simp only [List.mem_cons, List.not_mem_nil, or_false] at hc; omega
  · simp only [List.mem_cons, List.not_mem_nil, or_false] at hc; omega
theorem bx_chr : ∀ (L : List St4), (∀ s ∈ L, okr s) → ∀ c ∈ bx L, 33 ≤ c ∧ c ≤ 126
  | [], _, c, hc => by cases hc
  | [r], h, c, hc => sx_chr (h r (List.mem_cons_self ..)) c hc
  | r :: q :: ss, h, c, hc => by
    have hc : c ∈ sx r ++ 59 :: bx (q :: ss) := hc
    rw [List.mem_append, List.mem_cons] at hc
    rcases hc with k | k | k
    · exact sx_chr (h r (List.mem_cons_self ..)) c k
    · omega
    · exact bx_chr (q :: ss) (fun s hs => h s (List.mem_cons_of_mem _ hs)) c k
/-- statements as the class holds them -/
theorem stm_ok4 {f0 : Int} {s : St4} (hf : 4 ≤ f0 ∧ f0 ≤ 16) (h : okr s) : ok4 (stm f0 s) := by
  obtain ⟨⟨k0, k1⟩, ⟨i0, i1⟩, ⟨j0, j1⟩, n5, n6, nz⟩ := h
  have ri := sv_rng hf i0 i1
  have rj := sv_rng hf j0 j1
  refine ⟨⟨k0, k1⟩, ⟨ri, ?_, ?_⟩, fun e => (n5 e).2⟩
  · show 0 ≤ (if s.1 = 4 then 0 else sv f0 s.2.2.1) ∧ (if s.1 = 4 then 0 else sv f0 s.2.2.1) ≤ 19
    split <;> omega
  · show 0 ≤ s.2.2.2 ∧ s.2.2.2 ≤ 3
    omega
theorem stm_ok {f0 : Int} {L : List St4} (hf : 4 ≤ f0 ∧ f0 ≤ 16) (h : ∀ s ∈ L, okr s) : ∀ s ∈ L.map (stm f0), ok4 s := fun s hs => by
  obtain ⟨x, hx, e⟩ := List.mem_map.mp hs
  rw [← e]; exact stm_ok4 hf (h x hx)
theorem stm_loc {f : Int} {L : List St4} (f0 : 0 ≤ f) (h : ∀ s ∈ L, okr s) : ∀ s ∈ L.map (stm (4 + 4 * f)), loc f s.2.1 ∧ loc f s.2.2.1 := fun s hs => by
  obtain ⟨x, hx, e⟩ := List.mem_map.mp hs
  obtain ⟨-, ⟨i0, i1⟩, ⟨j0, j1⟩, -⟩ := h x hx
  rw [← e]
  refine ⟨sv_loc f0 i0 i1, ?_⟩
  show loc f (if x.1 = 4 then 0 else sv (4 + 4 * f) x.2.2.1)
  split
  · exact Or.inl (by omega)
  · exact sv_loc f0 j0 j1
theorem cq_stm (q f0 : Int) : ∀ (L : List St4), cq q (L.map (stm f0)) = cq q L
  | [] => rfl
  | s :: ss => by
    have ih := cq_stm q f0 ss
    unfold cq at ih ⊢
    rw [List.map_cons, List.filter_cons, List.filter_cons, show (stm f0 s).1 = s.1 from rfl]
    split
    · rw [List.length_cons, List.length_cons]; omega
    · exact ih
/-- own variables stay own -/
theorem SPr_O {P P' : Pg} {f : Int} {L : List St4} (hP : okP P) (hO : okO P) (h : SPr P f L P') (hf : 0 ≤ f ∧ f ≤ 3) (hL : L.length ≤ 12) (h4 : ∀ s ∈ L, loc f s.2.1 ∧ loc f s.2.2.1) : okO P' := by
  have hz' := SPr_z hP.1 h hf hL
  intro n n0 n1
  have hs := own_spec hz' n0 n1
  have hpl := plc_of hz' hs.1.1 hs.1.2 (k := n - stt P' (own P' n)) (by omega) (by omega)
  rw [show stt P' (own P' n) + (n - stt P' (own P' n)) = n by omega] at hpl
  unfold vv ww
  rw [hpl]
  have hk0 : 0 ≤ n - stt P' (own P' n) := by omega
  have hk1 : n - stt P' (own P' n) < P' 58 (own P' n) := by omega
  generalize n - stt P' (own P' n) = k at hk0 hk1
  generalize own P' n = g at hs hk1
  by_cases e : g = f
  · rw [e, h.1.1] at hk1
    have hd := h.2.2 k.toNat (by omega)
    rw [show ((k.toNat : Nat) : Int) = k by omega] at hd
    rw [e, hd.2.1, hd.2.2.1]
    have hm : L.getD k.toNat s0 ∈ L := by
      rw [List.getD_eq_getElem?_getD, List.getElem?_eq_getElem (by omega)]
      exact List.getElem_mem _
    exact h4 _ hm
  · have hzg := okZ_at hP.1 hs.1.1 hs.1.2
    rw [h.1.2 g hs.1.1 hs.1.2 e] at hk1
    have hn := hO (stt P g + k) (by have := stt_rng hP.1 hs.1.1 hs.1.2; omega) (by have := stt_rng hP.1 hs.1.1 hs.1.2; omega)
    unfold vv ww at hn
    rw [plc_of hP.1 hs.1.1 hs.1.2 hk0 hk1, own_of hP.1 hs.1.1 hs.1.2 hk0 hk1] at hn
    rw [h.2.1 55 _ (by decide) (by decide) (by omega) (by omega) (by omega), h.2.1 56 _ (by decide) (by decide) (by omega) (by omega) (by omega)]
    exact hn
theorem mny_emp {P : Pg} (hz : okZ P) {q f : Int} (hf : 0 ≤ f ∧ f ≤ 3) (h : P 58 f = 0) : mny P q f = mny P q (-1) := by
  have hc : cf P q f = 0 := by unfold cf; rw [h]; rfl
  rw [mny_cf hz, mny_cf hz, if_neg (show ¬ (-1 : Int) = 0 by decide), if_neg (show ¬ (-1 : Int) = 1 by decide), if_neg (show ¬ (-1 : Int) = 2 by decide), if_neg (show ¬ (-1 : Int) = 3 by decide)]
  rcases (show f = 0 ∨ f = 1 ∨ f = 2 ∨ f = 3 by omega) with e | e | e | e <;> subst e
  · rw [if_pos rfl, if_neg (by decide), if_neg (by decide), if_neg (by decide), hc]
  · rw [if_neg (by decide), if_pos rfl, if_neg (by decide), if_neg (by decide), hc]
  · rw [if_neg (by decide), if_neg (by decide), if_pos rfl, if_neg (by decide), hc]
  · rw [if_neg (by decide), if_neg (by decide), if_neg (by decide), if_pos rfl, hc]
theorem mny_no {P : Pg} (q w : Int) (h : tot P = 0) : mny P q w = 0 := by unfold mny; rw [h]; rfl
