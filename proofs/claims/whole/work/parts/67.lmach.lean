/-! the law's machine -/
def dmL (σ : St) (a : Int) : Prop := (0 ≤ a ∧ a < 4) ∨ (4 ≤ a ∧ a < 4 + 4 * gI σ 53 37) ∨ (808 ≤ a ∧ a < 808 + 3 * gI σ 53 38)
def pvL (φ : Int → Int) (σ : St) (v p : Int) : Prop := (v = 0 ∧ p = 0) ∨ ∃ b, v = b + 1 ∧ (dmL σ b ∧ (φ b = p ∧ 1 ≤ p))
def lmM : Nat → Int → Prop := fun c j => (70 ≤ c ∧ c ≤ 75) ∨ (c = 53 ∧ 36 ≤ j ∧ j ≤ 40)
/-- the law's machine stands as the pure one -/
def LR (P : Pg) (φ : Int → Int) (s σ : St) : Prop :=
  ((gI σ 53 36 = gI s 46 6 ∧ gI σ 53 40 = gI s 46 8) ∧ (gI σ 53 39 = gI s 46 9 ∧ gI σ 53 38 = gI s 46 10)) ∧
  ((∀ a, dmL σ a → (1 ≤ φ a ∧ φ a < gI s 46 7) ∧ ((gI σ 71 a = gI s 48 (φ a) ∧ (0 ≤ gI σ 71 a ∧ gI σ 71 a < 44)) ∧ pvL φ σ (gI σ 70 a) (gI s 47 (φ a)))) ∧
  ((∀ a b, dmL σ a → dmL σ b → φ a = φ b → a = b) ∧
  ((∀ a k, dmL σ a → 20 ≤ gI s 48 (φ a) → 0 ≤ k → (gI s 48 (φ a) - 20) % 3 + k ≤ 2 → dmL σ (a + k) ∧ φ (a + k) = φ a + k) ∧
  ((∀ j, 0 ≤ j → j < 4 → φ j = 1 + j) ∧
  ((∀ i, 0 ≤ i → i < gI s 46 6 → (gI σ 72 i = gI s 50 i ∧ gI σ 73 i = gI s 51 i - stt P (gI s 50 i)) ∧ ((4 ≤ gI σ 74 i ∧ gI σ 74 i + 4 ≤ 4 + 4 * gI σ 53 37) ∧ ∀ j, 0 ≤ j → j < 4 → φ (gI σ 74 i + j) = gI s 52 i + j)) ∧
  (∀ a, 0 ≤ a → a < 44 → gL σ 75 a = gL s 49 a))))))
def LBd (σ : St) : Prop := (0 ≤ gI σ 53 37 ∧ gI σ 53 37 ≤ 201) ∧ (0 ≤ gI σ 53 38 ∧ gI σ 53 38 ≤ 200)
theorem dm_rng {σ : St} (h : LBd σ) {a : Int} (ha : dmL σ a) : 0 ≤ a ∧ a < 1412 := by
  obtain ⟨h1, h2⟩ := h
  unfold dmL at ha
  omega
theorem dm_eq {σ σ' : St} (h1 : gI σ' 53 37 = gI σ 53 37) (h2 : gI σ' 53 38 = gI σ 53 38) : dmL σ' = dmL σ := by
  funext a; unfold dmL; rw [h1, h2]
theorem pv_eq {φ : Int → Int} {σ σ' : St} (h : dmL σ' = dmL σ) : pvL φ σ' = pvL φ σ := by
  funext v p; unfold pvL; rw [h]
section LM
variable {t : Nat} {σ s : St} {Q : Res → St → Prop} {P : Pg} {φ : Int → Int}
theorem LR_wr (h : LR P φ s σ) (hB : LBd σ) {a v p : Int} (ha : dmL σ a) (hv : pvL φ σ v p) (hq : ∀ σ', LR P φ (mwr (φ a) p s) σ' → fr (fun c _ => c = 70 ∨ c = 75) σ σ' → Q (.inl none) σ') : Call t 260 [vR 53, vI a, vI v] σ Q := by
  obtain ⟨h1, h2, h3, h4, h5, h6, h7⟩ := h
  have har := dm_rng hB ha
  have hvr : 0 ≤ v ∧ v ≤ 1412 := by
    rcases hv with hv | ⟨b, e, hb, _⟩
    · omega
    · have := dm_rng hB hb; omega
  have key : ∀ σ', gI σ' 70 = (fun j => if j = a then v else gI σ 70 j) → (∀ c, c ≠ 70 → gI σ' c = gI σ c) → (∀ x, 0 ≤ x → x < 44 → gL σ' 75 x = gL (mwr (φ a) p s) 49 x) → LR P φ (mwr (φ a) p s) σ' := fun σ' e70 en eL => by
    have ed : dmL σ' = dmL σ := dm_eq (by rw [en 53 (by decide)]) (by rw [en 53 (by decide)])
    have ep := pv_eq (φ := φ) ed
    refine ⟨?_, fun x hx => ?_, fun x y hx hy => ?_, fun x k hx => ?_, h5, fun i i0 i1 => ?_, eL⟩
    · rw [en 53 (by decide), mwr_ne (by decide)]; exact h1
    · rw [ed] at hx
      obtain ⟨g1, g2, g3⟩ := h2 x hx
      rw [ep, en 71 (by decide), e70, mwr_47, mwr_ne (by decide), mwr_ne (by decide)]
      refine ⟨g1, g2, ?_⟩
      show pvL φ σ (if x = a then v else gI σ 70 x) (if φ x = φ a then p else gI s 47 (φ x))
      by_cases q : x = a
      · rw [if_pos q, if_pos (by rw [q])]; exact hv
      · rw [if_neg q, if_neg (fun k => q (h3 x a hx ha k))]; exact g3
    · rw [ed] at hx hy; exact h3 x y hx hy
    · rw [ed] at hx ⊢
      rw [mwr_ne (by decide)]; exact h4 x k hx
    · rw [mwr_ne (by decide)] at i1
      rw [en 72 (by decide), en 73 (by decide), en 74 (by decide), en 53 (by decide), mwr_ne (by decide), mwr_ne (by decide), mwr_ne (by decide)]
      exact h6 i i0 i1
  rw [x260_0]
  refine ⟨har, ⟨by omega, by omega⟩, fun c => ?_, fun c => ?_⟩
  · obtain ⟨b, e, hb, eb, pb⟩ := hv.resolve_left (fun k => by omega)
    have hbr := dm_rng hB hb
    have ga := (h2 a ha).2.1
    have gb := (h2 b hb).2.1
    have s1 : gI (sI σ 70 a v) 71 = gI σ 71 := gI_rne (by decide)
    have eb1 : v - 1 = b := by omega
    rw [x260_11, s1, eb1]
    refine ⟨har, ga.2, by omega, ga.2, ?_⟩
    rw [x260_35]
    refine hq _ (key _ ?_ ?_ ?_) (fr_sL (fr_sI fr_refl (Or.inl rfl)) (Or.inr rfl))
    · show gI (sI σ 70 a v) 70 = _
      rw [gI_row]
    · intro c hc
      show gI (sI σ 70 a v) c = _
      rw [gI_rne hc]
    · intro x x0 x1
      unfold mwr
      rw [if_neg (show ¬ p = 0 by omega), gL_sL, gL_sL]
      show (if 75 = 75 ∧ x = gI σ 71 a then gL σ 75 (gI σ 71 a) ||| (BitVec.ofNat 64 1 <<< sh6 (gI σ 71 b)) else gL σ 75 x) = (if 49 = 49 ∧ x = gI s 48 (φ a) then gL s 49 (gI s 48 (φ a)) ||| (BitVec.ofNat 64 1 <<< sh6 (gI s 48 p)) else gL s 49 x)
      rw [ga.1, gb.1, eb]
      by_cases q : x = gI s 48 (φ a)
      · rw [if_pos ⟨rfl, q⟩, if_pos ⟨rfl, q⟩, h7 _ (by rw [← ga.1]; exact ga.2.1) (by rw [← ga.1]; exact ga.2.2)]
      · rw [if_neg (fun k => q k.2), if_neg (fun k => q k.2)]; exact h7 x x0 x1
  · have hp : v = 0 ∧ p = 0 := by
      rcases hv with hv | ⟨b, e, hb, _⟩
      · exact hv
      · have := dm_rng hB hb; omega
    rw [x260_35]
    refine hq _ (key _ (by rw [gI_row]) (fun c hc => by rw [gI_rne hc]) (fun x x0 x1 => ?_)) (fr_sI fr_refl (Or.inl rfl))
    unfold mwr
    rw [if_pos hp.2]
    exact h7 x x0 x1
/-- placeIn -/
theorem LR_at (h : LR P φ s σ) {v : Int} (v0 : 0 ≤ v) (v1 : v ≤ 19) (hD : 0 < gI s 46 6 ∧ gI s 46 6 ≤ 6) (hq : ∀ a, dmL σ a → φ a = madr v s → Q (.inl (some (vI a))) σ) : Call t 261 [vR 53, vI v] σ Q := by
  obtain ⟨h1, h2, h3, h4, h5, h6, h7⟩ := h
  rw [x261_0]
  refine ⟨⟨by omega, by omega⟩, fun a => ?_, fun a => ?_⟩
  · rw [x261_5, x261_24]
    exact hq v (Or.inl ⟨v0, a⟩) (by unfold madr; rw [if_pos a]; exact h5 v v0 a)
  · have g := h6 (gI s 46 6 - 1) (by omega) (by omega)
    rw [x261_9, x261_24, h1.1.1]
    refine ⟨⟨by omega, by omega⟩, ⟨by omega, by omega⟩, hq _ (Or.inr (Or.inl ⟨by omega, by omega⟩)) ?_⟩
    unfold madr
    rw [if_neg a, show (v - 4) % 4 = v % 4 by omega]
    exact g.2.2 (v % 4) (by omega) (by omega)
/-- a state with other counters -/
theorem LR_cnt (h : LR P φ s σ) {s' σ' : St} (h1 : (gI σ' 53 36 = gI s' 46 6 ∧ gI σ' 53 40 = gI s' 46 8) ∧ (gI σ' 53 39 = gI s' 46 9 ∧ gI σ' 53 38 = gI s' 46 10)) (hd : 0 ≤ gI s' 46 6 ∧ gI s' 46 6 ≤ gI s 46 6) (h7 : gI s' 46 7 = gI s 46 7) (h37 : gI σ' 53 37 = gI σ 53 37) (h38 : gI σ' 53 38 = gI σ 53 38)
    (hs : ∀ c, c ≠ 46 → gI s' c = gI s c) (hL : gL s' = gL s) (hσ : ∀ c, c ≠ 53 → gI σ' c = gI σ c) (hσL : gL σ' = gL σ) : LR P φ s' σ' := by
  obtain ⟨-, h2, h3, h4, h5, h6, h8⟩ := h
  have ed := dm_eq h37 h38
  have ep := pv_eq (φ := φ) ed
  unfold LR
  rw [ed, ep, h7, h37, hs 48 (by decide), hs 47 (by decide), hs 50 (by decide), hs 51 (by decide), hs 52 (by decide), hσ 70 (by decide), hσ 71 (by decide), hσ 72 (by decide), hσ 73 (by decide), hσ 74 (by decide), hL, hσL]
  exact ⟨h1, h2, h3, h4, h5, fun i i0 i1 => h6 i i0 (by omega), h8⟩
/-- a new block of cells -/
theorem LR_new {s' σ' : St} (h : LR P φ s σ) {b n c0 : Int} (hn : 0 < n) (hU : 1 ≤ gI s 46 7) (hc : 0 ≤ c0 ∧ c0 + n ≤ 44) (h20 : c0 + n ≤ 20 ∨ (n = 3 ∧ (20 ≤ c0 ∧ (c0 - 20) % 3 = 0))) (hb : ∀ a, b ≤ a → a < b + n → ¬ dmL σ a) (hd : ∀ a, dmL σ' a ↔ (dmL σ a ∨ (b ≤ a ∧ a < b + n)))
    (h1 : (gI σ' 53 36 = gI s' 46 6 ∧ gI σ' 53 40 = gI s' 46 8) ∧ (gI σ' 53 39 = gI s' 46 9 ∧ gI σ' 53 38 = gI s' 46 10)) (h7 : gI s' 46 7 = gI s 46 7 + n)
    (e47 : ∀ j, gI s' 47 j = if gI s 46 7 ≤ j ∧ j < gI s 46 7 + n then 0 else gI s 47 j) (e48 : ∀ j, gI s' 48 j = if gI s 46 7 ≤ j ∧ j < gI s 46 7 + n then c0 + (j - gI s 46 7) else gI s 48 j) (eL : gL s' 49 = gL s 49)
    (e70 : ∀ a, gI σ' 70 a = if b ≤ a ∧ a < b + n then 0 else gI σ 70 a) (e71 : ∀ a, gI σ' 71 a = if b ≤ a ∧ a < b + n then c0 + (a - b) else gI σ 71 a) (eL' : gL σ' 75 = gL σ 75) (h4b : 4 ≤ b)
    (hfr : ∀ i, 0 ≤ i → i < gI s' 46 6 → (gI σ' 72 i = gI s' 50 i ∧ gI σ' 73 i = gI s' 51 i - stt P (gI s' 50 i)) ∧ ((4 ≤ gI σ' 74 i ∧ gI σ' 74 i + 4 ≤ 4 + 4 * gI σ' 53 37) ∧ ∀ j, 0 ≤ j → j < 4 → (if b ≤ gI σ' 74 i + j ∧ gI σ' 74 i + j < b + n then gI s 46 7 + (gI σ' 74 i + j - b) else φ (gI σ' 74 i + j)) = gI s' 52 i + j)) :
    LR P (fun a => if b ≤ a ∧ a < b + n then gI s 46 7 + (a - b) else φ a) s' σ' := by
  obtain ⟨-, h2, h3, h4, h5, h6, h8⟩ := h
  have old : ∀ a, dmL σ a → (if b ≤ a ∧ a < b + n then gI s 46 7 + (a - b) else φ a) = φ a := fun a ha => if_neg (fun k => hb a k.1 k.2 ha)
  have pold : ∀ v p, pvL φ σ v p → pvL (fun a => if b ≤ a ∧ a < b + n then gI s 46 7 + (a - b) else φ a) σ' v p := fun v p k => by
    rcases k with k | ⟨x, e, k1, k2, k3⟩
    · exact Or.inl k
    · exact Or.inr ⟨x, e, (hd x).mpr (Or.inl k1), by show (if b ≤ x ∧ x < b + n then gI s 46 7 + (x - b) else φ x) = p; rw [old x k1]; exact k2, k3⟩
  refine ⟨h1, fun a ha => ?_, fun a a' ha ha' => ?_, fun a k ha => ?_, fun j j0 j1 => ?_, hfr, fun a a0 a1 => ?_⟩
  · show (1 ≤ (if b ≤ a ∧ a < b + n then gI s 46 7 + (a - b) else φ a) ∧ (if b ≤ a ∧ a < b + n then gI s 46 7 + (a - b) else φ a) < gI s' 46 7) ∧ ((gI σ' 71 a = gI s' 48 (if b ≤ a ∧ a < b + n then gI s 46 7 + (a - b) else φ a) ∧ (0 ≤ gI σ' 71 a ∧ gI σ' 71 a < 44)) ∧ pvL _ σ' (gI σ' 70 a) (gI s' 47 (if b ≤ a ∧ a < b + n then gI s 46 7 + (a - b) else φ a)))
    rw [h7, e48, e47, e70, e71]
    rcases (hd a).mp ha with k | k
    · obtain ⟨g1, g2, g3⟩ := h2 a k
      have nA : ¬ (gI s 46 7 ≤ φ a ∧ φ a < gI s 46 7 + n) := by omega
      have nB : ¬ (b ≤ a ∧ a < b + n) := fun z => hb a z.1 z.2 k
      rw [old a k]
      simp only [if_neg nA, if_neg nB]
      exact ⟨⟨g1.1, by omega⟩, g2, pold _ _ g3⟩
    · have nA : gI s 46 7 ≤ gI s 46 7 + (a - b) ∧ gI s 46 7 + (a - b) < gI s 46 7 + n := by omega
      simp only [if_pos k, if_pos nA]
      exact ⟨⟨by omega, by omega⟩, ⟨by omega, by omega⟩, Or.inl ⟨rfl, rfl⟩⟩
  · show (if b ≤ a ∧ a < b + n then gI s 46 7 + (a - b) else φ a) = (if b ≤ a' ∧ a' < b + n then gI s 46 7 + (a' - b) else φ a') → a = a'
    rcases (hd a).mp ha with k | k
    · have g := (h2 a k).1
      rw [old a k]
      rcases (hd a').mp ha' with k' | k'
      · rw [old a' k']; exact h3 a a' k k'
      · rw [if_pos k']; intro e; omega
    · rw [if_pos k]
      rcases (hd a').mp ha' with k' | k'
      · have g := (h2 a' k').1
        rw [old a' k']; intro e; omega
      · rw [if_pos k']; intro e; omega
  · show 20 ≤ gI s' 48 (if b ≤ a ∧ a < b + n then gI s 46 7 + (a - b) else φ a) → 0 ≤ k → (gI s' 48 (if b ≤ a ∧ a < b + n then gI s 46 7 + (a - b) else φ a) - 20) % 3 + k ≤ 2 → dmL σ' (a + k) ∧ (if b ≤ a + k ∧ a + k < b + n then gI s 46 7 + (a + k - b) else φ (a + k)) = (if b ≤ a ∧ a < b + n then gI s 46 7 + (a - b) else φ a) + k
    rw [e48]
    rcases (hd a).mp ha with z | z
    · have g := (h2 a z).1
      rw [old a z, if_neg (by omega)]
      intro c1 k0 c2
      obtain ⟨d1, d2⟩ := h4 a k z c1 k0 c2
      rw [old _ d1]
      exact ⟨(hd _).mpr (Or.inl d1), d2⟩
    · rw [if_pos z, if_pos (by omega)]
      intro c1 k0 c2
      have hin : b ≤ a + k ∧ a + k < b + n := by
        rcases h20 with h20 | ⟨e3, c3, c4⟩
        · omega
        · omega
      rw [if_pos hin]
      exact ⟨(hd _).mpr (Or.inr hin), by omega⟩
  · show (if b ≤ j ∧ j < b + n then gI s 46 7 + (j - b) else φ j) = 1 + j
    rw [if_neg (by omega)]; exact h5 j j0 j1
  · rw [eL', eL]; exact h8 a a0 a1
theorem opl {σ0 : St} {f : Int} (hf : 0 ≤ f ∧ f ≤ 3) {D b : Int} (hD : 0 ≤ D ∧ D ≤ 5) (hb : 0 ≤ b ∧ b + 4 ≤ 1412) (hq : ∀ σ', (∀ a, gI σ' 70 a = if b ≤ a ∧ a < b + 4 then 0 else gI σ0 70 a) → (∀ a, gI σ' 71 a = if b ≤ a ∧ a < b + 4 then 4 + 4 * f + (a - b) else gI σ0 71 a) → (∀ c, c ≠ 70 → c ≠ 71 → gI σ' c = gI σ0 c) → gL σ' = gL σ0 → gD σ' = gD σ0 → wp t 262 90 [some (vR 53), some (vI f), some (vI 4)] [] σ' Q) (h36 : gI σ0 53 36 = D) (h74 : gI σ0 74 D = b) :
    ∀ (d : Nat) (i : Int) (σ1 : St), 0 ≤ i → i + d = 4 → (∀ a, gI σ1 70 a = if b ≤ a ∧ a < b + i then 0 else gI σ0 70 a) → (∀ a, gI σ1 71 a = if b ≤ a ∧ a < b + i then 4 + 4 * f + (a - b) else gI σ0 71 a) → (∀ c, c ≠ 70 → c ≠ 71 → gI σ1 c = gI σ0 c) → gL σ1 = gL σ0 → gD σ1 = gD σ0 → wp t 262 39 [some (vR 53), some (vI f), some (vI i)] [] σ1 Q
  | 0, i, σ1, i0, hd, g1, g2, g3, g4, g5 => by
    have e : i = 4 := by omega
    subst e
    rw [x262_39]
    exact ⟨⟨by omega, by omega⟩, fun a => by omega, fun _ => hq σ1 g1 g2 g3 g4 g5⟩
  | d + 1, i, σ1, i0, hd, g1, g2, g3, g4, g5 => by
    have k36 : gI σ1 53 36 = D := by rw [g3 53 (by decide) (by decide)]; exact h36
    have k74 : gI σ1 74 D = b := by rw [g3 74 (by decide) (by decide)]; exact h74
    have m36 : gI (sI σ1 70 (b + i) 0) 53 36 = D := by rw [gI_rne (by decide)]; exact k36
    have m74 : gI (sI σ1 70 (b + i) 0) 74 D = b := by rw [gI_rne (by decide)]; exact k74
    rw [x262_39]
    refine ⟨⟨by omega, by omega⟩, fun _ => ?_, fun a => by omega⟩
    rw [x262_44, k36, k74, m36, m74]
    refine ⟨by omega, by omega, by omega, by omega, opl hf hD hb hq h36 h74 d (i + 1) _ (by omega) (by omega) (fun a => ?_) (fun a => ?_) (fun c c0 c1 => ?_) g4 g5⟩
    · rw [gI_rne (by decide), gI_sI, g1]
      by_cases q : a = b + i
      · rw [if_pos ⟨rfl, q⟩, if_pos (by omega)]
      · rw [if_neg (fun k => q k.2)]
        by_cases q2 : b ≤ a ∧ a < b + i
        · rw [if_pos q2, if_pos (by omega)]
        · rw [if_neg q2, if_neg (by omega)]
    · rw [gI_sI]
      by_cases q : a = b + i
      · rw [if_pos ⟨rfl, q⟩, if_pos (by omega)]; omega
      · rw [if_neg (fun k => q k.2), gI_rne (by decide), g2]
        by_cases q2 : b ≤ a ∧ a < b + i
        · rw [if_pos q2, if_pos (by omega)]
        · rw [if_neg q2, if_neg (by omega)]
    · rw [gI_rne c1, gI_rne c0]; exact g3 c c0 c1
/-- opens -/
theorem LR_op (hP : okP P) (h : LR P φ s σ) (hB : LBd σ) (hF : gI σ 53 37 ≤ 200) (hU : 1 ≤ gI s 46 7) {f : Int} (hf : 0 ≤ f ∧ f ≤ 3) (hD : 0 ≤ gI s 46 6 ∧ gI s 46 6 ≤ 5)
    (hq : ∀ σ', LR P (fun a => if 4 + 4 * gI σ 53 37 ≤ a ∧ a < 4 + 4 * gI σ 53 37 + 4 then gI s 46 7 + (a - (4 + 4 * gI σ 53 37)) else φ a) (mop P f s) σ' → gI σ' 53 37 = gI σ 53 37 + 1 → gI σ' 53 38 = gI σ 53 38 → (∀ a, dmL σ a → gI σ' 70 a = gI σ 70 a) → fr lmM σ σ' → Q (.inl none) σ') : Call t 262 [vR 53, vI f] σ Q := by
  have hh := h
  obtain ⟨h1, h2, h3, h4, h5, h6, h7⟩ := h
  have hob := hB.2
  have hF0 := hB.1
  generalize hbd : 4 + 4 * gI σ 53 37 = b at hq ⊢
  generalize hDe : gI σ 53 36 = D at *
  have hDs : gI s 46 6 = D := h1.1.1.symm
  have w1 : gI (sI σ 72 D f) 53 36 = D := by rw [gI_rne (by decide)]; exact hDe
  have w2 : gI (sI (sI σ 72 D f) 73 D 0) 53 36 = D := by rw [gI_rne (by decide)]; exact w1
  have w3 : gI (sI (sI σ 72 D f) 73 D 0) 53 37 = gI σ 53 37 := by rw [gI_rne (by decide), gI_rne (by decide)]
  rw [x262_0, hDe, w1, w2, w3, hbd]
  refine ⟨by omega, by omega, by omega, ?_⟩
  refine opl (σ0 := sI (sI (sI σ 72 D f) 73 D 0) 74 D b) (b := b) (D := D) hf (by omega) (by omega) (fun σ1 g1 g2 g3 g4 g5 => ?_) (by rw [gI_rne (by decide)]; exact w2) (by rw [gI_sI, if_pos ⟨rfl, rfl⟩]) 4 0 _ (by omega) (by omega) (fun a => by rw [if_neg (by omega)]) (fun a => by rw [if_neg (by omega)]) (fun c _ _ => rfl) rfl rfl
  have g53 : gI σ1 53 = gI σ 53 := by rw [g3 53 (by decide) (by decide), gI_rne (by decide), gI_rne (by decide), gI_rne (by decide)]
  have v37 : gI σ1 53 37 + 1 = gI σ 53 37 + 1 := by rw [g53]
  have v36 : gI (sI σ1 53 37 (gI σ1 53 37 + 1)) 53 36 + 1 = D + 1 := by rw [gI_sI, if_neg (fun k => by omega), g53, hDe]
  rw [x262_90, v36, v37]
  have k37 : gI (sI (sI σ1 53 37 (gI σ 53 37 + 1)) 53 36 (D + 1)) 53 37 = gI σ 53 37 + 1 := by rw [gI_sI, if_neg (fun k => by omega), gI_sI, if_pos ⟨rfl, rfl⟩]
  have kj : ∀ j, j ≠ 36 → j ≠ 37 → gI (sI (sI σ1 53 37 (gI σ 53 37 + 1)) 53 36 (D + 1)) 53 j = gI σ 53 j := fun j j0 j1 => by rw [gI_sI, if_neg (fun k => j0 k.2), gI_sI, if_neg (fun k => j1 k.2), g53]
  have k36 : gI (sI (sI σ1 53 37 (gI σ 53 37 + 1)) 53 36 (D + 1)) 53 36 = D + 1 := by rw [gI_sI, if_pos ⟨rfl, rfl⟩]
  have kc : ∀ c, c ≠ 53 → gI (sI (sI σ1 53 37 (gI σ 53 37 + 1)) 53 36 (D + 1)) c = gI σ1 c := fun c hc => by rw [gI_rne hc, gI_rne hc]
  have q70 : ∀ a, gI (sI (sI σ1 53 37 (gI σ 53 37 + 1)) 53 36 (D + 1)) 70 a = if b ≤ a ∧ a < b + 4 then 0 else gI σ 70 a := fun a => by rw [kc 70 (by decide), g1, gI_rne (by decide), gI_rne (by decide), gI_rne (by decide)]
  have q71 : ∀ a, gI (sI (sI σ1 53 37 (gI σ 53 37 + 1)) 53 36 (D + 1)) 71 a = if b ≤ a ∧ a < b + 4 then 4 + 4 * f + (a - b) else gI σ 71 a := fun a => by rw [kc 71 (by decide), g2, gI_rne (by decide), gI_rne (by decide), gI_rne (by decide)]
  have q72 : gI (sI (sI σ1 53 37 (gI σ 53 37 + 1)) 53 36 (D + 1)) 72 = fun i => if i = D then f else gI σ 72 i := by rw [kc 72 (by decide), g3 72 (by decide) (by decide), gI_rne (by decide), gI_rne (by decide), gI_row]
  have q73 : gI (sI (sI σ1 53 37 (gI σ 53 37 + 1)) 53 36 (D + 1)) 73 = fun i => if i = D then 0 else gI σ 73 i := by rw [kc 73 (by decide), g3 73 (by decide) (by decide), gI_rne (by decide), gI_row, gI_rne (by decide)]
  have q74 : gI (sI (sI σ1 53 37 (gI σ 53 37 + 1)) 53 36 (D + 1)) 74 = fun i => if i = D then b else gI σ 74 i := by rw [kc 74 (by decide), g3 74 (by decide) (by decide), gI_row, gI_rne (by decide), gI_rne (by decide)]
  have qL : gL (sI (sI σ1 53 37 (gI σ 53 37 + 1)) 53 36 (D + 1)) = gL σ := by show gL σ1 = gL σ; rw [g4]; rfl
  have nb : ∀ a, b ≤ a → a < b + 4 → ¬ dmL σ a := fun a a0 a1 k => by unfold dmL at k; omega
  refine hq _ (LR_new hh (n := 4) (c0 := 4 + 4 * f) (by omega) hU (by omega) (Or.inl (by omega)) nb (fun a => ?_) ?_ ?_ (fun j => ?_) (fun j => ?_) ?_ q70 q71 (by rw [qL]) (by omega) (fun i i0 i1 => ?_)) k37 (kj 38 (by omega) (by omega)) (fun a ha => by rw [q70, if_neg (fun k => nb a k.1 k.2 ha)]) (fun c j hM => ?_)
  · unfold dmL
    rw [k37, kj 38 (by omega) (by omega)]
    omega
  · rw [k36, kj 40 (by omega) (by omega), kj 39 (by omega) (by omega), kj 38 (by omega) (by omega), mop_46, mop_46, mop_46, mop_46, if_pos rfl, if_neg (by omega), if_neg (by omega), if_neg (by omega), if_neg (by omega), if_neg (by omega), if_neg (by omega), hDs]
    exact ⟨⟨rfl, h1.1.2⟩, h1.2⟩
  · rw [mop_46, if_neg (by omega), if_pos rfl]
  · rw [mop_47]
  · rw [mop_48]
  · rfl
  · rw [mop_46, if_pos rfl, hDs] at i1
    rw [q72, q73, q74, k37, mop_50, mop_51, mop_52, hDs]
    show ((if i = D then f else gI σ 72 i) = (if i = D then f else gI s 50 i) ∧ (if i = D then 0 else gI σ 73 i) = (if i = D then stt P f else gI s 51 i) - stt P (if i = D then f else gI s 50 i)) ∧ ((4 ≤ (if i = D then b else gI σ 74 i) ∧ (if i = D then b else gI σ 74 i) + 4 ≤ 4 + 4 * (gI σ 53 37 + 1)) ∧ ∀ j, 0 ≤ j → j < 4 → (if b ≤ (if i = D then b else gI σ 74 i) + j ∧ (if i = D then b else gI σ 74 i) + j < b + 4 then gI s 46 7 + ((if i = D then b else gI σ 74 i) + j - b) else φ ((if i = D then b else gI σ 74 i) + j)) = (if i = D then gI s 46 7 else gI s 52 i) + j)
    by_cases q : i = D
    · simp only [if_pos q]
      exact ⟨⟨trivial, by omega⟩, ⟨by omega, by omega⟩, fun j j0 j1 => by rw [if_pos (by omega)]; omega⟩
    · simp only [if_neg q]
      obtain ⟨p1, p2, p3⟩ := h6 i i0 (by omega)
      exact ⟨p1, ⟨p2.1, by omega⟩, fun j j0 j1 => by rw [if_neg (by omega)]; exact p3 j j0 j1⟩
  · unfold lmM at hM
    refine ⟨?_, by rw [qL], ?_⟩
    · by_cases c53 : c = 53
      · subst c53
        rw [kj j (by omega) (by omega)]
      · rw [kc c c53, g3 c (by omega) (by omega), gI_rne (by omega), gI_rne (by omega), gI_rne (by omega)]
    · show gD σ1 c j = gD σ c j
      rw [g5]; rfl
theorem obl {σ0 : St} {st : Int} {b : Int} (hb : 0 ≤ b ∧ b + 3 ≤ 1412) (hq : ∀ σ', (∀ a, gI σ' 70 a = if b ≤ a ∧ a < b + 3 then 0 else gI σ0 70 a) → (∀ a, gI σ' 71 a = if b ≤ a ∧ a < b + 3 then 20 + 3 * st + (a - b) else gI σ0 71 a) → (∀ c, c ≠ 70 → c ≠ 71 → gI σ' c = gI σ0 c) → gL σ' = gL σ0 → gD σ' = gD σ0 → wp t 263 49 [some (vR 53), some (vI st), some (vI b), some (vI 3)] [] σ' Q) :
    ∀ (d : Nat) (i : Int) (σ1 : St), 0 ≤ i → i + d = 3 → (∀ a, gI σ1 70 a = if b ≤ a ∧ a < b + i then 0 else gI σ0 70 a) → (∀ a, gI σ1 71 a = if b ≤ a ∧ a < b + i then 20 + 3 * st + (a - b) else gI σ0 71 a) → (∀ c, c ≠ 70 → c ≠ 71 → gI σ1 c = gI σ0 c) → gL σ1 = gL σ0 → gD σ1 = gD σ0 → wp t 263 13 [some (vR 53), some (vI st), some (vI b), some (vI i)] [] σ1 Q
  | 0, i, σ1, i0, hd, g1, g2, g3, g4, g5 => by
    have e : i = 3 := by omega
    subst e
    rw [x263_13]
    exact ⟨⟨by omega, by omega⟩, fun a => by omega, fun _ => hq σ1 g1 g2 g3 g4 g5⟩
  | d + 1, i, σ1, i0, hd, g1, g2, g3, g4, g5 => by
    rw [x263_13]
    refine ⟨⟨by omega, by omega⟩, fun _ => ?_, fun a => by omega⟩
    rw [x263_18]
    refine ⟨by omega, by omega, obl hb hq d (i + 1) _ (by omega) (by omega) (fun a => ?_) (fun a => ?_) (fun c c0 c1 => ?_) g4 g5⟩
    · rw [gI_rne (by decide), gI_sI, g1]
      by_cases q : a = b + i
      · rw [if_pos ⟨rfl, q⟩, if_pos (by omega)]
      · rw [if_neg (fun k => q k.2)]
        by_cases q2 : b ≤ a ∧ a < b + i
        · rw [if_pos q2, if_pos (by omega)]
        · rw [if_neg q2, if_neg (by omega)]
    · rw [gI_sI]
      by_cases q : a = b + i
      · rw [if_pos ⟨rfl, q⟩, if_pos (by omega)]; omega
      · rw [if_neg (fun k => q k.2), gI_rne (by decide), g2]
        by_cases q2 : b ≤ a ∧ a < b + i
        · rw [if_pos q2, if_pos (by omega)]
        · rw [if_neg q2, if_neg (by omega)]
    · rw [gI_rne c1, gI_rne c0]; exact g3 c c0 c1
/-- makesObject -/
theorem LR_ob (h : LR P φ s σ) (hB : LBd σ) (hO : gI σ 53 38 ≤ 199) (hU : 1 ≤ gI s 46 7) {st : Int} (hs : 0 ≤ st ∧ st ≤ 7)
    (hq : ∀ σ', LR P (fun a => if 808 + 3 * gI σ 53 38 ≤ a ∧ a < 808 + 3 * gI σ 53 38 + 3 then gI s 46 7 + (a - (808 + 3 * gI σ 53 38)) else φ a) (mtk (20 + 3 * st + 0) 3 (sI s 46 10 (gI s 46 10 + 1))) σ' → gI σ' 53 37 = gI σ 53 37 → gI σ' 53 38 = gI σ 53 38 + 1 → fr lmM σ σ' → Q (.inl (some (vI (808 + 3 * gI σ 53 38 + 1)))) σ') : Call t 263 [vR 53, vI st] σ Q := by
  have hh := h
  obtain ⟨h1, h2, h3, h4, h5, h6, h7⟩ := h
  have hF0 := hB.1
  have hob := hB.2
  generalize hbd : 808 + 3 * gI σ 53 38 = b at hq ⊢
  rw [x263_0, hbd]
  refine obl (σ0 := σ) (st := st) (b := b) (by omega) (fun σ1 g1 g2 g3 g4 g5 => ?_) 3 0 σ (by omega) (by omega) (fun a => by rw [if_neg (by omega)]) (fun a => by rw [if_neg (by omega)]) (fun c _ _ => rfl) rfl rfl
  have g53 : gI σ1 53 = gI σ 53 := g3 53 (by decide) (by decide)
  rw [x263_49, g53]
  have k38 : gI (sI σ1 53 38 (gI σ 53 38 + 1)) 53 38 = gI σ 53 38 + 1 := by rw [gI_sI, if_pos ⟨rfl, rfl⟩]
  have kj : ∀ j, j ≠ 38 → gI (sI σ1 53 38 (gI σ 53 38 + 1)) 53 j = gI σ 53 j := fun j j0 => by rw [gI_sI, if_neg (fun k => j0 k.2), g53]
  have kc : ∀ c, c ≠ 53 → gI (sI σ1 53 38 (gI σ 53 38 + 1)) c = gI σ1 c := fun c hc => by rw [gI_rne hc]
  have qL : gL (sI σ1 53 38 (gI σ 53 38 + 1)) = gL σ := by show gL σ1 = gL σ; rw [g4]
  have nb : ∀ a, b ≤ a → a < b + 3 → ¬ dmL σ a := fun a a0 a1 k => by unfold dmL at k; omega
  have s7 : gI (sI s 46 10 (gI s 46 10 + 1)) 46 7 = gI s 46 7 := by rw [gI_sI, if_neg (by omega)]
  have s6 : gI (mtk (20 + 3 * st + 0) 3 (sI s 46 10 (gI s 46 10 + 1))) 46 6 = gI s 46 6 := by rw [mtk_46, if_neg (by omega), gI_sI, if_neg (by omega)]
  refine hq _ (LR_new hh (n := 3) (c0 := 20 + 3 * st) (by omega) hU (by omega) (Or.inr ⟨rfl, by omega, by omega⟩) nb (fun a => ?_) ?_ ?_ (fun j => ?_) (fun j => ?_) ?_ (fun a => by rw [kc 70 (by decide)]; exact g1 a) (fun a => by rw [kc 71 (by decide)]; exact g2 a) (by rw [qL]) (by omega) (fun i i0 i1 => ?_)) (kj 37 (by omega)) k38 (fun c j hM => ?_)
  · unfold dmL
    rw [k38, kj 37 (by omega)]
    omega
  · rw [k38, kj 36 (by omega), kj 40 (by omega), kj 39 (by omega), mtk_46, mtk_46, mtk_46, mtk_46, if_neg (by omega), if_neg (by omega), if_neg (by omega), if_neg (by omega), gI_sI, gI_sI, gI_sI, gI_sI, if_neg (by omega), if_neg (by omega), if_neg (by omega), if_pos ⟨rfl, rfl⟩]
    exact ⟨h1.1, h1.2.1, by rw [h1.2.2]⟩
  · rw [mtk_46, if_pos rfl, s7]
  · rw [mtk_47, s7, gI_rne (by decide)]
  · rw [mtk_48, s7, gI_rne (by decide), Int.add_zero]
  · rfl
  · rw [s6] at i1
    rw [kc 72 (by decide), kc 73 (by decide), kc 74 (by decide), g3 72 (by decide) (by decide), g3 73 (by decide) (by decide), g3 74 (by decide) (by decide), kj 37 (by omega), mtk_ne (by decide) (by decide) (by decide), mtk_ne (by decide) (by decide) (by decide), mtk_ne (by decide) (by decide) (by decide), gI_rne (by decide), gI_rne (by decide), gI_rne (by decide)]
    obtain ⟨p1, p2, p3⟩ := h6 i i0 i1
    exact ⟨p1, p2, fun j j0 j1 => by rw [if_neg (by omega)]; exact p3 j j0 j1⟩
  · unfold lmM at hM
    refine ⟨?_, by rw [qL], ?_⟩
    · by_cases c53 : c = 53
      · subst c53
        rw [kj j (by omega)]
      · rw [kc c c53, g3 c (by omega) (by omega)]
    · show gD σ1 c j = gD σ c j
      rw [g5]
end LM
