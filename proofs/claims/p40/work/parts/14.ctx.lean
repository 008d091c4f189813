/-! contexts: a function and a key as one number, e = 2353 * f + key -/
def lst (k : Int) : Int := if 49 ≤ k then (k - 49) % 48 else k - 1
def ext (lim k c : Int) : Int := if lim = 0 then 0 else if lim = 1 ∨ k = 0 then 1 + c else 49 + lst k * 48 + c
def isCall (P : Pg) (c : Int) : Prop := 0 ≤ c ∧ (c < tot P ∧ kd P c = 6)
def stepC (P : Pg) (lim e e' : Int) : Prop := ∃ c, isCall P c ∧ (own P c = e / 2353 ∧ e' = nn P c * 2353 + ext lim (e % 2353) c)
/-- the contexts there are -/
def RS (P : Pg) (lim e : Int) : Prop := ∀ X : Int → Prop, X 0 → (∀ a b, X a → stepC P lim a b → X b) → X e
theorem RS_0 (P : Pg) (lim : Int) : RS P lim 0 := fun _ h _ => h
theorem RS_step {P : Pg} {lim a b : Int} (ha : RS P lim a) (h : stepC P lim a b) : RS P lim b := fun X h0 hs => hs a b (ha X h0 hs) h
/-- what a context looks like -/
def VE (P : Pg) (lim e : Int) : Prop := e = 0 ∨ ∃ c, isCall P c ∧ ((lim = 0 ∧ e = nn P c * 2353) ∨ ((lim ≠ 0 ∧ e = nn P c * 2353 + (1 + c)) ∨ (lim ≠ 0 ∧ ∃ l, isCall P l ∧ e = nn P c * 2353 + (49 + l * 48 + c))))
theorem call_rng {P : Pg} (hP : okP P) {c : Int} (h : isCall P c) : (0 ≤ c ∧ c < 48) ∧ (0 ≤ nn P c ∧ nn P c ≤ 3) := by
  have h1 := tot_rng hP.1
  have h2 := (hP.2.1 c h.1 h.2.1).2.1.2.2
  exact ⟨⟨h.1, by have := h.2.1; omega⟩, h2⟩
theorem VE_key {P : Pg} (hP : okP P) {lim e : Int} (h : VE P lim e) : (0 ≤ e ∧ e < 9412) ∧ (e % 2353 = 0 ∨ ((1 ≤ e % 2353 ∧ e % 2353 < 49 ∧ isCall P (e % 2353 - 1)) ∨ (49 ≤ e % 2353 ∧ isCall P ((e % 2353 - 49) / 48) ∧ isCall P ((e % 2353 - 49) % 48)))) := by
  rcases h with rfl | ⟨c, hc, h⟩
  · exact ⟨by omega, Or.inl rfl⟩
  · have h1 := call_rng hP hc
    rcases h with ⟨_, rfl⟩ | ⟨_, rfl⟩ | ⟨_, l, hl, rfl⟩
    · exact ⟨by omega, Or.inl (by omega)⟩
    · refine ⟨by omega, Or.inr (Or.inl ?_)⟩
      rw [show (nn P c * 2353 + (1 + c)) % 2353 = 1 + c by omega]
      exact ⟨by omega, by omega, by rw [show 1 + c - 1 = c by omega]; exact hc⟩
    · have h2 := call_rng hP hl
      refine ⟨by omega, Or.inr (Or.inr ?_)⟩
      rw [show (nn P c * 2353 + (49 + l * 48 + c)) % 2353 = 49 + l * 48 + c by omega]
      refine ⟨by omega, ?_, ?_⟩
      · rw [show (49 + l * 48 + c - 49) / 48 = l by omega]; exact hl
      · rw [show (49 + l * 48 + c - 49) % 48 = c by omega]; exact hc
theorem lst_call {P : Pg} (hP : okP P) {lim e : Int} (h : VE P lim e) (hk : e % 2353 ≠ 0) : isCall P (lst (e % 2353)) := by
  obtain ⟨-, h0 | ⟨h1, h2, h3⟩ | ⟨h1, -, h3⟩⟩ := VE_key hP h
  · exact absurd h0 hk
  · unfold lst; rw [if_neg (by omega)]; exact h3
  · unfold lst; rw [if_pos h1]; exact h3
theorem VE_step {P : Pg} (hP : okP P) {lim a b : Int} (ha : VE P lim a) (h : stepC P lim a b) : VE P lim b := by
  obtain ⟨c, hc, -, rfl⟩ := h
  refine Or.inr ⟨c, hc, ?_⟩
  unfold ext
  by_cases h0 : lim = 0
  · rw [if_pos h0]; exact Or.inl ⟨h0, by omega⟩
  · rw [if_neg h0]
    by_cases h1 : lim = 1 ∨ a % 2353 = 0
    · rw [if_pos h1]; exact Or.inr (Or.inl ⟨h0, rfl⟩)
    · rw [if_neg h1]
      exact Or.inr (Or.inr ⟨h0, lst (a % 2353), lst_call hP ha (fun g => h1 (Or.inr g)), rfl⟩)
theorem RS_VE {P : Pg} (hP : okP P) {lim e : Int} (h : RS P lim e) : VE P lim e := h (VE P lim) (Or.inl rfl) (fun _ _ ha hs => VE_step hP ha hs)
theorem RS_rng {P : Pg} (hP : okP P) {lim e : Int} (h : RS P lim e) : 0 ≤ e ∧ e < 9412 := (VE_key hP (RS_VE hP h)).1
/-- how many calls before a statement -/
def co (P : Pg) (c : Int) : Int := cn (fun m => kd P m == 6) c.toNat
theorem co_lt {P : Pg} {c d : Int} (hc : isCall P c) (h : c < d) : co P c < co P d := by
  unfold co
  have h0 := hc.1
  have e : cn (fun m => kd P m == 6) (c.toNat + 1) = cn (fun m => kd P m == 6) c.toNat + 1 := by
    rw [cn_succ, if_pos]
    have : ((c.toNat : Nat) : Int) = c := by omega
    rw [this, beq_iff_eq]; exact hc.2.2
  have := cn_mono (fun m => kd P m == 6) (m := c.toNat + 1) (n := d.toNat) (by omega)
  omega
theorem co_inj {P : Pg} {c d : Int} (hc : isCall P c) (hd : isCall P d) (h : co P c = co P d) : c = d := by
  rcases Int.lt_trichotomy c d with g | g | g
  · have := co_lt hc g; omega
  · exact g
  · have := co_lt hd g; omega
theorem mny_all6 {P : Pg} (h : okZ P) (q : Int) : mny P q (-1) = cn (fun m => kd P m == q) (tot P).toNat := by
  unfold mny
  apply cn_congr
  intro m h0 h1
  have := tot_rng h
  obtain ⟨h2, -⟩ := own_spec h h0 (by omega)
  have : (own P m != -1) = true := by simp; omega
  rw [this, Bool.true_and]
theorem co_rng {P : Pg} (hP : okP P) {c : Int} (hc : isCall P c) : 0 ≤ co P c ∧ co P c < 5 := by
  have h1 := co_lt hc (d := tot P) hc.2.1
  have h2 : co P (tot P) = mny P 6 (-1) := by rw [mny_all6 hP.1]; rfl
  have h3 := hP.2.2.2
  have h4 := cn_rng (fun m => kd P m == 6) c.toNat
  unfold co at *; omega
def cix (P : Pg) (e : Int) : Int := if e % 2353 = 0 then e / 2353 else if e % 2353 < 49 then 1 + co P (e % 2353 - 1) else 6 + 5 * co P ((e % 2353 - 49) / 48) + co P ((e % 2353 - 49) % 48)
theorem cix_rng {P : Pg} (hP : okP P) {lim e : Int} (h : VE P lim e) : 0 ≤ cix P e ∧ cix P e < 31 := by
  obtain ⟨h0, h1 | ⟨h1, h2, h3⟩ | ⟨h1, h2, h3⟩⟩ := VE_key hP h
  · unfold cix; rw [if_pos h1]; omega
  · have := co_rng hP h3
    unfold cix; rw [if_neg (by omega), if_pos h2]; omega
  · have g2 := co_rng hP h2
    have g3 := co_rng hP h3
    unfold cix; rw [if_neg (by omega), if_neg (by omega)]; omega
/-- a context, by what its key says -/
theorem VE_cases {P : Pg} (hP : okP P) {lim e : Int} (h : VE P lim e) :
    (e % 2353 = 0 ∧ (lim = 0 ∨ e = 0)) ∨ (lim ≠ 0 ∧ e % 2353 ≠ 0 ∧ e / 2353 = nn P (lst (e % 2353))) := by
  rcases h with rfl | ⟨c, hc, h⟩
  · exact Or.inl ⟨rfl, Or.inr rfl⟩
  · have h1 := call_rng hP hc
    rcases h with ⟨h0, rfl⟩ | ⟨h0, rfl⟩ | ⟨h0, l, hl, rfl⟩
    · exact Or.inl ⟨by omega, Or.inl h0⟩
    · refine Or.inr ⟨h0, by omega, ?_⟩
      rw [show (nn P c * 2353 + (1 + c)) % 2353 = 1 + c by omega, show (nn P c * 2353 + (1 + c)) / 2353 = nn P c by omega]
      unfold lst; rw [if_neg (by omega), show 1 + c - 1 = c by omega]
    · have h2 := call_rng hP hl
      have e9 : (nn P c * 2353 + (49 + l * 48 + c)) % 2353 = 49 + l * 48 + c := by omega
      refine Or.inr ⟨h0, by rw [e9]; omega, ?_⟩
      rw [e9, show (nn P c * 2353 + (49 + l * 48 + c)) / 2353 = nn P c by omega]
      unfold lst; rw [if_pos (by omega), show (49 + l * 48 + c - 49) % 48 = c by omega]
theorem cix_inj {P : Pg} (hP : okP P) {lim a b : Int} (ha : VE P lim a) (hb : VE P lim b) (h : cix P a = cix P b) : a = b := by
  have ka := VE_key hP ha
  have kb := VE_key hP hb
  have ca := VE_cases hP ha
  have cb := VE_cases hP hb
  have key : a % 2353 = b % 2353 → a = b := fun g => by
    rcases ca with ⟨h1, h2⟩ | ⟨h1, h2, h3⟩
    · rcases cb with ⟨h4, h5⟩ | ⟨h4, h5, h6⟩
      · unfold cix at h; rw [if_pos h1, if_pos h4] at h; omega
      · omega
    · rcases cb with ⟨h4, h5⟩ | ⟨h4, h5, h6⟩
      · omega
      · rw [g] at h3; omega
  apply key
  obtain ⟨a0, a1 | ⟨a1, a2, a3⟩ | ⟨a1, a2, a3⟩⟩ := ka <;> obtain ⟨b0, b1 | ⟨b1, b2, b3⟩ | ⟨b1, b2, b3⟩⟩ := kb
  · omega
  · have := co_rng hP b3
    rcases ca with ⟨_, h2⟩ | ⟨_, h2, _⟩
    · rcases cb with ⟨h4, _⟩ | ⟨h4, _, _⟩
      · omega
      · unfold cix at h; rw [if_pos a1, if_neg (by omega), if_pos b2] at h; omega
    · omega
  · have := co_rng hP b3
    have := co_rng hP b2
    rcases ca with ⟨_, h2⟩ | ⟨_, h2, _⟩
    · rcases cb with ⟨h4, _⟩ | ⟨h4, _, _⟩
      · omega
      · unfold cix at h; rw [if_pos a1, if_neg (by omega), if_neg (by omega)] at h; omega
    · omega
  · have := co_rng hP a3
    rcases cb with ⟨_, h2⟩ | ⟨_, h2, _⟩
    · rcases ca with ⟨h4, _⟩ | ⟨h4, _, _⟩
      · omega
      · unfold cix at h; rw [if_pos b1, if_neg (by omega), if_pos a2] at h; omega
    · omega
  · unfold cix at h; rw [if_neg (by omega), if_pos a2, if_neg (by omega), if_pos b2] at h
    have := co_inj a3 b3 (by omega)
    omega
  · have g1 := co_rng hP a3
    have g2 := co_rng hP b2
    have g3 := co_rng hP b3
    unfold cix at h; rw [if_neg (by omega), if_pos a2, if_neg (by omega), if_neg (by omega)] at h
    omega
  · have := co_rng hP a3
    have := co_rng hP a2
    rcases cb with ⟨_, h2⟩ | ⟨_, h2, _⟩
    · rcases ca with ⟨h4, _⟩ | ⟨h4, _, _⟩
      · omega
      · unfold cix at h; rw [if_pos b1, if_neg (by omega), if_neg (by omega)] at h; omega
    · omega
  · have g1 := co_rng hP b3
    have g2 := co_rng hP a2
    have g3 := co_rng hP a3
    unfold cix at h; rw [if_neg (by omega), if_neg (by omega), if_neg (by omega), if_pos b2] at h
    omega
  · have g1 := co_rng hP b3
    have g2 := co_rng hP a2
    have g3 := co_rng hP a3
    have g4 := co_rng hP b2
    unfold cix at h; rw [if_neg (by omega), if_neg (by omega), if_neg (by omega), if_neg (by omega)] at h
    have e1 := co_inj a2 b2 (by omega)
    have e2 := co_inj a3 b3 (by omega)
    omega
/-! lists of ints -/
theorem pig : ∀ (n : Nat) (xs : List Int), xs.Nodup → (∀ x ∈ xs, 0 ≤ x ∧ x < n) → xs.length ≤ n
  | 0, [], _, _ => Nat.le_refl 0
  | 0, x :: _, _, h => by have := h x List.mem_cons_self; omega
  | n + 1, xs, hd, h => by
    by_cases hm : (n : Int) ∈ xs
    · have h1 := pig n (xs.erase n) (hd.erase _) (fun x hx => by
        have h2 := (hd.mem_erase_iff).mp hx
        have h3 := h x h2.2
        have : x ≠ (n : Int) := h2.1
        omega)
      rw [List.length_erase_of_mem hm] at h1
      omega
    · have h1 := pig n xs hd (fun x hx => by
        have h3 := h x hx
        have : x ≠ (n : Int) := fun e => hm (e ▸ hx)
        omega)
      omega
theorem cx_len {P : Pg} (hP : okP P) {lim : Int} {xs : List Int} (hd : xs.Nodup) (h : ∀ e ∈ xs, RS P lim e) : xs.length ≤ 31 := by
  have h1 := pig 31 (xs.map (cix P)) (by
    unfold List.Nodup
    rw [List.pairwise_map]
    refine List.Pairwise.imp_of_mem (fun {a b} ha hb hne e => hne (cix_inj hP (RS_VE hP (h a ha)) (RS_VE hP (h b hb)) e)) hd) (fun x hx => by
    obtain ⟨e, he, rfl⟩ := List.mem_map.mp hx
    exact cix_rng hP (RS_VE hP (h e he)))
  rw [List.length_map] at h1
  exact h1
/-- strictly ascending lists with the same members are the same -/
theorem asc_eq : ∀ {xs ys : List Int}, xs.Pairwise (· < ·) → ys.Pairwise (· < ·) → (∀ e, e ∈ xs ↔ e ∈ ys) → xs = ys
  | [], [], _, _, _ => rfl
  | [], y :: ys, _, _, h => absurd ((h y).mpr List.mem_cons_self) (List.not_mem_nil)
  | x :: xs, [], _, _, h => absurd ((h x).mp List.mem_cons_self) (List.not_mem_nil)
  | x :: xs, y :: ys, hx, hy, h => by
    rw [List.pairwise_cons] at hx hy
    have e : x = y := by
      rcases List.mem_cons.mp ((h x).mp List.mem_cons_self) with g | g
      · exact g
      · rcases List.mem_cons.mp ((h y).mpr List.mem_cons_self) with g2 | g2
        · exact g2.symm
        · have := hy.1 x g; have := hx.1 y g2; omega
    subst e
    have : xs = ys := asc_eq hx.2 hy.2 (fun e => by
      constructor
      · intro he
        rcases List.mem_cons.mp ((h e).mp (List.mem_cons_of_mem _ he)) with g | g
        · have := hx.1 e he; omega
        · exact g
      · intro he
        rcases List.mem_cons.mp ((h e).mpr (List.mem_cons_of_mem _ he)) with g | g
        · have := hy.1 e he; omega
        · exact g)
    rw [this]
def isC (P : Pg) (lim : Int) (xs : List Int) : Prop := xs.Pairwise (· < ·) ∧ ∀ e, e ∈ xs ↔ RS P lim e
theorem isC_eq {P : Pg} {lim : Int} {xs ys : List Int} (hx : isC P lim xs) (hy : isC P lim ys) : xs = ys := asc_eq hx.1 hy.1 (fun e => (hx.2 e).trans (hy.2 e).symm)
theorem asc_nd {xs : List Int} (h : xs.Pairwise (· < ·)) : xs.Nodup := List.Pairwise.imp (fun {a b} (g : a < b) e => by omega) h
theorem isC_len {P : Pg} (hP : okP P) {lim : Int} {xs : List Int} (h : isC P lim xs) : xs.length ≤ 31 := cx_len hP (asc_nd h.1) (fun e he => (h.2 e).mp he)
/-- the law's code of a key -/
def cod (k : Int) : Int := if k = 0 then 0 else if k < 49 then 10000 + (k - 1) else 20000 + (k - 49) / 48 * 100 + (k - 49) % 48
theorem cod_0 : cod 0 = 0 := rfl
theorem cod_s {k : Int} (h0 : k ≠ 0) (h1 : k < 49) : cod k = 10000 + (k - 1) := by unfold cod; rw [if_neg h0, if_pos h1]
theorem cod_p {k : Int} (h1 : 49 ≤ k) : cod k = 20000 + (k - 49) / 48 * 100 + (k - 49) % 48 := by unfold cod; rw [if_neg (by omega), if_neg (by omega)]
theorem cod_lt {j k : Int} (h0 : 0 ≤ j) (h1 : j < k) (h2 : k < 2353) : cod j < cod k := by
  by_cases a : j = 0
  · subst a
    rw [cod_0]
    by_cases b : k < 49
    · rw [cod_s (by omega) b]; omega
    · rw [cod_p (by omega)]; omega
  · by_cases b : k < 49
    · rw [cod_s (by omega) b, cod_s a (by omega)]; omega
    · rw [cod_p (k := k) (by omega)]
      by_cases c : j < 49
      · rw [cod_s a c]; omega
      · rw [cod_p (by omega)]; omega
theorem cod_ext {k c lim : Int} (h0 : 0 ≤ k) (h1 : k < 2353) (c0 : 0 ≤ c) (c1 : c < 48) : cod (ext lim k c) = if lim = 0 then 0 else if lim = 1 ∨ cod k = 0 then 10000 + c else 20000 + cod k % 100 * 100 + c := by
  have e0 : cod k = 0 ↔ k = 0 := by
    unfold cod
    by_cases a : k = 0
    · simp [a]
    · rw [if_neg a]; split <;> omega
  unfold ext
  by_cases l0 : lim = 0
  · rw [if_pos l0, if_pos l0]; rfl
  · rw [if_neg l0, if_neg l0]
    by_cases l1 : lim = 1 ∨ k = 0
    · rw [if_pos l1, if_pos (by rw [e0]; exact l1)]
      unfold cod; rw [if_neg (by omega), if_pos (by omega)]; omega
    · rw [if_neg l1, if_neg (by rw [e0]; exact l1)]
      have hk : k ≠ 0 := fun g => l1 (Or.inr g)
      have hl : cod k % 100 = lst k := by
        unfold cod lst
        rw [if_neg hk]
        by_cases b : k < 49
        · rw [if_pos b, if_neg (by omega)]; omega
        · rw [if_neg b, if_pos (by omega)]; omega
      rw [hl]
      have : 0 ≤ lst k ∧ lst k < 48 := by unfold lst; split <;> omega
      rw [show cod (49 + lst k * 48 + c) = 20000 + (49 + lst k * 48 + c - 49) / 48 * 100 + (49 + lst k * 48 + c - 49) % 48 by
        unfold cod; rw [if_neg (by omega), if_neg (by omega)]]
      omega

