/-! what the pure machine's things are in the real one -/
def cv (α : Nat → Nat) (v : AV) : Value := match v with
  | .inl z => .int (Int32.ofInt z)
  | .inr (.inl b) => .long (Int64.ofBitVec b)
  | .inr (.inr (.inl d)) => .double d
  | .inr (.inr (.inr (.inl d))) => .float d
  | .inr (.inr (.inr (.inr i))) => .ref (α i)
theorem cv_cat (α : Nat → Nat) (v : AV) : (cv α v).category = if c2 v then 2 else 1 := by
  rcases v with z | b | d | d | i <;> rfl
def lvs (α : Nat → Nat) : Nat → Lo → List (Nat × Value)
  | _, [] => []
  | i, none :: r => lvs α (i + 1) r
  | i, some v :: r => (i, cv α v) :: lvs α (i + 1) r
theorem lvs_get {α : Nat → Nat} : ∀ (L : Lo) (i j : Nat) (v : AV), lget L j = some v → (i + j, cv α v) ∈ lvs α i L
  | [], _, _, _, h => by cases h
  | a :: r, i, 0, v, h => by
    have h : a = some v := h
    subst h
    exact List.mem_cons_self
  | a :: r, i, j + 1, v, h => by
    have h1 := lvs_get (α := α) r (i + 1) j v h
    rw [show i + 1 + j = i + (j + 1) by omega] at h1
    cases a with
    | none => exact h1
    | some w => exact List.mem_cons_of_mem _ h1
theorem lvs_le {α : Nat → Nat} : ∀ (L : Lo) (i : Nat) (q : Nat × Value), q ∈ lvs α i L → i ≤ q.1
  | [], _, _, h => by cases h
  | none :: r, i, q, h => Nat.le_of_succ_le (lvs_le (α := α) r (i + 1) q h)
  | some v :: r, i, q, h => by
    rcases List.mem_cons.mp h with rfl | h
    · exact Nat.le_refl _
    · exact Nat.le_of_succ_le (lvs_le (α := α) r (i + 1) q h)
theorem lvs_tail {α : Nat → Nat} {a : Option AV} {r : Lo} {i : Nat} {q : Nat × Value} (h : q ∈ lvs α (i + 1) r) : q ∈ lvs α i (a :: r) := by
  cases a with
  | none => exact h
  | some w => exact List.mem_cons_of_mem _ h
theorem lvs_drop {α : Nat → Nat} {r : Lo} {i : Nat} {q : Nat × Value} (h : q ∈ lvs α i (ldrop r)) : q ∈ lvs α i r ∧ q.1 ≠ i := by
  cases r with
  | nil => cases h
  | cons a r =>
    have h : q ∈ lvs α (i + 1) r := h
    exact ⟨lvs_tail h, fun e => by have := lvs_le _ _ _ h; omega⟩
theorem lset_sub {α : Nat → Nat} (v : AV) : ∀ (L : Lo) (i j : Nat) (q : Nat × Value), q ∈ lvs α j (lset L i v) → q = (j + i, cv α v) ∨ (q ∈ lvs α j L ∧ q.1 ≠ j + i ∧ (c2 v = true → q.1 ≠ j + i + 1) ∧ ¬ (q.1 + 1 = j + i ∧ q.2.category = 2))
  | [], _, _, _, h => by cases h
  | a :: r, 0, j, q, h => by
    rcases List.mem_cons.mp h with rfl | h
    · exact Or.inl rfl
    · cases hc : c2 v with
      | true =>
        rw [if_pos hc] at h
        obtain ⟨h1, h2⟩ := lvs_drop h
        have h3 := lvs_le _ _ _ h1
        exact Or.inr ⟨lvs_tail h1, by omega, fun _ => by omega, by omega⟩
      | false =>
        rw [if_neg (by rw [hc]; decide)] at h
        have h3 := lvs_le _ _ _ h
        exact Or.inr ⟨lvs_tail h, by omega, fun e => (by cases e), by omega⟩
  | a :: r, n + 1, j, q, h => by
    have key : q ∈ lvs α (j + 1) (lset r n v) → q = (j + (n + 1), cv α v) ∨ (q ∈ lvs α j (a :: r) ∧ q.1 ≠ j + (n + 1) ∧ (c2 v = true → q.1 ≠ j + (n + 1) + 1) ∧ ¬ (q.1 + 1 = j + (n + 1) ∧ q.2.category = 2)) := by
      intro h
      rcases lset_sub v r n (j + 1) q h with h1 | ⟨h1, h2, h3, h4⟩
      · exact Or.inl (by rw [h1]; congr 1; omega)
      · exact Or.inr ⟨lvs_tail h1, by omega, fun e => by have := h3 e; omega, by intro e; exact h4 ⟨by omega, e.2⟩⟩
    by_cases hn : n = 0
    · have h : q ∈ lvs α j (lhead a :: lset r n v) := by
        have h' := h
        unfold lset at h'
        rw [if_pos hn] at h'
        exact h'
      cases a with
      | none => exact key h
      | some w =>
        unfold lhead at h
        cases hc : c2 w with
        | true => simp only [hc, if_true] at h; exact key h
        | false =>
          simp only [hc] at h
          rcases List.mem_cons.mp h with rfl | h
          · refine Or.inr ⟨List.mem_cons_self, ?_, fun _ => ?_, fun e => ?_⟩
            · show j ≠ j + (n + 1); omega
            · show j ≠ j + (n + 1) + 1; omega
            · have := e.2
              rw [show ((j, cv α w) : Nat × Value).2 = cv α w from rfl, cv_cat, hc] at this
              cases this
          · exact key h
    · have h : q ∈ lvs α j (a :: lset r n v) := by
        have h' := h
        unfold lset at h'
        rw [if_neg hn] at h'
        exact h'
      cases a with
      | none => exact key h
      | some w =>
        rcases List.mem_cons.mp h with rfl | h
        · refine Or.inr ⟨List.mem_cons_self, ?_, fun _ => ?_, fun e => ?_⟩
          · show j ≠ j + (n + 1); omega
          · show j ≠ j + (n + 1) + 1; omega
          · have := e.1
            have : j + 1 = j + (n + 1) := this
            omega
        · exact key h
theorem lkill_sub {α : Nat → Nat} : ∀ (L : Lo) (i j : Nat) (q : Nat × Value), q ∈ lvs α j (lkill L i) → q ∈ lvs α j L ∧ q.1 ≠ j + i ∧ ¬ (q.1 + 1 = j + i ∧ q.2.category = 2)
  | [], _, _, _, h => by cases h
  | a :: r, 0, j, q, h => by
    have h : q ∈ lvs α (j + 1) r := h
    have h3 := lvs_le _ _ _ h
    exact ⟨lvs_tail h, by omega, by omega⟩
  | a :: r, n + 1, j, q, h => by
    have key : q ∈ lvs α (j + 1) (lkill r n) → q ∈ lvs α j (a :: r) ∧ q.1 ≠ j + (n + 1) ∧ ¬ (q.1 + 1 = j + (n + 1) ∧ q.2.category = 2) := by
      intro h
      obtain ⟨h1, h2, h4⟩ := lkill_sub r n (j + 1) q h
      exact ⟨lvs_tail h1, by omega, by intro e; exact h4 ⟨by omega, e.2⟩⟩
    by_cases hn : n = 0
    · have h : q ∈ lvs α j (lhead a :: lkill r n) := by
        have h' := h
        unfold lkill at h'
        rw [if_pos hn] at h'
        exact h'
      cases a with
      | none => exact key h
      | some w =>
        unfold lhead at h
        cases hc : c2 w with
        | true => simp only [hc, if_true] at h; exact key h
        | false =>
          simp only [hc] at h
          rcases List.mem_cons.mp h with rfl | h
          · refine ⟨List.mem_cons_self, ?_, fun e => ?_⟩
            · show j ≠ j + (n + 1); omega
            · have := e.2
              rw [show ((j, cv α w) : Nat × Value).2 = cv α w from rfl, cv_cat, hc] at this
              cases this
          · exact key h
    · have h : q ∈ lvs α j (a :: lkill r n) := by
        have h' := h
        unfold lkill at h'
        rw [if_neg hn] at h'
        exact h'
      cases a with
      | none => exact key h
      | some w =>
        rcases List.mem_cons.mp h with rfl | h
        · refine ⟨List.mem_cons_self, ?_, fun e => ?_⟩
          · show j ≠ j + (n + 1); omega
          · have := e.1
            have : j + 1 = j + (n + 1) := this
            omega
        · exact key h
/-- the locals behind a store, from the row's list -/
theorem lv_set1 {α : Nat → Nat} {ls : Array Slot} {n i : Nat} {L : Lo} {v : AV} (hc : c2 v = false) (h : lv_has ls n ((i, cv α v) :: (lvs α 0 L).filter (fun q => !(q.1 == i) && !(q.1 + 1 == i && q.2.category == 2)))) : lv_has ls n (lvs α 0 (lset L i v)) := by
  refine ⟨h.1, h.2.1, fun q hq => h.2.2 q ?_⟩
  rcases lset_sub v L i 0 q hq with h1 | ⟨h1, h2, -, h4⟩
  · rw [h1, Nat.zero_add]; exact List.mem_cons_self
  · refine List.mem_cons_of_mem _ (List.mem_filter.mpr ⟨h1, ?_⟩)
    rw [Nat.zero_add] at h2 h4
    simp only [Bool.and_eq_true, Bool.not_eq_true', beq_eq_false_iff_ne, ne_eq, Bool.and_eq_false_iff]
    refine ⟨h2, ?_⟩
    by_cases e : q.1 + 1 = i
    · exact Or.inr fun e2 => h4 ⟨e, e2⟩
    · exact Or.inl e
theorem lv_set2 {α : Nat → Nat} {ls : Array Slot} {n i : Nat} {L : Lo} {v : AV} (hc : c2 v = true) (h : lv_has ls n ((i, cv α v) :: (lvs α 0 L).filter (fun q => !(q.1 == i) && (!(q.1 == i + 1) && !(q.1 + 1 == i && q.2.category == 2))))) : lv_has ls n (lvs α 0 (lset L i v)) := by
  refine ⟨h.1, h.2.1, fun q hq => h.2.2 q ?_⟩
  rcases lset_sub v L i 0 q hq with h1 | ⟨h1, h2, h3, h4⟩
  · rw [h1, Nat.zero_add]; exact List.mem_cons_self
  · refine List.mem_cons_of_mem _ (List.mem_filter.mpr ⟨h1, ?_⟩)
    have h3 := h3 hc
    rw [Nat.zero_add] at h2 h3 h4
    simp only [Bool.and_eq_true, Bool.not_eq_true', beq_eq_false_iff_ne, ne_eq, Bool.and_eq_false_iff]
    refine ⟨h2, h3, ?_⟩
    by_cases e : q.1 + 1 = i
    · exact Or.inr fun e2 => h4 ⟨e, e2⟩
    · exact Or.inl e
theorem lv_get {α : Nat → Nat} {ls : Array Slot} {n i : Nat} {L : Lo} {v : AV} (h : lv_has ls n (lvs α 0 L)) (hg : lget L i = some v) : ls[i]? = some (.val (cv α v)) := by
  have := h.2.2 _ (lvs_get L 0 i v hg)
  rwa [Nat.zero_add] at this
/-- the world of the layout -/
def cE (κ : Nat → ClassId) (α : Nat → Nat) (σ : St) (c : Nat) : va_E :=
  if lc c = 101 then .inl (κ 0, ln c, .inl (fun j => Int32.ofInt (gI σ c (j : Nat))))
  else if lc c = 102 then .inl (κ 1, ln c, .inr (.inl (fun j => Int64.ofBitVec (gL σ c (j : Nat)))))
  else if lc c = 105 then .inl (κ 1, (gI σ c (-1)).toNat, .inr (.inl (fun j => Int64.ofBitVec (gL σ c (j : Nat)))))
  else .inr (lc c, (List.range (nf (lc c))).map (fun k => if fk (lc c) k = 2 then Value.ref (α (rf c k)) else .int (Int32.ofInt (gI σ c (k : Nat)))))
/-- the cell 53 is there where it has a length -/
def nX (z : Int) : Nat := if z = 0 then 53 else 54
theorem nX_ge (z : Int) : 53 ≤ nX z ∧ nX z ≤ 54 := by unfold nX; split <;> omega
def wd (κ : Nat → ClassId) (α : Nat → Nat) (σ : St) : va_W := (List.range (nX (gI σ 53 (-1)))).map (fun c => (α c, cE κ α σ c))
theorem wd_len {κ : Nat → ClassId} {α : Nat → Nat} {σ : St} : (wd κ α σ).length = nX (gI σ 53 (-1)) := by unfold wd; simp
theorem wd_getX {κ : Nat → ClassId} {α : Nat → Nat} {σ : St} {c : Nat} (h : c < nX (gI σ 53 (-1))) : (wd κ α σ)[c]? = some (α c, cE κ α σ c) := by
  unfold wd
  rw [List.getElem?_map, List.getElem?_range h]
  rfl
theorem wd_get {κ : Nat → ClassId} {α : Nat → Nat} {σ : St} {c : Nat} (h : c < 53) : (wd κ α σ)[c]? = some (α c, cE κ α σ c) := wd_getX (Nat.lt_of_lt_of_le h (nX_ge _).1)
theorem wd_set {κ : Nat → ClassId} {α : Nat → Nat} {σ σ' : St} {c : Nat} {e : va_E} (hx : gI σ' 53 (-1) = gI σ 53 (-1)) (he : e = cE κ α σ' c) (ho : ∀ d, d ≠ c → cE κ α σ d = cE κ α σ' d) : (wd κ α σ).set c (α c, e) = wd κ α σ' := by
  apply List.ext_getElem?
  intro k
  have l2 : (wd κ α σ').length = nX (gI σ 53 (-1)) := by rw [wd_len, hx]
  by_cases hk : k < nX (gI σ 53 (-1))
  · rw [List.getElem?_set]
    by_cases hc : c = k
    · subst hc
      rw [if_pos rfl, if_pos (by rw [wd_len]; exact hk), wd_getX (by rw [hx]; exact hk), he]
    · rw [if_neg hc, wd_getX hk, wd_getX (by rw [hx]; exact hk), ho k (fun e => hc e.symm)]
  · have l1 : ((wd κ α σ).set c (α c, e)).length = nX (gI σ 53 (-1)) := by rw [List.length_set, wd_len]
    rw [List.getElem?_eq_none (by omega), List.getElem?_eq_none (by omega)]
theorem gI_sI {σ : St} {c d : Nat} {i j v : Int} : gI (sI σ c i v) d j = if d = c ∧ j = i then v else gI σ d j := rfl
theorem gL_sI {σ : St} {c d : Nat} {i j v : Int} : gL (sI σ c i v) d j = gL σ d j := rfl
theorem gD_sI {σ : St} {c d : Nat} {i j v : Int} : gD (sI σ c i v) d j = gD σ d j := rfl
theorem gI_sL {σ : St} {c d : Nat} {i j : Int} {v : BitVec 64} : gI (sL σ c i v) d j = gI σ d j := rfl
theorem gL_sL {σ : St} {c d : Nat} {i j : Int} {v : BitVec 64} : gL (sL σ c i v) d j = if d = c ∧ j = i then v else gL σ d j := rfl
theorem gD_sL {σ : St} {c d : Nat} {i j : Int} {v : BitVec 64} : gD (sL σ c i v) d j = gD σ d j := rfl
theorem gI_sD {σ : St} {c d : Nat} {i j : Int} {v : UInt64} : gI (sD σ c i v) d j = gI σ d j := rfl
theorem gL_sD {σ : St} {c d : Nat} {i j : Int} {v : UInt64} : gL (sD σ c i v) d j = gL σ d j := rfl
theorem gD_sD {σ : St} {c d : Nat} {i j : Int} {v : UInt64} : gD (sD σ c i v) d j = if d = c ∧ j = i then v else gD σ d j := rfl
theorem cE_sI {κ : Nat → ClassId} {α : Nat → Nat} {σ : St} {c : Nat} {i v : Int} {d : Nat} (h : d ≠ c) : cE κ α σ d = cE κ α (sI σ c i v) d := by
  unfold cE
  simp only [gI_sI, gL_sI, gD_sI, h, false_and, if_false]
theorem cE_sL {κ : Nat → ClassId} {α : Nat → Nat} {σ : St} {c : Nat} {i : Int} {v : BitVec 64} {d : Nat} (h : d ≠ c) : cE κ α σ d = cE κ α (sL σ c i v) d := by
  unfold cE
  simp only [gI_sL, gL_sL, gD_sL, h, false_and, if_false]
theorem cE_sD {κ : Nat → ClassId} {α : Nat → Nat} {σ : St} {c : Nat} {i : Int} {v : UInt64} {d : Nat} (h : d ≠ c) : cE κ α σ d = cE κ α (sD σ c i v) d := by
  unfold cE
  simp only [gI_sD, gL_sD, gD_sD, h, false_and, if_false]
theorem cE_101 {κ : Nat → ClassId} {α : Nat → Nat} {σ : St} {c : Nat} (h : lc c = 101) : cE κ α σ c = .inl (κ 0, ln c, .inl (fun j => Int32.ofInt (gI σ c (j : Nat)))) := if_pos h
theorem cE_102 {κ : Nat → ClassId} {α : Nat → Nat} {σ : St} {c : Nat} (h : lc c = 102) : cE κ α σ c = .inl (κ 1, ln c, .inr (.inl (fun j => Int64.ofBitVec (gL σ c (j : Nat))))) := by
  unfold cE; rw [if_neg (by omega), if_pos h]
theorem cE_105 {κ : Nat → ClassId} {α : Nat → Nat} {σ : St} {c : Nat} (h : lc c = 105) : cE κ α σ c = .inl (κ 1, (gI σ c (-1)).toNat, .inr (.inl (fun j => Int64.ofBitVec (gL σ c (j : Nat))))) := by
  unfold cE; rw [if_neg (by omega), if_neg (by omega), if_pos h]
theorem cE_obj {κ : Nat → ClassId} {α : Nat → Nat} {σ : St} {c : Nat} (h : lc c < 9) : cE κ α σ c = .inr (lc c, (List.range (nf (lc c))).map (fun k => if fk (lc c) k = 2 then Value.ref (α (rf c k)) else .int (Int32.ofInt (gI σ c (k : Nat))))) := by
  unfold cE; rw [if_neg (by omega), if_neg (by omega), if_neg (by omega)]
theorem lc_big {c : Nat} (h : 53 ≤ c) : (c = 53 ∧ lc c = 105) ∨ lc c = 999 := by
  by_cases h2 : c = 53
  · subst h2; exact Or.inl ⟨rfl, rfl⟩
  · right
    unfold lc
    rw [List.getD_eq_getElem?_getD, List.getElem?_eq_none (by have : lcT.length = 54 := by decide +kernel
                                                              omega)]
    rfl
theorem lc_lt {c : Nat} (h : lc c < 105) : c < 53 := by
  rcases Nat.lt_or_ge c 53 with h1 | h1
  · exact h1
  · rcases lc_big h1 with h2 | h2 <;> omega
theorem lc_105 {c : Nat} (h : lc c = 105) : c = 53 := by
  rcases Nat.lt_or_ge c 53 with h1 | h1
  · have : (List.range 53).all (fun c => !decide (lc c = 105)) = true := by decide +kernel
    have := List.all_eq_true.mp this c (List.mem_range.mpr h1)
    simp at this; exact absurd h this
  · rcases lc_big h1 with h2 | h2
    · exact h2.1
    · omega
theorem ln_lt {c : Nat} (h : c < 53) : ln c < 2147483648 := by
  have : (List.range 53).all (fun c => decide (ln c < 2147483648)) = true := by decide +kernel
  exact of_decide_eq_true (List.all_eq_true.mp this c (List.mem_range.mpr h))
theorem upd_conc {f : Int → Int} {g : Nat → Int32} {i v : Int} (hi : 0 ≤ i) (hg : ∀ j : Nat, g j = Int32.ofInt (f j)) : upd g i.toNat (Int32.ofInt v) = fun j : Nat => Int32.ofInt (if (j : Int) = i then v else f j) := by
  funext j
  unfold upd
  by_cases h : j = i.toNat
  · rw [if_pos h, if_pos (by omega)]
  · rw [if_neg h, if_neg (by omega), hg]
