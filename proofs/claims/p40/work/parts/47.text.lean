/-! reading a body: in pure terms -/
def vn (c f0 : Int) : Int := if 97 ≤ c ∧ c ≤ 100 then c - 97 else if c = 112 then f0 else if c = 114 then f0 + 1 else if c = 120 then f0 + 2 else if c = 121 then f0 + 3 else -1
abbrev St4 : Type := Int × (Int × (Int × Int))
def pOp (N : Int → Int) (f0 k v p : Int) : Int × Option St4 := if vn (N p) f0 < 0 then (p, none) else (p + 1, some (k, v, vn (N p) f0, 0))
def pCl (N : Int → Int) (f0 v p : Int) : Int × Option St4 :=
  if 48 ≤ N p ∧ N p ≤ 51 then (if N (p + 1) = 40 then (if vn (N (p + 1 + 1)) f0 < 0 then (p + 1 + 1, none) else if N (p + 1 + 1 + 1) = 41 then (p + 1 + 1 + 1 + 1, some (6, v, vn (N (p + 1 + 1)) f0, N p - 48)) else (p + 1 + 1 + 1, none)) else (p + 1, none)) else (p, none)
def pCo (N : Int → Int) (f0 v p : Int) : Int × Option St4 :=
  if vn (N p) f0 < 0 then (p, none) else if N (p + 1) = 43 then (if 48 ≤ N (p + 1 + 1) ∧ N (p + 1 + 1) ≤ 50 then (p + 1 + 1 + 1, some (5, v, vn (N p) f0, N (p + 1 + 1) - 48)) else (p + 1 + 1, none)) else (p + 1, some (1, v, vn (N p) f0, 0))
def pRt (N : Int → Int) (f0 v p : Int) : Int × Option St4 :=
  if N p = 38 then pOp N f0 0 v (p + 1) else if N p = 42 then pOp N f0 2 v (p + 1)
  else if N p = 110 then (if N (p + 1) = 101 then (if N (p + 1 + 1) = 119 then (p + 1 + 1 + 1, some (4, v, 0, 0)) else (p + 1 + 1, none)) else (p + 1, none))
  else if N p = 102 then pCl N f0 v (p + 1) else pCo N f0 v p
def pS (N : Int → Int) (f0 p : Int) : Int × Option St4 :=
  if N p = 42 then (if vn (N (p + 1)) f0 < 0 then (p + 1, none) else if N (p + 1 + 1) = 61 then pOp N f0 3 (vn (N (p + 1)) f0) (p + 1 + 1 + 1) else (p + 1 + 1, none))
  else if vn (N p) f0 < 0 then (p, none) else if N (p + 1) = 61 then pRt N f0 (vn (N p) f0) (p + 1 + 1) else (p + 1, none)
theorem vn_rng {c f0 : Int} (hf : 4 ≤ f0 ∧ f0 ≤ 16) : -1 ≤ vn c f0 ∧ vn c f0 ≤ 19 := by
  unfold vn
  repeat' split
  all_goals omega
theorem vn_m1 {f0 : Int} : vn (-1) f0 = -1 := rfl
/-- what a statement that is read may be -/
def ok4 (s : St4) : Prop := (0 ≤ s.1 ∧ s.1 ≤ 6) ∧ (((0 ≤ s.2.1 ∧ s.2.1 ≤ 19) ∧ ((0 ≤ s.2.2.1 ∧ s.2.2.1 ≤ 19) ∧ (0 ≤ s.2.2.2 ∧ s.2.2.2 ≤ 3))) ∧ (s.1 = 5 → s.2.2.2 ≤ 2))
def txN (len : Int) (N : Int → Int) : Prop := (0 ≤ len ∧ len ≤ 80) ∧ ∀ p, 0 ≤ p → (p < len → 33 ≤ N p ∧ N p ≤ 126) ∧ (len ≤ p → N p = -1)
theorem txN_lt {len : Int} {N : Int → Int} (h : txN len N) {p : Int} (p0 : 0 ≤ p) (hn : N p ≠ -1) : p < len := by
  have := (h.2 p p0).2
  by_cases q : p < len
  · exact q
  · exact absurd (this (by omega)) hn
theorem vn_lt {len f0 : Int} {N : Int → Int} (h : txN len N) {p : Int} (p0 : 0 ≤ p) (hn : ¬ vn (N p) f0 < 0) : p < len := txN_lt h p0 (fun e => hn (by rw [e, vn_m1]; omega))
def goodR (len p : Int) (r : Int × Option St4) : Prop := (p ≤ r.1 ∧ r.1 ≤ len) ∧ ∀ s, r.2 = some s → ok4 s ∧ p + 3 ≤ r.1
theorem pOp_ok {len f0 k v p : Int} {N : Int → Int} (h : txN len N) (hf : 4 ≤ f0 ∧ f0 ≤ 16) (hk : 0 ≤ k ∧ k ≤ 4) (hv : 0 ≤ v ∧ v ≤ 19) (p0 : 0 ≤ p) (p1 : p ≤ len) : (p ≤ (pOp N f0 k v p).1 ∧ (pOp N f0 k v p).1 ≤ len) ∧ ∀ s, (pOp N f0 k v p).2 = some s → ok4 s ∧ p + 1 ≤ (pOp N f0 k v p).1 := by
  have r := vn_rng (c := N p) hf
  unfold pOp
  by_cases q : vn (N p) f0 < 0
  · rw [if_pos q]; exact ⟨⟨Int.le_refl _, p1⟩, fun s e => by cases e⟩
  · rw [if_neg q]
    have := vn_lt h p0 q
    refine ⟨⟨by show p ≤ p + 1; omega, by show p + 1 ≤ len; omega⟩, fun s e => ?_⟩
    cases e
    exact ⟨⟨⟨hk.1, by show k ≤ 6; omega⟩, ⟨hv, ⟨by show 0 ≤ vn (N p) f0; omega, r.2⟩, by show (0 : Int) ≤ 0; omega, by show (0 : Int) ≤ 3; omega⟩, fun e => by have e : k = 5 := e; omega⟩, Int.le_refl _⟩
theorem pS_ok {len f0 p : Int} {N : Int → Int} (h : txN len N) (hf : 4 ≤ f0 ∧ f0 ≤ 16) (p0 : 0 ≤ p) (p1 : p ≤ len) : goodR len p (pS N f0 p) := by
  have r := fun c => vn_rng (c := c) hf
  have non : ∀ a : Int, p ≤ a → a ≤ len → goodR len p (a, none) := fun a a0 a1 => ⟨⟨a0, a1⟩, fun s e => by cases e⟩
  have op : ∀ k v a : Int, 0 ≤ k ∧ k ≤ 4 → 0 ≤ v ∧ v ≤ 19 → p + 2 ≤ a → a ≤ len → goodR len p (pOp N f0 k v a) := fun k v a hk hv a0 a1 => by
    obtain ⟨g1, g2⟩ := pOp_ok h hf hk hv (show 0 ≤ a by omega) a1
    exact ⟨⟨by omega, g1.2⟩, fun s e => ⟨(g2 s e).1, by have := (g2 s e).2; omega⟩⟩
  have sm : ∀ (a k v w n : Int), p + 3 ≤ a → a ≤ len → ok4 (k, v, w, n) → goodR len p (a, some (k, v, w, n)) := fun a k v w n a0 a1 ho => ⟨⟨by show p ≤ a; omega, a1⟩, fun s e => by cases e; exact ⟨ho, a0⟩⟩
  unfold pS
  by_cases a : N p = 42
  · have l0 := txN_lt h p0 (by rw [a]; decide)
    rw [if_pos a]
    by_cases b : vn (N (p + 1)) f0 < 0
    · rw [if_pos b]; exact non _ (by omega) (by omega)
    · rw [if_neg b]
      have l1 := vn_lt h (show 0 ≤ p + 1 by omega) b
      by_cases c : N (p + 1 + 1) = 61
      · rw [if_pos c]
        have l2 := txN_lt h (show 0 ≤ p + 1 + 1 by omega) (by rw [c]; decide)
        exact op 3 _ _ (by omega) ⟨by omega, (r _).2⟩ (by omega) (by omega)
      · rw [if_neg c]; exact non _ (by omega) (by omega)
  · rw [if_neg a]
    by_cases b : vn (N p) f0 < 0
    · rw [if_pos b]; exact non _ (by omega) (by omega)
    · rw [if_neg b]
      have l0 := vn_lt h p0 b
      have hv : 0 ≤ vn (N p) f0 ∧ vn (N p) f0 ≤ 19 := ⟨by omega, (r _).2⟩
      by_cases c : N (p + 1) = 61
      · rw [if_pos c]
        have l1 := txN_lt h (show 0 ≤ p + 1 by omega) (by rw [c]; decide)
        generalize vn (N p) f0 = v at hv
        unfold pRt
        by_cases d0 : N (p + 1 + 1) = 38
        · rw [if_pos d0]
          have l2 := txN_lt h (show 0 ≤ p + 1 + 1 by omega) (by rw [d0]; decide)
          exact op 0 v _ (by omega) hv (by omega) (by omega)
        rw [if_neg d0]
        by_cases d1 : N (p + 1 + 1) = 42
        · rw [if_pos d1]
          have l2 := txN_lt h (show 0 ≤ p + 1 + 1 by omega) (by rw [d1]; decide)
          exact op 2 v _ (by omega) hv (by omega) (by omega)
        rw [if_neg d1]
        by_cases d2 : N (p + 1 + 1) = 110
        · rw [if_pos d2]
          have l2 := txN_lt h (show 0 ≤ p + 1 + 1 by omega) (by rw [d2]; decide)
          by_cases d3 : N (p + 1 + 1 + 1) = 101
          · rw [if_pos d3]
            have l3 := txN_lt h (show 0 ≤ p + 1 + 1 + 1 by omega) (by rw [d3]; decide)
            by_cases d4 : N (p + 1 + 1 + 1 + 1) = 119
            · rw [if_pos d4]
              have l4 := txN_lt h (show 0 ≤ p + 1 + 1 + 1 + 1 by omega) (by rw [d4]; decide)
              exact sm _ _ _ _ _ (by omega) (by omega) ⟨⟨by show (0 : Int) ≤ 4; omega, by show (4 : Int) ≤ 6; omega⟩, ⟨hv, ⟨by show (0 : Int) ≤ 0; omega, by show (0 : Int) ≤ 19; omega⟩, by show (0 : Int) ≤ 0; omega, by show (0 : Int) ≤ 3; omega⟩, fun e => by have e : (4 : Int) = 5 := e; omega⟩
            · rw [if_neg d4]; exact non _ (by omega) (by omega)
          · rw [if_neg d3]; exact non _ (by omega) (by omega)
        rw [if_neg d2]
        by_cases d5 : N (p + 1 + 1) = 102
        · rw [if_pos d5]
          have l2 := txN_lt h (show 0 ≤ p + 1 + 1 by omega) (by rw [d5]; decide)
          unfold pCl
          by_cases d6 : 48 ≤ N (p + 1 + 1 + 1) ∧ N (p + 1 + 1 + 1) ≤ 51
          · rw [if_pos d6]
            have l3 := txN_lt h (show 0 ≤ p + 1 + 1 + 1 by omega) (by omega)
            by_cases d7 : N (p + 1 + 1 + 1 + 1) = 40
            · rw [if_pos d7]
              have l4 := txN_lt h (show 0 ≤ p + 1 + 1 + 1 + 1 by omega) (by rw [d7]; decide)
              by_cases d8 : vn (N (p + 1 + 1 + 1 + 1 + 1)) f0 < 0
              · rw [if_pos d8]; exact non _ (by omega) (by omega)
              · rw [if_neg d8]
                have l5 := vn_lt h (show 0 ≤ p + 1 + 1 + 1 + 1 + 1 by omega) d8
                by_cases d9 : N (p + 1 + 1 + 1 + 1 + 1 + 1) = 41
                · rw [if_pos d9]
                  have l6 := txN_lt h (show 0 ≤ p + 1 + 1 + 1 + 1 + 1 + 1 by omega) (by rw [d9]; decide)
                  exact sm _ _ _ _ _ (by omega) (by omega) ⟨⟨by show (0 : Int) ≤ 6; omega, by show (6 : Int) ≤ 6; omega⟩, ⟨hv, ⟨by show 0 ≤ vn (N (p + 1 + 1 + 1 + 1 + 1)) f0; omega, (r _).2⟩, by show 0 ≤ N (p + 1 + 1 + 1) - 48; omega, by show N (p + 1 + 1 + 1) - 48 ≤ 3; omega⟩, fun e => by have e : (6 : Int) = 5 := e; omega⟩
                · rw [if_neg d9]; exact non _ (by omega) (by omega)
            · rw [if_neg d7]; exact non _ (by omega) (by omega)
          · rw [if_neg d6]; exact non _ (by omega) (by omega)
        rw [if_neg d5]
        unfold pCo
        by_cases d6 : vn (N (p + 1 + 1)) f0 < 0
        · rw [if_pos d6]; exact non _ (by omega) (by omega)
        · rw [if_neg d6]
          have l2 := vn_lt h (show 0 ≤ p + 1 + 1 by omega) d6
          have rw1 := (r (N (p + 1 + 1))).2
          by_cases d7 : N (p + 1 + 1 + 1) = 43
          · rw [if_pos d7]
            have l3 := txN_lt h (show 0 ≤ p + 1 + 1 + 1 by omega) (by rw [d7]; decide)
            by_cases d8 : 48 ≤ N (p + 1 + 1 + 1 + 1) ∧ N (p + 1 + 1 + 1 + 1) ≤ 50
            · rw [if_pos d8]
              have l4 := txN_lt h (show 0 ≤ p + 1 + 1 + 1 + 1 by omega) (by omega)
              exact sm _ _ _ _ _ (by omega) (by omega) ⟨⟨by show (0 : Int) ≤ 5; omega, by show (5 : Int) ≤ 6; omega⟩, ⟨hv, ⟨by show 0 ≤ vn (N (p + 1 + 1)) f0; omega, rw1⟩, by show 0 ≤ N (p + 1 + 1 + 1 + 1) - 48; omega, by show N (p + 1 + 1 + 1 + 1) - 48 ≤ 3; omega⟩, fun _ => by show N (p + 1 + 1 + 1 + 1) - 48 ≤ 2; omega⟩
            · rw [if_neg d8]; exact non _ (by omega) (by omega)
          · rw [if_neg d7]
            exact sm _ _ _ _ _ (by omega) (by omega) ⟨⟨by show (0 : Int) ≤ 1; omega, by show (1 : Int) ≤ 6; omega⟩, ⟨hv, ⟨by show 0 ≤ vn (N (p + 1 + 1)) f0; omega, rw1⟩, by show (0 : Int) ≤ 0; omega, by show (0 : Int) ≤ 3; omega⟩, fun e => by have e : (1 : Int) = 5 := e; omega⟩
      · rw [if_neg c]; exact non _ (by omega) (by omega)
/-- all statements, one behind another: where it stops (-1: at the end), and what was read -/
def pT (N : Int → Int) (f0 len : Int) : Nat → Int → List St4 → Int × List St4
  | 0, p, L => (p, L)
  | d + 1, p, L => match pS N f0 p with
    | (q, none) => (q, L)
    | (q, some s) => if q = len then (-1, L ++ [s]) else if N q = 59 then pT N f0 len d (q + 1) (L ++ [s]) else (q, L ++ [s])
theorem pT_ok {len f0 : Int} {N : Int → Int} (h : txN len N) (hf : 4 ≤ f0 ∧ f0 ≤ 16) : ∀ (d : Nat) (p : Int) (L : List St4), 0 ≤ p → p ≤ len → (∀ s ∈ L, ok4 s) → (-1 ≤ (pT N f0 len d p L).1 ∧ (pT N f0 len d p L).1 ≤ len) ∧ ∀ s ∈ (pT N f0 len d p L).2, ok4 s
  | 0, p, L, p0, p1, hL => ⟨⟨by show -1 ≤ p; omega, p1⟩, hL⟩
  | d + 1, p, L, p0, p1, hL => by
    have hs := pS_ok h hf p0 p1
    unfold pT
    generalize hr : pS N f0 p = r at hs
    obtain ⟨q, o⟩ := r
    obtain ⟨⟨q0, q1⟩, hs⟩ := hs
    have q0 : p ≤ q := q0
    have q1 : q ≤ len := q1
    cases o with
    | none => exact ⟨⟨by show -1 ≤ q; omega, q1⟩, hL⟩
    | some s =>
      have hs := hs s rfl
      have hL2 : ∀ x ∈ L ++ [s], ok4 x := fun x hx => by
        rcases List.mem_append.mp hx with g | g
        · exact hL x g
        · rw [List.mem_singleton.mp g]; exact hs.1
      show (-1 ≤ (if q = len then (-1, L ++ [s]) else if N q = 59 then pT N f0 len d (q + 1) (L ++ [s]) else (q, L ++ [s])).1 ∧ _) ∧ _
      by_cases a : q = len
      · simp only [if_pos a]; exact ⟨⟨Int.le_refl _, by omega⟩, hL2⟩
      · simp only [if_neg a]
        by_cases b : N q = 59
        · simp only [if_pos b]
          exact pT_ok h hf d (q + 1) (L ++ [s]) (by omega) (by omega) hL2
        · simp only [if_neg b]; exact ⟨⟨by omega, q1⟩, hL2⟩
def cq (q : Int) (L : List St4) : Int := ((L.filter (fun s => s.1 == q)).length : Int)
theorem cq_app (q : Int) (L : List St4) (s : St4) : cq q (L ++ [s]) = cq q L + (if s.1 = q then 1 else 0) := by
  unfold cq
  rw [List.filter_append, List.length_append]
  by_cases h : s.1 = q
  · rw [if_pos h]; simp [List.filter_cons, h]
  · rw [if_neg h]; simp [List.filter_cons, h]
theorem cq_rng (q : Int) (L : List St4) : 0 ≤ cq q L ∧ cq q L ≤ L.length := by
  have := List.length_filter_le (fun s : St4 => s.1 == q) L
  unfold cq; omega
def s0 : St4 := (0, 0, 0, 0)
theorem gl_app {L : List St4} {s : St4} {i : Nat} (hi : i < L.length) : (L ++ [s]).getD i s0 = L.getD i s0 := by
  rw [List.getD_eq_getElem?_getD, List.getD_eq_getElem?_getD, List.getElem?_append_left hi]
theorem gl_last {L : List St4} {s : St4} : (L ++ [s]).getD L.length s0 = s := by
  rw [List.getD_eq_getElem?_getD, List.getElem?_append_right (Nat.le_refl _)]
  simp
theorem gl_ok {L : List St4} (h : ∀ s ∈ L, ok4 s) {i : Nat} (hi : i < L.length) : ok4 (L.getD i s0) := by
  rw [List.getD_eq_getElem?_getD, List.getElem?_eq_getElem hi]
  exact h _ (List.getElem_mem hi)

