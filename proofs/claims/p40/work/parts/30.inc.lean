/-! sets of pairs of cells as words -/
def bt (F : Int → BitVec 64) (c u : Int) : Bool := (F (3 * c + u / 64)).getLsbD (u % 64).toNat
theorem cn_or {g g1 g2 : Int → Bool} : ∀ {n : Nat}, (∀ m : Int, 0 ≤ m → m < n → g m = (g1 m || g2 m) ∧ ¬ (g1 m = true ∧ g2 m = true)) → cn g n = cn g1 n + cn g2 n
  | 0, _ => rfl
  | n + 1, h => by
    have ih := cn_or (n := n) (fun m m0 m1 => h m m0 (by omega))
    obtain ⟨h1, h2⟩ := h n (by omega) (by omega)
    rw [cn_succ, cn_succ, cn_succ, ih, h1]
    cases a : g1 n <;> cases b : g2 n
    · simp
    · simp; omega
    · simp; omega
    · exact absurd ⟨a, b⟩ h2
theorem cn_le {g g' : Int → Bool} : ∀ {n : Nat}, (∀ m : Int, 0 ≤ m → m < n → g m = true → g' m = true) → cn g n ≤ cn g' n
  | 0, _ => Int.le_refl _
  | n + 1, h => by
    have ih := cn_le (n := n) (fun m m0 m1 => h m m0 (by omega))
    have h1 := h n (by omega) (by omega)
    rw [cn_succ, cn_succ]
    by_cases c : g n = true
    · rw [if_pos c, if_pos (h1 c)]; omega
    · rw [if_neg c]; split <;> omega
theorem cn_eq {g g' : Int → Bool} : ∀ {n : Nat}, (∀ m : Int, 0 ≤ m → m < n → g m = true → g' m = true) → cn g' n ≤ cn g n → ∀ m : Int, 0 ≤ m → m < n → g' m = true → g m = true
  | 0, _, _, m, m0, m1, _ => by omega
  | n + 1, h, e, m, m0, m1, hm => by
    have h2 := cn_le (n := n) (fun m m0 m1 => h m m0 (by omega))
    have h1 := h n (by omega) (by omega)
    rw [cn_succ, cn_succ] at e
    by_cases c : g n = true
    · rw [if_pos c, if_pos (h1 c)] at e
      by_cases d : m = n
      · rw [d]; exact c
      · exact cn_eq (n := n) (fun m m0 m1 => h m m0 (by omega)) (by omega) m m0 (by omega) hm
    · rw [if_neg c] at e
      by_cases f : g' n = true
      · rw [if_pos f] at e; omega
      · by_cases d : m = n
        · rw [d] at hm; exact absurd hm f
        · rw [if_neg f] at e
          exact cn_eq (n := n) (fun m m0 m1 => h m m0 (by omega)) (by omega) m m0 (by omega) hm
theorem cn_cut {g : Int → Bool} {k : Nat} : ∀ {n : Nat}, k ≤ n → (∀ m : Int, (k : Int) ≤ m → m < n → g m = false) → cn g n = cn g k
  | 0, hk, _ => by rw [show k = 0 by omega]
  | n + 1, hk, h => by
    by_cases c : k = n + 1
    · rw [c]
    · rw [cn_succ, cn_cut (n := n) (by omega) (fun m m0 m1 => h m m0 (by omega)), if_neg (by rw [h n (by omega) (by omega)]; decide), Int.add_zero]
def pw (x : BitVec 64) : Int := cn (fun j => x.getLsbD j.toNat) 64
theorem pw_rng (x : BitVec 64) : 0 ≤ pw x ∧ pw x ≤ 64 := cn_rng _ _
theorem pw_le {x y : BitVec 64} (h : ∀ j : Nat, x.getLsbD j = true → y.getLsbD j = true) : pw x ≤ pw y := cn_le (fun m _ _ g => h m.toNat g)
theorem pw_eq {x y : BitVec 64} (h : ∀ j : Nat, x.getLsbD j = true → y.getLsbD j = true) (e : pw y ≤ pw x) : x = y := by
  apply BitVec.eq_of_getLsbD_eq
  intro i hi
  have := cn_eq (g := fun j => x.getLsbD j.toNat) (g' := fun j => y.getLsbD j.toNat) (n := 64) (fun m _ _ g => h m.toNat g) e i (by omega) (by omega)
  rw [Int.toNat_natCast] at this
  cases a : x.getLsbD i <;> cases b : y.getLsbD i
  · rfl
  · rw [this b] at a; cases a
  · rw [h i a] at b; cases b
  · rfl
theorem pw_or {x y : BitVec 64} (h : ∀ j : Nat, ¬ (x.getLsbD j = true ∧ y.getLsbD j = true)) : pw (x ||| y) = pw x + pw y :=
  cn_or (fun m _ _ => ⟨by rw [BitVec.getLsbD_or], h m.toNat⟩)
def fsum (F : Int → BitVec 64) : Nat → Int
  | 0 => 0
  | n + 1 => fsum F n + pw (F n)
theorem fsum_succ (F : Int → BitVec 64) (n : Nat) : fsum F (n + 1) = fsum F n + pw (F n) := rfl
theorem fsum_congr {F F' : Int → BitVec 64} : ∀ {n : Nat}, (∀ k : Int, 0 ≤ k → k < n → F k = F' k) → fsum F n = fsum F' n
  | 0, _ => rfl
  | n + 1, h => by rw [fsum_succ, fsum_succ, fsum_congr (n := n) (fun k k0 k1 => h k k0 (by omega)), h n (by omega) (by omega)]
theorem fsum_upd {F F' : Int → BitVec 64} {k : Int} : ∀ {n : Nat}, 0 ≤ k → k < n → (∀ j : Int, j ≠ k → F' j = F j) → fsum F' n = fsum F n + (pw (F' k) - pw (F k))
  | 0, k0, k1, _ => by omega
  | n + 1, k0, k1, h => by
    rw [fsum_succ, fsum_succ]
    by_cases c : k = n
    · rw [fsum_congr (F := F') (F' := F) (fun j j0 j1 => h j (by omega)), c]; omega
    · rw [fsum_upd (n := n) k0 (by omega) h, h n (by omega)]; omega
theorem fsum_le {F F' : Int → BitVec 64} : ∀ {n : Nat}, (∀ k : Int, 0 ≤ k → k < n → ∀ j : Nat, (F k).getLsbD j = true → (F' k).getLsbD j = true) → fsum F n ≤ fsum F' n
  | 0, _ => Int.le_refl _
  | n + 1, h => by
    have := fsum_le (n := n) (fun k k0 k1 => h k k0 (by omega))
    have := pw_le (h n (by omega) (by omega))
    rw [fsum_succ, fsum_succ]; omega
theorem fsum_eq {F F' : Int → BitVec 64} : ∀ {n : Nat}, (∀ k : Int, 0 ≤ k → k < n → ∀ j : Nat, (F k).getLsbD j = true → (F' k).getLsbD j = true) → fsum F' n ≤ fsum F n → ∀ k : Int, 0 ≤ k → k < n → F k = F' k
  | 0, _, _, k, k0, k1 => by omega
  | n + 1, h, e, k, k0, k1 => by
    have h1 := fsum_le (n := n) (fun k k0 k1 => h k k0 (by omega))
    have h2 := pw_le (h n (by omega) (by omega))
    rw [fsum_succ, fsum_succ] at e
    by_cases c : k = n
    · rw [c]; exact pw_eq (h n (by omega) (by omega)) (by omega)
    · exact fsum_eq (n := n) (fun k k0 k1 => h k k0 (by omega)) (by omega) k k0 (by omega)
theorem bt_word {F : Int → BitVec 64} {c w : Int} {j : Nat} (hj : j < 64) : bt F c (64 * w + j) = (F (3 * c + w)).getLsbD j := by
  unfold bt
  rw [show (64 * w + (j : Int)) / 64 = w by omega, show ((64 * w + (j : Int)) % 64).toNat = j by omega]
theorem k_split {k : Int} (h0 : 0 ≤ k) (h1 : k < 456) : ∃ c w : Int, (0 ≤ c ∧ c < 152) ∧ (0 ≤ w ∧ w < 3) ∧ k = 3 * c + w := ⟨k / 3, k % 3, by omega, by omega, by omega⟩
/-- words with the same bits -/
theorem bt_words {F F' : Int → BitVec 64} (h : ∀ c u, 0 ≤ c → c < 152 → 0 ≤ u → u < 192 → bt F c u = bt F' c u) {k : Int} (h0 : 0 ≤ k) (h1 : k < 456) : F k = F' k := by
  obtain ⟨c, w, hc, hw, rfl⟩ := k_split h0 h1
  apply BitVec.eq_of_getLsbD_eq
  intro j hj
  have := h c (64 * w + j) hc.1 hc.2 (by omega) (by omega)
  rw [bt_word hj, bt_word hj] at this
  exact this
theorem fsum_bound {F : Int → BitVec 64} (h : ∀ c u, 0 ≤ c → c < 152 → 0 ≤ u → u < 192 → bt F c u = true → u < 152) : ∀ n : Nat, n ≤ 152 → fsum F (3 * n) ≤ 152 * n
  | 0, _ => Int.le_refl _
  | n + 1, hn => by
    have ih := fsum_bound h n (by omega)
    have e : fsum F (3 * (n + 1)) = fsum F (3 * n) + pw (F (3 * n : Nat)) + pw (F ((3 * n + 1 : Nat) : Int)) + pw (F ((3 * n + 2 : Nat) : Int)) := rfl
    have h1 := pw_rng (F (3 * n : Nat))
    have h2 := pw_rng (F ((3 * n + 1 : Nat) : Int))
    have h3 : pw (F ((3 * n + 2 : Nat) : Int)) ≤ 24 := by
      unfold pw
      rw [cn_cut (k := 24) (by omega) (fun m m0 m1 => ?_)]
      · exact (cn_rng _ 24).2
      · have hb := h n (64 * 2 + (m.toNat : Int)) (by omega) (by omega) (by omega) (by omega)
        rw [bt_word (by omega)] at hb
        rw [show ((3 * n + 2 : Nat) : Int) = 3 * (n : Int) + 2 by omega]
        cases g : (F (3 * (n : Int) + 2)).getLsbD m.toNat with
        | false => rfl
        | true => have := hb g; omega
    rw [e]; omega
def fpop (F : Int → BitVec 64) : Int := fsum F 456
theorem fpop_bound {F : Int → BitVec 64} (h : ∀ c u, 0 ≤ c → c < 152 → 0 ≤ u → u < 192 → bt F c u = true → u < 152) : fpop F ≤ 23104 := fsum_bound h 152 (Nat.le_refl _)
theorem fpop_nn (F : Int → BitVec 64) : 0 ≤ fpop F := by
  have : ∀ n, 0 ≤ fsum F n := by
    intro n
    induction n with
    | zero => exact Int.le_refl _
    | succ n ih => rw [fsum_succ]; have := pw_rng (F n); omega
  exact this _
theorem fpop_le {F F' : Int → BitVec 64} (h : ∀ c u, 0 ≤ c → c < 152 → 0 ≤ u → u < 192 → bt F c u = true → bt F' c u = true) : fpop F ≤ fpop F' := by
  refine fsum_le (fun k k0 k1 j hj => ?_)
  obtain ⟨c, w, hc, hw, rfl⟩ := k_split k0 k1
  have hj2 : j < 64 := BitVec.lt_of_getLsbD hj
  have := h c (64 * w + j) hc.1 hc.2 (by omega) (by omega)
  rw [bt_word hj2, bt_word hj2] at this
  exact this hj
theorem fpop_eq {F F' : Int → BitVec 64} (h : ∀ c u, 0 ≤ c → c < 152 → 0 ≤ u → u < 192 → bt F c u = true → bt F' c u = true) (e : fpop F' ≤ fpop F) {k : Int} (k0 : 0 ≤ k) (k1 : k < 456) : F k = F' k := by
  refine fsum_eq (fun k k0 k1 j hj => ?_) e k k0 k1
  obtain ⟨c, w, hc, hw, rfl⟩ := k_split k0 k1
  have hj2 : j < 64 := BitVec.lt_of_getLsbD hj
  have := h c (64 * w + j) hc.1 hc.2 (by omega) (by omega)
  rw [bt_word hj2, bt_word hj2] at this
  exact this hj
/-! cells, codes, what a statement brings -/
abbrev Fa : Type := Int → Int → Prop
def vld (xs : List Int) (c : Int) : Prop := 0 ≤ c ∧ (c < 4 ∨ (4 ≤ c ∧ c < 4 + 4 * (xs.length : Int)) ∨ (128 ≤ c ∧ c < 152))
def clo (x i : Int) : Int := if x < 4 then x else 4 + 4 * i + (x - 4) % 4
def cdf (xs : List Int) (c : Int) : Int := if 128 ≤ c then 20 + c - 128 else if c < 4 then c else 4 + 4 * (la xs ((c - 4) / 4) / 2353) + (c - 4) % 4
def itm (P : Pg) (xs : List Int) (i n : Int) : Prop := (0 ≤ i ∧ i < xs.length) ∧ ((0 ≤ n ∧ n < tot P) ∧ own P n = la xs i / 2353)
/-- the place to which a call leads -/
def plf (P : Pg) (xs : List Int) (lim i n : Int) : Int := cbl xs (nn P n * 2353 + ext lim (la xs i % 2353) n)
def DD (P : Pg) (xs : List Int) (lim : Int) (A : Fa) (i n c u : Int) : Prop :=
  (kd P n = 0 ∧ (c = clo (vv P n) i ∧ u = clo (ww P n) i)) ∨
  ((kd P n = 1 ∧ (c = clo (vv P n) i ∧ A (clo (ww P n) i) u)) ∨
  ((kd P n = 2 ∧ (c = clo (vv P n) i ∧ ∃ x, A (clo (ww P n) i) x ∧ A x u)) ∨
  ((kd P n = 3 ∧ (A (clo (vv P n) i) c ∧ A (clo (ww P n) i) u)) ∨
  ((kd P n = 4 ∧ (c = clo (vv P n) i ∧ u = 128 + 3 * sn P n)) ∨
  ((kd P n = 5 ∧ (c = clo (vv P n) i ∧ ((nn P n = 0 ∧ A (clo (ww P n) i) u) ∨ (nn P n ≠ 0 ∧ ∃ x, A (clo (ww P n) i) x ∧ (128 ≤ x ∧ ((x - 128) % 3 + nn P n ≤ 2 ∧ u = x + nn P n)))))) ∨
  (kd P n = 6 ∧ ((c = 4 + 4 * plf P xs lim i n ∧ A (clo (ww P n) i) u) ∨ (c = clo (vv P n) i ∧ A (4 + 4 * plf P xs lim i n + 1) u))))))))
theorem DD_mono {P : Pg} {xs : List Int} {lim : Int} {A B : Fa} (h : ∀ c u, A c u → B c u) {i n c u : Int} (g : DD P xs lim A i n c u) : DD P xs lim B i n c u := by
  rcases g with g | ⟨g0, g1, g2⟩ | ⟨g0, g1, x, g2, g3⟩ | ⟨g0, g1, g2⟩ | g | ⟨g0, g1, ⟨g2, g3⟩ | ⟨g2, x, g3, g4⟩⟩ | ⟨g0, ⟨g1, g2⟩ | ⟨g1, g2⟩⟩
  · exact Or.inl g
  · exact Or.inr (Or.inl ⟨g0, g1, h _ _ g2⟩)
  · exact Or.inr (Or.inr (Or.inl ⟨g0, g1, x, h _ _ g2, h _ _ g3⟩))
  · exact Or.inr (Or.inr (Or.inr (Or.inl ⟨g0, h _ _ g1, h _ _ g2⟩)))
  · exact Or.inr (Or.inr (Or.inr (Or.inr (Or.inl g))))
  · exact Or.inr (Or.inr (Or.inr (Or.inr (Or.inr (Or.inl ⟨g0, g1, Or.inl ⟨g2, h _ _ g3⟩⟩)))))
  · exact Or.inr (Or.inr (Or.inr (Or.inr (Or.inr (Or.inl ⟨g0, g1, Or.inr ⟨g2, x, h _ _ g3, g4⟩⟩)))))
  · exact Or.inr (Or.inr (Or.inr (Or.inr (Or.inr (Or.inr ⟨g0, Or.inl ⟨g1, h _ _ g2⟩⟩)))))
  · exact Or.inr (Or.inr (Or.inr (Or.inr (Or.inr (Or.inr ⟨g0, Or.inr ⟨g1, h _ _ g2⟩⟩)))))
def okF (xs : List Int) (A : Fa) : Prop := ∀ c u, A c u → vld xs c ∧ vld xs u
theorem clo_vld {xs : List Int} {x i : Int} (hx : 0 ≤ x) (i0 : 0 ≤ i) (i1 : i < xs.length) : vld xs (clo x i) := by
  unfold clo vld
  split
  · exact ⟨hx, Or.inl (by omega)⟩
  · exact ⟨by omega, Or.inr (Or.inl ⟨by omega, by omega⟩)⟩
theorem la_cbl {xs : List Int} (h : xs.Pairwise (· < ·)) {e : Int} (he : e ∈ xs) : (0 ≤ cbl xs e ∧ cbl xs e < xs.length) ∧ la xs (cbl xs e) = e := by
  obtain ⟨j, j0, j1, rfl⟩ := mem_la he
  have h1 := cbl_rng xs (la xs j)
  have e1 : cbl xs (la xs j) = j := by
    have a := cbl_iff h (b := la xs j) j0 j1
    by_cases c : cbl xs (la xs j) < j
    · have b := cbl_iff h (b := la xs j) (i := cbl xs (la xs j)) h1.1 (by omega)
      have := asc_la h h1.1 c j1
      omega
    · omega
  rw [e1]; exact ⟨⟨j0, j1⟩, rfl⟩
/-- where a call leads, there is a context -/
theorem plf_ok {P : Pg} {xs : List Int} {lim i n : Int} (hX : isC P lim xs) (h : itm P xs i n) (hk : kd P n = 6) : (0 ≤ plf P xs lim i n ∧ plf P xs lim i n < xs.length) ∧ la xs (plf P xs lim i n) = nn P n * 2353 + ext lim (la xs i % 2353) n := by
  have hm : la xs i ∈ xs := la_mem h.1.1 h.1.2
  have hs : stepC P lim (la xs i) (nn P n * 2353 + ext lim (la xs i % 2353) n) := ⟨n, ⟨h.2.1.1, h.2.1.2, hk⟩, h.2.2, rfl⟩
  exact la_cbl hX.1 ((hX.2 _).mpr (RS_step ((hX.2 _).mp hm) hs))
theorem sn_lt {P : Pg} (hP : okP P) {n : Int} (n0 : 0 ≤ n) (n1 : n < tot P) (hk : kd P n = 4) : 0 ≤ sn P n ∧ sn P n < 8 := by
  have h1 := sn_succ (P := P) n0
  rw [if_pos hk] at h1
  have h2 := sn_mono (P := P) (show n + 1 ≤ tot P by omega)
  have h3 := mny_all hP.1
  have h4 := hP.2.2.1
  have h5 := (sn_rng (P := P) n0).1
  omega
theorem DD_ok {P : Pg} (hP : okP P) {xs : List Int} {lim : Int} (hX : isC P lim xs) {A : Fa} (hA : okF xs A) {i n c u : Int} (hi : itm P xs i n) (g : DD P xs lim A i n c u) : vld xs c ∧ vld xs u := by
  obtain ⟨-, ⟨hv, hw, hn⟩, -⟩ := hP.2.1 n hi.2.1.1 hi.2.1.2
  have cv := clo_vld (xs := xs) hv.1 hi.1.1 hi.1.2
  have cw := clo_vld (xs := xs) hw.1 hi.1.1 hi.1.2
  have hlen := isC_len hP hX
  rcases g with ⟨g0, g1, g2⟩ | ⟨g0, g1, g2⟩ | ⟨g0, g1, x, g2, g3⟩ | ⟨g0, g1, g2⟩ | ⟨g0, g1, g2⟩ | ⟨g0, g1, ⟨g2, g3⟩ | ⟨g2, x, g3, g4, g5, g6⟩⟩ | ⟨g0, ⟨g1, g2⟩ | ⟨g1, g2⟩⟩
  · rw [g1, g2]; exact ⟨cv, cw⟩
  · rw [g1]; exact ⟨cv, (hA _ _ g2).2⟩
  · rw [g1]; exact ⟨cv, (hA _ _ g3).2⟩
  · exact ⟨(hA _ _ g1).2, (hA _ _ g2).2⟩
  · have := sn_lt hP hi.2.1.1 hi.2.1.2 g0
    rw [g1]; exact ⟨cv, ⟨by omega, Or.inr (Or.inr ⟨by omega, by omega⟩)⟩⟩
  · rw [g1]; exact ⟨cv, (hA _ _ g3).2⟩
  · have hx := (hA _ _ g3).2
    unfold vld at hx
    have hl := hlen
    have q : (x - 128) / 3 ≤ 7 := by omega
    rw [g1]; exact ⟨cv, ⟨by omega, Or.inr (Or.inr ⟨by omega, by omega⟩)⟩⟩
  · have := (plf_ok hX hi g0).1
    rw [g1]; exact ⟨⟨by omega, Or.inr (Or.inl ⟨by omega, by omega⟩)⟩, (hA _ _ g2).2⟩
  · rw [g1]; exact ⟨cv, (hA _ _ g2).2⟩
/-- round by round -/
def Gr (P : Pg) (xs : List Int) (lim : Int) : Nat → Fa
  | 0 => fun _ _ => False
  | j + 1 => fun c u => Gr P xs lim j c u ∨ ∃ i n, itm P xs i n ∧ DD P xs lim (Gr P xs lim j) i n c u
/-- within a round: what is before -/
def GB (P : Pg) (xs : List Int) (lim : Int) (j : Nat) (B : Int → Int → Prop) : Fa := fun c u => Gr P xs lim j c u ∨ ∃ i n, (itm P xs i n ∧ B i n) ∧ DD P xs lim (Gr P xs lim j) i n c u
def lx (i n : Int) : Int → Int → Prop := fun i' n' => i' < i ∨ (i' = i ∧ n' < n)
/-- the least closed set -/
def Lf (P : Pg) (xs : List Int) (lim : Int) : Fa := fun c u => ∀ X : Fa, (∀ i n c u, itm P xs i n → DD P xs lim X i n c u → X c u) → X c u
theorem LF_closed {P : Pg} {xs : List Int} {lim i n c u : Int} (hi : itm P xs i n) (h : DD P xs lim (Lf P xs lim) i n c u) : Lf P xs lim c u := fun X hX =>
  hX i n c u hi (DD_mono (fun c u g => g X hX) h)
theorem LF_least {P : Pg} {xs : List Int} {lim : Int} {X : Fa} (hX : ∀ i n c u, itm P xs i n → DD P xs lim X i n c u → X c u) {c u : Int} (h : Lf P xs lim c u) : X c u := h X hX
theorem Gr_LF {P : Pg} {xs : List Int} {lim : Int} : ∀ (j : Nat) {c u : Int}, Gr P xs lim j c u → Lf P xs lim c u
  | 0, _, _, h => h.elim
  | j + 1, c, u, h => by
    rcases h with h | ⟨i, n, hi, h⟩
    · exact Gr_LF j h
    · exact LF_closed hi (DD_mono (fun c u g => Gr_LF j g) h)
theorem LF_Gr {P : Pg} {xs : List Int} {lim : Int} {j : Nat} (h : ∀ c u, Gr P xs lim (j + 1) c u → Gr P xs lim j c u) {c u : Int} : Lf P xs lim c u ↔ Gr P xs lim j c u :=
  ⟨LF_least (fun i n c u hi g => h c u (Or.inr ⟨i, n, hi, g⟩)), Gr_LF j⟩
theorem Gr_ok {P : Pg} (hP : okP P) {xs : List Int} {lim : Int} (hX : isC P lim xs) : ∀ j, okF xs (Gr P xs lim j)
  | 0 => fun _ _ h => h.elim
  | j + 1 => fun c u h => by
    rcases h with h | ⟨i, n, hi, h⟩
    · exact Gr_ok hP hX j c u h
    · exact DD_ok hP hX (Gr_ok hP hX j) hi h
theorem GB_ok {P : Pg} (hP : okP P) {xs : List Int} {lim : Int} (hX : isC P lim xs) (j : Nat) (B : Int → Int → Prop) : okF xs (GB P xs lim j B) := fun c u h => by
  rcases h with h | ⟨i, n, hi, h⟩
  · exact Gr_ok hP hX j c u h
  · exact DD_ok hP hX (Gr_ok hP hX j) hi.1 h
theorem Lf_okF {P : Pg} (hP : okP P) {xs : List Int} {lim : Int} (hX : isC P lim xs) : okF xs (Lf P xs lim) := fun c u h =>
  LF_least (X := fun c u => Lf P xs lim c u ∧ (vld xs c ∧ vld xs u)) (fun i n c u hi g => ⟨LF_closed hi (DD_mono (fun _ _ k => k.1) g), DD_ok hP hX (A := fun c u => Lf P xs lim c u ∧ (vld xs c ∧ vld xs u)) (fun c u k => k.2) hi g⟩) h |>.2
/-- the pair of codes of some fact -/
def im (xs : List Int) (F : Fa) (a b : Int) : Prop := ∃ c u, F c u ∧ (cdf xs c = a ∧ cdf xs u = b)
theorem im_mono {xs : List Int} {F F' : Fa} (h : ∀ c u, F c u → F' c u) {a b : Int} (g : im xs F a b) : im xs F' a b := by
  obtain ⟨c, u, g1, g2⟩ := g
  exact ⟨c, u, h c u g1, g2⟩
/-- round and statement in which a pair of codes comes -/
def RKp (P : Pg) (xs : List Int) (lim : Int) (a b r s : Int) : Prop := ∃ (j : Nat) (i : Int), r = j + 1 ∧ (itm P xs i s ∧ (¬ im xs (GB P xs lim j (lx i s)) a b ∧ im xs (GB P xs lim j (lx i (s + 1))) a b))
theorem GB_Gr {P : Pg} {xs : List Int} {lim : Int} {j : Nat} {B : Int → Int → Prop} {c u : Int} (h : GB P xs lim j B c u) : Gr P xs lim (j + 1) c u := by
  rcases h with h | ⟨i, n, hi, h⟩
  · exact Or.inl h
  · exact Or.inr ⟨i, n, hi.1, h⟩
theorem Gr_le {P : Pg} {xs : List Int} {lim : Int} {j k : Nat} (hjk : j ≤ k) {c u : Int} (h : Gr P xs lim j c u) : Gr P xs lim k c u := by
  induction hjk with
  | refl => exact h
  | step _ ih => exact Or.inl ih
theorem GB_lx {P : Pg} {xs : List Int} {lim : Int} {j : Nat} {B B' : Int → Int → Prop} (hB : ∀ i n, B i n → B' i n) {c u : Int} (h : GB P xs lim j B c u) : GB P xs lim j B' c u := by
  rcases h with h | ⟨i, n, hi, h⟩
  · exact Or.inl h
  · exact Or.inr ⟨i, n, ⟨hi.1, hB i n hi.2⟩, h⟩
theorem RKp_uniq {P : Pg} {xs : List Int} {lim a b r s r' s' : Int} (h : RKp P xs lim a b r s) (h' : RKp P xs lim a b r' s') : r = r' ∧ s = s' := by
  obtain ⟨j, i, e, h1, h2, h3⟩ := h
  obtain ⟨j', i', e', h1', h2', h3'⟩ := h'
  have key : ∀ (j j' : Nat) (i i' s s' : Int), im xs (GB P xs lim j (lx i (s + 1))) a b → ¬ im xs (GB P xs lim j' (lx i' s')) a b → j' ≤ j ∧ (j' = j → i' ≤ i ∧ (i' = i → s' ≤ s)) := by
    intro j j' i i' s s' g1 g2
    refine ⟨?_, fun ej => ⟨?_, fun ei => ?_⟩⟩
    · rcases Nat.lt_or_ge j j' with q | q
      · exact absurd (im_mono (fun c u k => Or.inl (Gr_le (show j + 1 ≤ j' by omega) (GB_Gr k))) g1) g2
      · exact q
    · subst ej
      by_cases q : i < i'
      · exact absurd (im_mono (fun c u k => GB_lx (fun x y z => by unfold lx at *; omega) k) g1) g2
      · omega
    · subst ej; subst ei
      by_cases q : s < s'
      · exact absurd (im_mono (fun c u k => GB_lx (fun x y z => by unfold lx at *; omega) k) g1) g2
      · omega
  have k1 := key j j' i i' s s' h3 h2'
  have k2 := key j' j i' i s' s h3' h2
  have ej : j = j' := by omega
  have k3 := k1.2 ej.symm
  have k4 := k2.2 ej
  have ei : i = i' := by omega
  have k5 := k3.2 ei.symm
  have k6 := k4.2 ei
  exact ⟨by omega, by omega⟩

