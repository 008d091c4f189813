/-! the law's own small methods: what each answers of the class -/
theorem oI {z : Int} (h : inR z) : (BitVec.ofInt 64 z).toInt = z := by
  rw [BitVec.toInt_ofInt]
  have h1 := h.1
  have h2 := h.2
  exact Int.bmod_eq_of_le (by omega) (by omega)
theorem lCmp_lt {a b : BitVec 64} : lCmp a b < 0 ↔ a.toInt < b.toInt := by
  unfold lCmp
  by_cases h : a = b
  · rw [if_pos h, h]; omega
  · rw [if_neg h]
    have hn : a.toInt ≠ b.toInt := fun k => h (BitVec.eq_of_toInt_eq k)
    have e : b.slt a = decide (b.toInt < a.toInt) := rfl
    rw [e]
    by_cases q : b.toInt < a.toInt
    · rw [if_pos (decide_eq_true q)]; omega
    · rw [if_neg (by rw [decide_eq_false q]; decide)]; omega
theorem lCmp_gt {a b : BitVec 64} : 0 < lCmp a b ↔ b.toInt < a.toInt := by
  unfold lCmp
  by_cases h : a = b
  · rw [if_pos h, h]; omega
  · rw [if_neg h]
    have hn : a.toInt ≠ b.toInt := fun k => h (BitVec.eq_of_toInt_eq k)
    have e : b.slt a = decide (b.toInt < a.toInt) := rfl
    rw [e]
    by_cases q : b.toInt < a.toInt
    · rw [if_pos (decide_eq_true q)]; omega
    · rw [if_neg (by rw [decide_eq_false q]; decide)]; omega
theorem z64 : BitVec.ofNat 64 0 = BitVec.ofInt 64 0 := by decide
theorem o64 : BitVec.ofNat 64 1 = BitVec.ofInt 64 1 := by decide
theorem oI_inj {a b : Int} (ha : inR a) (hb : inR b) : BitVec.ofInt 64 a = BitVec.ofInt 64 b ↔ a = b := ⟨fun h => by rw [← oI ha, ← oI hb, h], fun h => by rw [h]⟩
noncomputable def bL (p : Prop) : BitVec 64 := BitVec.ofInt 64 (b2i (dcl p))
theorem bL_t {p : Prop} (h : p) : bL p = BitVec.ofNat 64 1 := by unfold bL; rw [dcl_t h]; decide
theorem bL_f {p : Prop} (h : ¬ p) : bL p = BitVec.ofNat 64 0 := by unfold bL; rw [dcl_f h]; decide
theorem iW_in (S : Int → Prop) : inR (iW S) := IW_inR (IW_iW S)
section WR
variable {t : Nat} {σ : St} {Q : Res → St → Prop} {P : Pg} {lim : Int} {xs ys : List Int}
theorem tot_in (hP : okP P) : inR (tot P) := by have := tot_rng hP.1; exact ⟨by omega, by omega⟩

theorem k180 (hP : okP P) (h : CI P lim σ) (hq : Q (.inl (some (vL (BitVec.ofInt 64 (tot P))))) σ) : Call t 180 [vR 0] σ Q := by
  rw [x180_0]
  exact c124 h (by show wp _ 180 4 _ [vI _] _ _; rw [x180_4]; exact ⟨tot_in hP, hq⟩)
theorem k181 (hP : okP P) (h : CI P lim σ) {n : Int} (n0 : 0 ≤ n) (n1 : n < tot P) (hq : Q (.inl (some (vL (BitVec.ofInt 64 (kd P n))))) σ) : Call 1 181 [vR 0, vI n] σ Q := by
  have ht := tot_rng hP.1
  have hk := (hP.2.1 n n0 n1).1
  rw [x181_0]
  exact ⟨Nat.le_refl _, c125 (Nat.le_refl _) hP h ⟨by omega, by omega⟩ (fun _ => (by show wp _ 181 5 _ [vI _] _ _; rw [x181_5]; exact ⟨⟨by omega, by omega⟩, hq⟩)) (fun k => absurd ⟨n0, n1⟩ k)⟩
theorem k182 (hP : okP P) (h : CI P lim σ) {n : Int} (n0 : 0 ≤ n) (n1 : n < tot P) (hq : Q (.inl (some (vL (BitVec.ofInt 64 (own P n))))) σ) : Call 1 182 [vR 0, vI n] σ Q := by
  have ht := tot_rng hP.1
  have hk := (own_spec hP.1 n0 n1).1
  rw [x182_0]
  exact ⟨Nat.le_refl _, c126 (Nat.le_refl _) hP h ⟨by omega, by omega⟩ (fun _ => (by show wp _ 182 5 _ [vI _] _ _; rw [x182_5]; exact ⟨⟨by omega, by omega⟩, hq⟩)) (fun k => absurd ⟨n0, n1⟩ k)⟩
theorem k183 (hP : okP P) (h : CI P lim σ) (hq : Q (.inl (some (vL (BitVec.ofInt 64 (mny P 4 (-1)))))) σ) : Call t 183 [vR 0] σ Q := by
  have hm := m8_rng hP
  rw [x183_0]
  exact c127 hP h (by show wp _ 183 4 _ [vI _] _ _; rw [x183_4]; exact ⟨⟨by omega, by omega⟩, hq⟩)
theorem k184 (hlim : inR lim) (h : CI P lim σ) {l : Int} (l0 : 0 ≤ l) (l1 : l ≤ 2) (hq : CI P l (sI (sI σ 5 2 l) 19 8 1) → Q (.inl (some (vL (BitVec.ofInt 64 lim)))) (sI (sI σ 5 2 l) 19 8 1)) : Call 1 184 [vR 0, vI l] σ Q := by
  rw [x184_0]
  exact ⟨Nat.le_refl _, c128 (Nat.le_refl _) h ⟨by omega, by omega⟩ (fun k => absurd ⟨l0, l1⟩ k) (fun _ g => (by show wp _ 184 5 _ [vI _] _ _; rw [x184_5]; exact ⟨hlim, hq g⟩))⟩
theorem k185 (hP : okP P) (hl : 0 ≤ lim ∧ lim ≤ 2) (hC : isC P lim xs) (h : CI P lim σ) {v : Int} (v0 : 0 ≤ v) (v1 : v < 4) (hq : ∀ σ', CI P lim σ' → fr clq σ σ' → Q (.inl (some (vL (BitVec.ofInt 64 (nc xs v))))) σ') : Call 1 185 [vR 0, vI v] σ Q := by
  have hn := nc_rng xs v
  have hlen := isC_len hP hC
  have hcb := cbl_rng xs (v * 2353)
  rw [x185_0]
  exact ⟨Nat.le_refl _, c129 (Nat.le_refl _) hP hl hC h ⟨by omega, by omega⟩ (fun _ σ' a b => (by show wp _ 185 5 _ [vI _] _ _; rw [x185_5]; exact ⟨⟨by omega, by omega⟩, hq σ' a b⟩)) (fun k => absurd ⟨v0, v1⟩ k)⟩
theorem k186 (hP : okP P) (hl : 0 ≤ lim ∧ lim ≤ 2) (hC : isC P lim xs) (h : CI P lim σ) {v : Int} (v0 : 0 ≤ v) (v1 : v < 20) (hq : ∀ σ', CI P lim σ' → fr clq σ σ' → Q (.inl (some (vL (wS (im xs (Lf P xs lim) v))))) σ') : Call 1 186 [vR 0, vI v] σ Q := by
  rw [x186_0]
  exact ⟨Nat.le_refl _, c132 (Nat.le_refl _) hP hl hC h ⟨by omega, by omega⟩ (fun _ σ' a b => (by show wp _ 186 5 _ [vL _] _ _; rw [x186_5]; exact hq σ' a b)) (fun k => absurd ⟨v0, v1⟩ k)⟩
theorem k190 (hP : okP P) (hl : 0 ≤ lim ∧ lim ≤ 2) (hC : isC P lim xs) (h : CI P lim σ) {v : Int} (v0 : 0 ≤ v) (v1 : v < 20) (hq : ∀ σ', CI P lim σ' → fr clq σ σ' → Q (.inl (some (vL (wS (TC (im xs (Lf P xs lim)) v))))) σ') : Call 1 190 [vR 0, vI v] σ Q := by
  rw [x190_0]
  exact ⟨Nat.le_refl _, c137 (Nat.le_refl _) hP hl hC h ⟨by omega, by omega⟩ (fun _ σ' a b => (by show wp _ 190 5 _ [vL _] _ _; rw [x190_5]; exact hq σ' a b)) (fun k => absurd ⟨v0, v1⟩ k)⟩
theorem k195 (hP : okP P) (h : CI P lim σ) {v : Int} (v0 : 0 ≤ v) (v1 : v < 20) (hq : ∀ σ', CI P lim σ' → fr clq σ σ' → Q (.inl (some (vL (wS (ugT P (mny P 4 (-1)) v))))) σ') : Call 1 195 [vR 0, vI v] σ Q := by
  rw [x195_0]
  exact ⟨Nat.le_refl _, c142 (Nat.le_refl _) hP h ⟨by omega, by omega⟩ (fun _ σ' a b => (by show wp _ 195 5 _ [vL _] _ _; rw [x195_5]; exact hq σ' a b)) (fun k => absurd ⟨v0, v1⟩ k)⟩
theorem k198 (hP : okP P) (hl : 0 ≤ lim ∧ lim ≤ 2) (hC : isC P lim xs) (h : CI P lim σ) {v : Int} (v0 : 0 ≤ v) (v1 : v < 4) (hq : ∀ σ', CI P lim σ' → fr clq σ σ' → Q (.inl (some (vL (wS (modS P xs lim v))))) σ') : Call 1 198 [vR 0, vI v] σ Q := by
  rw [x198_0]
  exact ⟨Nat.le_refl _, c145 (Nat.le_refl _) hP hl hC h ⟨by omega, by omega⟩ (fun _ σ' a b => (by show wp _ 198 5 _ [vL _] _ _; rw [x198_5]; exact hq σ' a b)) (fun k => absurd ⟨v0, v1⟩ k)⟩
theorem k200 (hP : okP P) (h : CI P lim σ) {v : Int} (v0 : 0 ≤ v) (v1 : v < 20) (hq : ∀ σ', CI P lim σ' → fr clq σ σ' → Q (.inl (some (vL (BitVec.ofInt 64 (iW (cyS P v)))))) σ') : Call 1 200 [vR 0, vI v] σ Q := by
  rw [x200_0]
  exact ⟨Nat.le_refl _, c148 (Nat.le_refl _) hP h ⟨by omega, by omega⟩ (fun _ σ' a b => (by show wp _ 200 5 _ [vI _] _ _; rw [x200_5]; exact ⟨iW_in _, hq σ' a b⟩)) (fun k => absurd ⟨v0, v1⟩ k)⟩
theorem k187 (hP : okP P) (hl : 0 ≤ lim ∧ lim ≤ 2) (hC : isC P lim xs) (h : CI P lim σ) {s f : Int} (s0 : 0 ≤ s) (s1 : s < mny P 4 (-1)) (f0 : 0 ≤ f) (f1 : f < 3) (hq : ∀ σ', CI P lim σ' → fr clq σ σ' → Q (.inl (some (vL (wS (im xs (Lf P xs lim) (20 + 3 * s + f)))))) σ') : Call 1 187 [vR 0, vI s, vI f] σ Q := by
  have hm := m8_rng hP
  rw [x187_0]
  exact ⟨Nat.le_refl _, c134 (Nat.le_refl _) hP hl hC h ⟨by omega, by omega⟩ ⟨by omega, by omega⟩ (fun _ σ' a b => (by show wp _ 187 6 _ [vL _] _ _; rw [x187_6]; exact hq σ' a b)) (fun k => absurd ⟨⟨s0, s1⟩, ⟨f0, f1⟩⟩ k)⟩
theorem k188 (hP : okP P) (hl : 0 ≤ lim ∧ lim ≤ 2) (hC : isC P lim xs) (h : CI P lim σ) (hn : inR (FN P xs lim)) (hq : ∀ σ', CI P lim σ' → fr clq σ σ' → Q (.inl (some (vL (BitVec.ofInt 64 (FN P xs lim))))) σ') : Call t 188 [vR 0] σ Q := by
  rw [x188_0]
  exact c135 hP hl hC h (fun σ' a b => (by show wp _ 188 4 _ [vI _] _ _; rw [x188_4]; exact ⟨hn, hq σ' a b⟩))
theorem k189 (hP : okP P) (hl : 0 ≤ lim ∧ lim ≤ 2) (hC : isC P lim xs) (h : CI P lim σ) {v w : Int} (v0 : 0 ≤ v ∧ v < 20) (w0 : 0 ≤ w ∧ w < 20) (hq : ∀ σ', CI P lim σ' → fr clq σ σ' → Q (.inl (some (vL (bL (alp P xs lim v w))))) σ') : Call 2 189 [vR 0, vI v, vI w] σ Q := by
  rw [x189_0]
  exact ⟨Nat.le_refl _, c136 (Nat.le_refl _) hP hl hC h ⟨by omega, by omega⟩ ⟨by omega, by omega⟩ (fun _ _ σ' a b => (by
    show wp _ 189 6 _ [vI _] _ _
    rw [x189_6]
    refine ⟨b2i_in _, fun e => ?_, fun e => ?_⟩
    · rw [x189_13, x189_14, ← bL_f (p := alp P xs lim v w) (fun g => by rw [dcl_t g] at e; exact absurd e (by decide))]; exact hq σ' a b
    · rw [x189_9, x189_14, ← bL_t (p := alp P xs lim v w) (Classical.byContradiction (fun g => by rw [dcl_f g] at e; exact e rfl))]; exact hq σ' a b)) (fun k => absurd ⟨v0, w0⟩ k)⟩
theorem k196 (hP : okP P) (h : CI P lim σ) {v w : Int} (v0 : 0 ≤ v ∧ v < 20) (w0 : 0 ≤ w ∧ w < 20) (hq : ∀ σ', CI P lim σ' → fr clq σ σ' → Q (.inl (some (vL (bL (ugE P (v, 0) (w, 0)))))) σ') : Call 2 196 [vR 0, vI v, vI w] σ Q := by
  rw [x196_0]
  exact ⟨Nat.le_refl _, c143 (Nat.le_refl _) hP h ⟨by omega, by omega⟩ ⟨by omega, by omega⟩ (fun _ _ σ' a b => (by
    show wp _ 196 6 _ [vI _] _ _
    rw [x196_6]
    refine ⟨b2i_in _, fun e => ?_, fun e => ?_⟩
    · rw [x196_13, x196_14, ← bL_f (p := ugE P (v, 0) (w, 0)) (fun g => by rw [dcl_t g] at e; exact absurd e (by decide))]; exact hq σ' a b
    · rw [x196_9, x196_14, ← bL_t (p := ugE P (v, 0) (w, 0)) (Classical.byContradiction (fun g => by rw [dcl_f g] at e; exact e rfl))]; exact hq σ' a b)) (fun k => absurd ⟨v0, w0⟩ k)⟩
theorem k199 (hP : okP P) (hl : 0 ≤ lim ∧ lim ≤ 2) (hC : isC P lim xs) (h : CI P lim σ) {v : Int} (v0 : 0 ≤ v) (v1 : v < 4) (hq : ∀ σ', CI P lim σ' → fr clq σ σ' → Q (.inl (some (vL (bL (0 < nc xs v))))) σ') : Call 1 199 [vR 0, vI v] σ Q := by
  rw [x199_0]
  exact ⟨Nat.le_refl _, c146 (Nat.le_refl _) hP hl hC h ⟨by omega, by omega⟩ (fun _ σ' a b => (by
    show wp _ 199 5 _ [vI _] _ _
    rw [x199_5]
    refine ⟨b2i_in _, fun e => ?_, fun e => ?_⟩
    · rw [x199_12, x199_13, ← bL_f (p := 0 < nc xs v) (fun g => by rw [dcl_t g] at e; exact absurd e (by decide))]; exact hq σ' a b
    · rw [x199_8, x199_13, ← bL_t (p := 0 < nc xs v) (Classical.byContradiction (fun g => by rw [dcl_f g] at e; exact e rfl))]; exact hq σ' a b)) (fun k => absurd ⟨v0, v1⟩ k)⟩
theorem k191 (hP : okP P) (hl : 0 ≤ lim ∧ lim ≤ 2) (hC : isC P lim xs) (h : CI P lim σ) (hq : ∀ σ', CI P lim σ' → fr clq σ σ' → Q (.inl (some (vL (BitVec.ofInt 64 (iW (escS P xs lim)))))) σ') : Call t 191 [vR 0] σ Q := by
  rw [x191_0]
  exact c138 hP hl hC h (fun σ' a b => (by show wp _ 191 4 _ [vI _] _ _; rw [x191_4]; exact ⟨iW_in _, hq σ' a b⟩))
theorem k194 (hP : okP P) (hY : isC P 0 ys) (h : CI P lim σ) (hq : ∀ σ' r, RDn P ys 0 r → CI P lim σ' → fr clq σ σ' → Q (.inl (some (vL (BitVec.ofInt 64 r)))) σ') : Call t 194 [vR 0] σ Q := by
  rw [x194_0]
  exact c141 hP hY h (fun σ' r hr a b => (by show wp _ 194 4 _ [vI _] _ _; rw [x194_4]; exact ⟨(by have := RDn_rng hP hY hr; exact ⟨by omega, by omega⟩), hq σ' r hr a b⟩))
theorem k197 (hP : okP P) (h : CI P lim σ) (hq : ∀ σ', CI P lim σ' → fr clq σ σ' → Q (.inl (some (vL (BitVec.ofInt 64 (cn (fun t => dcl (ugF P t)) (20 + mny P 4 (-1)).toNat))))) σ') : Call t 197 [vR 0] σ Q := by
  rw [x197_0]
  exact c144 hP h (fun σ' a b => (by show wp _ 197 4 _ [vI _] _ _; rw [x197_4]; exact ⟨(by have := cn_rng (fun t => dcl (ugF P t)) (20 + mny P 4 (-1)).toNat; have := m8_rng hP; exact ⟨by omega, by omega⟩), hq σ' a b⟩))
theorem k192 (hP : okP P) (hY : isC P 0 ys) (h : CI P lim σ) {v w : Int} (hA : fAsk P v w) (h2 : ¬ im ys (Lf P ys 0) v w → ∀ σ', CI P lim σ' → fr clq σ σ' → Q (.inl (some (vL (BitVec.ofInt 64 (-4000000000000000002))))) σ')
    (h1 : im ys (Lf P ys 0) v w → ∀ σ' r s, RKp P ys 0 v w r s → CI P lim σ' → fr clq σ σ' → Q (.inl (some (vL (BitVec.ofInt 64 r)))) σ') : Call 3 192 [vR 0, vI v, vI w] σ Q := by
  have hm := m8_rng hP
  have hA2 := hA
  unfold fAsk at hA2
  rw [x192_0]
  refine ⟨Nat.le_refl _, c139 (Nat.le_refl _) hP hY h ⟨by omega, by omega⟩ ⟨by omega, by omega⟩ (fun k => absurd hA k) (fun _ k σ' a b => ?_) (fun _ k σ' a g b => ?_)⟩
  · show wp _ 192 14 [some (vR 0), some (vI v), some (vI w), none] [] _ _
    rw [x192_14]; exact h2 k σ' a b
  · have hr := RKp_rng hP hY g
    show wp _ 192 6 _ [vI _] _ _
    rw [x192_6]; exact ⟨⟨by omega, by omega⟩, h1 k σ' _ _ g a b⟩
theorem k193 (hP : okP P) (hY : isC P 0 ys) (h : CI P lim σ) {v w : Int} (hA : fAsk P v w) (h2 : ¬ im ys (Lf P ys 0) v w → ∀ σ', CI P lim σ' → fr clq σ σ' → Q (.inl (some (vL (BitVec.ofInt 64 (-4000000000000000002))))) σ')
    (h1 : im ys (Lf P ys 0) v w → ∀ σ' r s, RKp P ys 0 v w r s → CI P lim σ' → fr clq σ σ' → Q (.inl (some (vL (BitVec.ofInt 64 s)))) σ') : Call 3 193 [vR 0, vI v, vI w] σ Q := by
  have hm := m8_rng hP
  have hA2 := hA
  unfold fAsk at hA2
  rw [x193_0]
  refine ⟨Nat.le_refl _, c140 (Nat.le_refl _) hP hY h ⟨by omega, by omega⟩ ⟨by omega, by omega⟩ (fun k => absurd hA k) (fun _ k σ' a b => ?_) (fun _ k σ' a g b => ?_)⟩
  · show wp _ 193 14 [some (vR 0), some (vI v), some (vI w), none] [] _ _
    rw [x193_14]; exact h2 k σ' a b
  · have hr := RKp_rng hP hY g
    show wp _ 193 6 _ [vI _] _ _
    rw [x193_6]; exact ⟨⟨by omega, by omega⟩, h1 k σ' _ _ g a b⟩
theorem k201 (hP : okP P) (h : CI P lim σ) (hq : ∀ k, (∀ i, i < k → mgo (mit P i (ms0 P σ))) → WFM P (mit P k (ms0 P σ)) → Q (.inl (some (vL (BitVec.ofInt 64 (gI (mit P k (ms0 P σ)) 46 8))))) (mit P k (ms0 P σ))) : Call t 201 [vR 0] σ Q := by
  rw [x201_0]
  exact c149 hP h (fun k _ g w => (by show wp _ 201 4 _ [vI _] _ _; rw [x201_4]; have := w.2.1; exact ⟨⟨by omega, by omega⟩, hq k g w⟩))
theorem k202 {v : Int} (v0 : 0 ≤ v) (v1 : v < 20) (hq : Q (.inl (some (vL (gL σ 49 v)))) σ) : Call 1 202 [vR 0, vI v] σ Q := by
  rw [x202_0]
  exact ⟨Nat.le_refl _, c150 (Nat.le_refl _) ⟨by omega, by omega⟩ (fun _ => (by show wp _ 202 5 _ [vL _] _ _; rw [x202_5]; exact hq)) (fun k => absurd ⟨v0, v1⟩ k)⟩
theorem k203 (hP : okP P) (h : CI P lim σ) {s f : Int} (s0 : 0 ≤ s) (s1 : s < mny P 4 (-1)) (f0 : 0 ≤ f) (f1 : f < 3) (hq : Q (.inl (some (vL (gL σ 49 (20 + 3 * s + f))))) σ) : Call 1 203 [vR 0, vI s, vI f] σ Q := by
  have hm := m8_rng hP
  rw [x203_0]
  exact ⟨Nat.le_refl _, c151 (Nat.le_refl _) hP h ⟨by omega, by omega⟩ ⟨by omega, by omega⟩ (fun _ => (by show wp _ 203 6 _ [vL _] _ _; rw [x203_6]; exact hq)) (fun k => absurd ⟨⟨s0, s1⟩, ⟨f0, f1⟩⟩ k)⟩
theorem k204 (hi : inR (gI σ 46 9)) (hq : Q (.inl (some (vL (BitVec.ofInt 64 (gI σ 46 9))))) σ) : Call t 204 [vR 0] σ Q := by
  rw [x204_0]
  exact c152 (by show wp _ 204 4 _ [vI _] _ _; rw [x204_4]; exact ⟨hi, hq⟩)
theorem k205 (hi : inR (gI σ 46 10)) (hq : Q (.inl (some (vL (BitVec.ofInt 64 (gI σ 46 10))))) σ) : Call t 205 [vR 0] σ Q := by
  rw [x205_0]
  exact c153 (by show wp _ 205 4 _ [vI _] _ _; rw [x205_4]; exact ⟨hi, hq⟩)
theorem dcmp_self {x : UInt64} (h : n64 x) : (Op.cmpValue (FP.dcmp x x) .l).toInt = 0 := by rw [dcmp_eq h]; rfl
theorem k177 {d : UInt64} (h : n64 d) (hq : Q (.inl (some (vL d.toBitVec))) σ) : Call t 177 [vD d] σ Q := by
  rw [x177_0, x176_0, dcmp_self h]
  refine ⟨by decide, fun _ => ?_, fun k => absurd rfl k⟩
  rw [x176_10, x176_11]
  refine ⟨Or.inl rfl, ?_⟩
  show wp _ 177 4 _ [vI 0] _ _
  rw [x177_4]
  refine ⟨by decide, fun _ => ?_, fun k => absurd rfl k⟩
  rw [x177_7, x177_11]; exact hq
theorem k206 (hP : okP P) (hl : 0 ≤ lim ∧ lim ≤ 2) (hC : isC P lim xs) (h : CI P lim σ) (h0 : sm (unN P) 20 = 0 → ∀ σ', CI P lim σ' → fr clq σ σ' → Q (.inl (some (vL (BitVec.ofInt 64 (-4000000000000000001))))) σ')
    (h1 : sm (unN P) 20 ≠ 0 → ∀ σ', CI P lim σ' → fr clq σ σ' → Q (.inl (some (vL (UInt64.toBitVec (FP.ddiv (dbl (sm (ptN P xs lim) 20)) (dbl (sm (unN P) 20))))))) σ') : Call 1 206 [vR 0] σ Q := by
  have rA := sm_rng (ptN_rng P xs lim) 20
  have rB := sm_rng (unN_rng P) 20
  rw [x206_0]
  refine ⟨Nat.le_refl _, c154 (Nat.le_refl _) hP hl hC h (fun k σ' a b => ?_) (fun k σ' a b => ?_)⟩
  · show wp _ 206 9 [some (vR 0), none] [] _ _
    rw [x206_9]; exact h0 k σ' a b
  · show wp _ 206 4 _ [vD _] _ _
    rw [x206_4]
    refine ⟨Nat.zero_le _, k177 (n64_div rA.1 (by omega) (by omega) (by omega)) ?_⟩
    show wp _ 206 7 _ [vL _] _ _
    rw [x206_7]; exact h1 k σ' a b
theorem k207 (hP : okP P) (h : CI P lim σ) (hq : ∀ σ', RB 12 σ' P → gI σ' 12 2 = lim → gI σ' 0 10 = 1 → CI P lim σ' → fr (fun c j => (12 ≤ c ∧ c ≤ 18) ∨ (c = 0 ∧ j = 10)) σ σ' → Q (.inl (some (vL (BitVec.ofNat 64 0)))) σ') : Call t 207 [vR 0] σ Q := by
  rw [x207_0]
  refine c156 hP h (fun σ' a b c d e => ?_)
  show wp _ 207 4 _ [] _ _
  rw [x207_4]; exact hq σ' a b c d e
theorem k208 {PS : Pg} {lS : Int} (hPS : okP PS) (h : CI P lim σ) (h10 : gI σ 0 10 = 1) (hS : RB 12 σ PS ∧ gI σ 12 2 = lS) (hq : ∀ σ', CI PS lS σ' → (∀ a, 0 ≤ a → a < 44 → gL σ' 49 a = BitVec.ofNat 64 0) → gI σ' 46 9 = 0 → gI σ' 46 10 = 0 → fr (fun c j => fgM c j ∨ (5 ≤ c ∧ c ≤ 11)) σ σ' → Q (.inl (some (vL (BitVec.ofNat 64 0)))) σ') : Call 1 208 [vR 0] σ Q := by
  rw [x208_0]
  refine ⟨Nat.le_refl _, c157 (Nat.le_refl _) hPS h (Or.inr h10) (fun _ => hS) (fun k => by omega) (fun _ σ' a b c d e => ?_)⟩
  show wp _ 208 4 _ [] _ _
  rw [x208_4]; exact hq σ' a b c d e
end WR
