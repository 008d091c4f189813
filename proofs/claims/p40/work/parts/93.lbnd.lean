/-! bounds -/
theorem ones (j : Nat) (hj : j < 64) : (BitVec.ofInt 64 (-1)).getLsbD j = true := by
  rw [show BitVec.ofInt 64 (-1) = BitVec.allOnes 64 by decide, BitVec.getLsbD_allOnes, decide_eq_true hj]
theorem sub0 {a b : BitVec 64} (h : ∀ j : Nat, j < 64 → a.getLsbD j = true → b.getLsbD j = true) : lCmp (a &&& (b ^^^ BitVec.ofInt 64 (-1))) (BitVec.ofNat 64 0) = 0 := by
  rw [lCmp_eq]
  apply BitVec.eq_of_getLsbD_eq
  intro j hj
  rw [BitVec.getLsbD_and, BitVec.getLsbD_xor, ones j hj]
  have z' : (BitVec.ofNat 64 0).getLsbD j = false := by simp
  rw [z']
  cases k : a.getLsbD j with
  | false => rfl
  | true => rw [h j hj k]; rfl
theorem bL_congr {p q : Prop} (h : p ↔ q) : bL p = bL q := by rw [propext h]
theorem alp_symm {P : Pg} {xs : List Int} {lim v w : Int} : alp P xs lim v w ↔ alp P xs lim w v := ⟨fun ⟨t, a, b, c⟩ => ⟨t, a, c, b⟩, fun ⟨t, a, b, c⟩ => ⟨t, a, c, b⟩⟩
theorem alp_and {P : Pg} {xs : List Int} {lim v w : Int} : lCmp (wS (im xs (Lf P xs lim) v) &&& wS (im xs (Lf P xs lim) w)) (BitVec.ofNat 64 0) = 0 ↔ ¬ alp P xs lim v w := by
  rw [lCmp_eq]
  constructor
  · rintro e ⟨t, ht, h1, h2⟩
    have h3 := (SW_wS _ t ht).mpr h1
    have h4 := (SW_wS _ t ht).mpr h2
    have : (wS (im xs (Lf P xs lim) v) &&& wS (im xs (Lf P xs lim) w)).getLsbD t = true := by rw [BitVec.getLsbD_and, h3, h4]; rfl
    rw [e] at this
    simp at this
  · intro h
    apply BitVec.eq_of_getLsbD_eq
    intro j hj
    have z' : (BitVec.ofNat 64 0).getLsbD j = false := by simp
    rw [z', BitVec.getLsbD_and]
    cases k : (wS (im xs (Lf P xs lim) v)).getLsbD j with
    | false => rfl
    | true =>
      cases k2 : (wS (im xs (Lf P xs lim) w)).getLsbD j with
      | false => rfl
      | true => exact absurd ⟨j, hj, (SW_wS _ j hj).mp k, (SW_wS _ j hj).mp k2⟩ h
theorem s3 {k : Int} (k0 : 0 ≤ k) (k1 : k ≤ 8) : (BitVec.ofInt 64 3 * BitVec.ofInt 64 k).toInt = 3 * k := by
  rcases (show k = 0 ∨ k = 1 ∨ k = 2 ∨ k = 3 ∨ k = 4 ∨ k = 5 ∨ k = 6 ∨ k = 7 ∨ k = 8 by omega) with rfl | rfl | rfl | rfl | rfl | rfl | rfl | rfl | rfl <;> decide
theorem oI_add {a b : Int} : BitVec.ofInt 64 a + BitVec.ofInt 64 b = BitVec.ofInt 64 (a + b) := (BitVec.ofInt_add a b).symm
theorem bd_t {R d t : Nat} (h : R + 4600 * (d + 1) ≤ t) : (R + 4600 * d) + 4500 ≤ t - 1 := by
  rw [Nat.mul_succ, ← Nat.add_assoc] at h
  refine Nat.le_sub_of_add_le (Nat.le_trans ?_ h)
  rw [Nat.add_assoc]
  exact Nat.add_le_add_left (Nat.le_of_ble_eq_true rfl) _
section LB
variable {t : Nat} {σ : St} {Q : Res → St → Prop} {P : Pg} {lim : Int} {xs : List Int}
/-- what was observed is told by each limit -/
def OBS (P : Pg) (σ : St) : Prop := ∀ (l : Int) (zs : List Int), isC P l zs → ∀ j, 0 ≤ j → j < 44 → ∀ t : Nat, t < 64 → (gL σ 49 j).getLsbD t = true → im zs (Lf P zs l) j t
theorem OBS_fr {M : Nat → Int → Prop} {σ' : St} (h : OBS P σ) (g : fr M σ σ') (hM : ∀ j, ¬ M 49 j) : OBS P σ' := fun l zs hz j j0 j1 t ht hb => h l zs hz j j0 j1 t ht (by rw [fr_L g 49 j (hM j)] at hb; exact hb)
/-- what stands in the row: the sets of this limit below v, those of the limit before from v on -/
def bdR (P : Pg) (l : Int) (xs : List Int) (v : Int) (σ : St) : Prop := gI σ 53 (-1) = 20 ∧ ((∀ w, 0 ≤ w → w < v → gL σ 53 w = wS (im xs (Lf P xs l) w)) ∧
  ∀ w, v ≤ w → w < 20 → ∀ t : Nat, t < 64 → im xs (Lf P xs l) w t → (gL σ 53 w).getLsbD t = true)
theorem bdR_fr {l v : Int} {σ' : St} (h : bdR P l xs v σ) (g : fr clq σ σ') : bdR P l xs v σ' := by
  unfold bdR
  rw [fr_I g 53 (-1) (by unfold clq; omega)]
  refine ⟨h.1, fun w w0 w1 => ?_, fun w w0 w1 => ?_⟩
  · rw [fr_L g 53 w (by unfold clq; omega)]; exact h.2.1 w w0 w1
  · rw [fr_L g 53 w (by unfold clq; omega)]; exact h.2.2 w w0 w1
def bdM : Nat → Int → Prop := fun c j => clq c j ∨ ((c = 53 ∧ 0 ≤ j) ∨ (c = 5 ∧ j = 2))
theorem bdM_c {σ0 σa σb : St} (ga : fr bdM σ0 σa) (gb : fr clq σa σb) : fr bdM σ0 σb := fr_trans ga (fr_mono gb (fun c j k => Or.inl k))
/-- what holds within a limit -/
def bdS (P : Pg) (l : Int) (xs : List Int) (v : Int) (σ0 σ : St) : Prop := CI P l σ ∧ (OBS P σ ∧ (bdR P l xs v σ ∧ fr bdM σ0 σ))
theorem bdS_q {l v : Int} {σ0 σ' : St} (h : bdS P l xs v σ0 σ) (hc : CI P l σ') (g : fr clq σ σ') : bdS P l xs v σ0 σ' := ⟨hc, OBS_fr h.2.1 g (fun j => by unfold clq; omega), bdR_fr h.2.2.1 g, bdM_c h.2.2.2 g⟩
/-- pairs of variables -/
theorem bd3 (hP : okP P) (hl : 0 ≤ lim ∧ lim ≤ 2) (hC : isC P lim xs) {σ0 : St} {R : Nat} {v nv : Int} (v0 : 0 ≤ v) (v1 : v < 20) {l3 : BitVec 64} {a4 : Option AV} (hk : ∀ (t : Nat) (σ' : St) (a6 a7 a8 : Option AV), R ≤ t → bdS P lim xs nv σ0 σ' → wp t 210 248 [some (vR 0), some (vR 53), some (vI lim), some (vL l3), a4, some (vI v), a6, a7, a8] [] σ' Q) :
    ∀ (d : Nat) (w : Int) (t : Nat) (σ1 : St) (a7 : Option AV), 0 ≤ w → w + d = v → R + 11 * d ≤ t → bdS P lim xs nv σ0 σ1 → wp t 210 153 [some (vR 0), some (vR 53), some (vI lim), some (vL l3), a4, some (vI v), some (vL (wS (im xs (Lf P xs lim) v))), a7, some (vI w)] [] σ1 Q
  | 0, w, t, σ1, a7, w0, hd, ht, h => by
    rw [x210_153]
    exact ⟨⟨⟨by omega, by omega⟩, ⟨by omega, by omega⟩⟩, fun k => absurd k (by omega), fun _ => hk t σ1 _ _ _ (by omega) h⟩
  | d + 1, w, t, σ1, a7, w0, hd, ht, h => by
    have w1 : w < 20 := by omega
    rw [x210_153]
    refine ⟨⟨⟨by omega, by omega⟩, ⟨by omega, by omega⟩⟩, fun _ => ?_, fun k => absurd (show w < v by omega) k⟩
    rw [x210_160]
    refine ⟨by omega, k189 hP hl hC h.1 ⟨v0, v1⟩ ⟨w0, w1⟩ (fun σ2 c2 f2 => ?_)⟩
    have h2 := bdS_q h c2 f2
    show wp _ 210 168 _ [vL _] _ _
    rw [x210_168]
    refine ⟨by omega, k189 hP hl hC c2 ⟨w0, w1⟩ ⟨v0, v1⟩ (fun σ3 c3 f3 => ?_)⟩
    have h3 := bdS_q h2 c3 f3
    show wp _ 210 176 _ [vL _, vL _] _ _
    rw [x210_176]
    refine ⟨lCmp_in, fun _ => ?_, fun k => absurd (lCmp_eq.mpr (bL_congr alp_symm)) k⟩
    rw [x210_180]
    refine ⟨by omega, k189 hP hl hC c3 ⟨v0, v1⟩ ⟨w0, w1⟩ (fun σ4 c4 f4 => ?_)⟩
    have h4 := bdS_q h3 c4 f4
    show wp _ 210 188 _ [vL _] _ _
    rw [x210_188]
    refine ⟨by omega, k186 hP hl hC c4 w0 w1 (fun σ5 c5 f5 => ?_)⟩
    have h5 := bdS_q h4 c5 f5
    have p211 : wp (t - 2 - 2 - 2 - 1) 210 211 [some (vR 0), some (vR 53), some (vI lim), some (vL l3), a4, some (vI v), some (vL (wS (im xs (Lf P xs lim) v))), a7, some (vI w)] [] σ5 Q := by
      rw [x210_211]
      refine ⟨by omega, k196 hP c5 ⟨v0, v1⟩ ⟨w0, w1⟩ (fun σ6 c6 f6 => ?_)⟩
      have h6 := bdS_q h5 c6 f6
      show wp _ 210 219 _ [vL _] _ _
      rw [x210_219]
      refine ⟨lCmp_in, fun k => ?_, fun _ => ?_⟩
      · have hu : ugE P (v, 0) (w, 0) := Classical.byContradiction (fun n => by rw [bL_f n, lCmp_eq] at k; exact absurd k (by decide))
        rw [x210_224]
        refine ⟨by omega, k195 hP c6 v0 v1 (fun σ7 c7 f7 => ?_)⟩
        have h7 := bdS_q h6 c7 f7
        show wp _ 210 230 _ [vL _] _ _
        rw [x210_230]
        refine ⟨by omega, k195 hP c7 w0 w1 (fun σ8 c8 f8 => ?_)⟩
        have h8 := bdS_q h7 c8 f8
        show wp _ 210 236 _ [vL _, vL _] _ _
        rw [x210_236]
        refine ⟨lCmp_in, fun _ => ?_, fun k => absurd (lCmp_eq.mpr (wS_congr (fun t _ => ugT_congr hu))) k⟩
        rw [x210_242]
        exact bd3 hP hl hC v0 v1 hk d (w + 1) _ σ8 _ (by omega) (by omega) (by omega) h8
      · rw [x210_242]
        exact bd3 hP hl hC v0 v1 hk d (w + 1) _ σ6 _ (by omega) (by omega) (by omega) h6
    show wp _ 210 196 _ [vL _, vL _, vL _] _ _
    rw [x210_196]
    refine ⟨lCmp_in, fun k => ?_, fun k => ?_⟩
    · have hn := alp_and.mp k
      rw [x210_206, bL_f hn, x210_207]
      exact ⟨lCmp_in, fun _ => p211, fun k => absurd (lCmp_eq.mpr rfl) k⟩
    · have hy : alp P xs lim v w := Classical.byContradiction (fun n => k (alp_and.mpr n))
      rw [x210_202, bL_t hy, x210_207]
      exact ⟨lCmp_in, fun _ => p211, fun k => absurd (lCmp_eq.mpr rfl) k⟩
/-- the variables of one limit -/
theorem bd2 (hP : okP P) (hO : okO P) (hl : 0 ≤ lim ∧ lim ≤ 2) (hC : isC P lim xs) {σ0 : St} {R : Nat} (hk : ∀ (t : Nat) (σ' : St) (a4 a5 a6 a7 a8 : Option AV), R ≤ t → bdS P lim xs 20 σ0 σ' → wp t 210 254 [some (vR 0), some (vR 53), some (vI lim), some (vL (BitVec.ofInt 64 (sm (ptN P xs lim) 20))), a4, a5, a6, a7, a8] [] σ' Q) :
    ∀ (d : Nat) (n : Nat) (t : Nat) (σ1 : St) (a4 a6 a7 a8 : Option AV), n + d = 20 → R + 220 * d ≤ t → bdS P lim xs n σ0 σ1 → wp t 210 48 [some (vR 0), some (vR 53), some (vI lim), some (vL (BitVec.ofInt 64 (sm (ptN P xs lim) n))), a4, some (vI n), a6, a7, a8] [] σ1 Q
  | 0, n, t, σ1, a4, a6, a7, a8, hd, ht, h => by
    have e : n = 20 := by omega
    subst e
    rw [x210_48]
    exact ⟨⟨by omega, by omega⟩, fun k => absurd k (by omega), fun _ => hk t σ1 _ _ _ _ _ (by omega) h⟩
  | d + 1, n, t, σ1, a4, a6, a7, a8, hd, ht, h => by
    have v0 : (0 : Int) ≤ n := by omega
    have v1 : (n : Int) < 20 := by omega
    rw [x210_48]
    refine ⟨⟨by omega, by omega⟩, fun _ => ?_, fun k => absurd v1 k⟩
    rw [x210_55]
    refine ⟨by omega, k186 hP hl hC h.1 v0 v1 (fun σ2 c2 f2 => ?_)⟩
    have h2 := bdS_q h c2 f2
    show wp _ 210 61 _ [vL _] _ _
    rw [x210_61]
    refine ⟨by omega, k202 v0 v1 ?_⟩
    show wp _ 210 69 _ [vL _] _ _
    rw [x210_69]
    refine ⟨lCmp_in, fun _ => ?_, fun k => absurd (sub0 (fun j hj hb => (SW_wS _ j hj).mpr (h2.2.1 lim xs hC _ v0 (by omega) j hj hb))) k⟩
    rw [x210_81]
    refine ⟨⟨v0, by rw [h2.2.2.1.1]; exact v1⟩, lCmp_in, fun _ => ?_, fun k => absurd (sub0 (fun j hj hb => h2.2.2.1.2.2 _ (Int.le_refl _) v1 j hj ((SW_wS _ j hj).mp hb))) k⟩
    rw [x210_97]
    refine ⟨by omega, k195 hP c2 v0 v1 (fun σ3 c3 f3 => ?_)⟩
    have h3 := bdS_q h2 c3 f3
    show wp _ 210 105 _ [vL _, vL _] _ _
    rw [x210_105]
    refine ⟨lCmp_in, fun _ => ?_, fun k => absurd (sub0 (fun j hj hb => (SW_wS _ j hj).mpr (im_ugT hP hO hC v1 ((SW_wS _ j hj).mp hb)))) k⟩
    rw [x210_115]
    refine ⟨by omega, k190 hP hl hC c3 v0 v1 (fun σ4 c4 f4 => ?_)⟩
    have h4 := bdS_q h3 c4 f4
    show wp _ 210 123 _ [vL _, vL _] _ _
    rw [x210_123]
    refine ⟨lCmp_in, fun _ => ?_, fun k => absurd (sub0 (fun j hj hb => (SW_wS _ j hj).mpr (TC_base ((SW_wS _ j hj).mp hb)))) k⟩
    rw [x210_135]
    have f5 : fr (fun c j => c = 53 ∧ 0 ≤ j) σ4 (sL σ4 53 n (wS (im xs (Lf P xs lim) n))) := fr_sL fr_refl ⟨rfl, v0⟩
    have h5 : bdS P lim xs (n + 1 : Nat) σ0 (sL σ4 53 n (wS (im xs (Lf P xs lim) n))) := by
      refine ⟨CI_fr h4.1 f5 (fun c j k => by omega), OBS_fr h4.2.1 f5 (fun j => by omega), ⟨h4.2.2.1.1, fun w w0 w1 => ?_, fun w w0 w1 j hj hi => ?_⟩, fr_trans h4.2.2.2 (fr_mono f5 (fun c j k => Or.inr (Or.inl k)))⟩
      · rw [gL_sL]
        by_cases q : w = n
        · rw [if_pos ⟨rfl, q⟩, q]
        · rw [if_neg (fun k => q k.2)]; exact h4.2.2.1.2.1 w w0 (by omega)
      · rw [gL_sL, if_neg (by omega)]
        exact h4.2.2.1.2.2 w (by omega) w1 j hj hi
    refine ⟨⟨v0, by rw [h4.2.2.1.1]; exact v1⟩, ?_⟩
    rw [e174]
    have hp := ptN_rng P xs lim n
    show wp _ 210 147 _ [vI _, vL _] _ _
    rw [x210_147]
    refine ⟨⟨by show -2147483648 ≤ ptN P xs lim n; omega, by show ptN P xs lim n < 2147483648; omega⟩, ?_⟩
    have es : BitVec.ofInt 64 (sm (ptN P xs lim) n) + BitVec.ofInt 64 (pw (wS (im xs (Lf P xs lim) n))) = BitVec.ofInt 64 (sm (ptN P xs lim) (n + 1)) := oI_add
    rw [es]
    refine bd3 hP hl hC v0 v1 (σ0 := σ0) (R := R + 220 * d) (nv := ((n + 1 : Nat) : Int)) (fun t3 σ3 b6 b7 b8 g1 g2 => ?_) n 0 _ _ _ (by omega) (by omega) (by omega) h5
    rw [x210_248, show (n : Int) + 1 = ((n + 1 : Nat) : Int) by omega]
    exact bd2 hP hO hl hC hk d (n + 1) t3 σ3 _ _ _ _ (by omega) g1 g2
/-- the fields -/
theorem bd4 (hP : okP P) (hl : 0 ≤ lim ∧ lim ≤ 2) (hC : isC P lim xs) {σ0 : St} {R : Nat} {l3 : BitVec 64} {a6 a7 a8 : Option AV} (hk : ∀ (t : Nat) (σ' : St) (a4 a5 : Option AV), R ≤ t → bdS P lim xs 20 σ0 σ' → wp t 210 314 [some (vR 0), some (vR 53), some (vI lim), some (vL l3), a4, a5, a6, a7, a8] [] σ' Q) :
    ∀ (d : Nat) (i : Int) (t : Nat) (σ1 : St) (a4 : Option AV), 0 ≤ i → i + d = 3 * mny P 4 (-1) → R + 2 * d ≤ t → bdS P lim xs 20 σ0 σ1 → wp t 210 257 [some (vR 0), some (vR 53), some (vI lim), some (vL l3), a4, some (vI i), a6, a7, a8] [] σ1 Q
  | 0, i, t, σ1, a4, i0, hd, ht, h => by
    have hm := m8_rng hP
    rw [x210_257]
    refine ⟨⟨by omega, by omega⟩, k183 hP h.1 ?_⟩
    show wp _ 210 267 _ [vL _, vL _, vL _] _ _
    rw [x210_267]
    refine ⟨lCmp_in, fun k => ?_, fun _ => hk t σ1 _ _ (by omega) h⟩
    rw [lCmp_lt, s3 (by omega) (by omega), oI ⟨by omega, by omega⟩] at k; omega
  | d + 1, i, t, σ1, a4, i0, hd, ht, h => by
    have hm := m8_rng hP
    have q0 : 0 ≤ i / 3 := by omega
    have q1 : i / 3 < mny P 4 (-1) := by omega
    have q2 : 0 ≤ i % 3 := by omega
    have q3 : i % 3 < 3 := by omega
    rw [x210_257]
    refine ⟨⟨by omega, by omega⟩, k183 hP h.1 ?_⟩
    show wp _ 210 267 _ [vL _, vL _, vL _] _ _
    rw [x210_267]
    refine ⟨lCmp_in, fun _ => ?_, fun k => ?_⟩
    · rw [x210_272]
      refine ⟨⟨by omega, by omega⟩, ⟨by omega, by omega⟩, by omega, k203 hP h.1 q0 q1 q2 q3 ?_⟩
      show wp _ 210 284 _ [vL _] _ _
      rw [x210_284]
      refine ⟨⟨by omega, by omega⟩, ⟨by omega, by omega⟩, by omega, k187 hP hl hC h.1 q0 q1 q2 q3 (fun σ2 c2 f2 => ?_)⟩
      have h2 := bdS_q h c2 f2
      show wp _ 210 296 _ [vL _, vL _] _ _
      rw [x210_296]
      refine ⟨lCmp_in, fun _ => ?_, fun k => absurd (sub0 (fun j hj hb => (SW_wS _ j hj).mpr (h.2.1 lim xs hC _ (by omega) (by omega) j hj hb))) k⟩
      rw [x210_308]
      exact bd4 hP hl hC hk d (i + 1) _ σ2 _ (by omega) (by omega) (by omega) h2
    · rw [lCmp_lt, s3 (by omega) (by omega), oI ⟨by omega, by omega⟩] at k; omega
/-- one limit -/
theorem bd1 (hP : okP P) (hO : okO P) (hl : 0 ≤ lim ∧ lim ≤ 2) (hC : isC P lim xs) {σ0 : St} {R : Nat} (ht : R + 4500 ≤ t) (h : bdS P lim xs 0 σ0 σ) {a3 a4 a5 a6 a7 a8 : Option AV} {y : BitVec 64}
    (hk : ∀ (t : Nat) (σ' : St) (a3 a4 a5 a6 a7 a8 : Option AV), R ≤ t → bdS P lim xs 20 σ0 σ' → wp t 210 350 [some (vR 0), some (vR 53), some (vI lim), a3, a4, a5, a6, a7, a8] [] σ' Q) : wp t 210 42 [some (vR 0), some (vR 53), some (vI lim), a3, a4, a5, a6, a7, a8] [vL y] σ Q := by
  have hm := m8_rng hP
  rw [x210_42, z64]
  refine bd2 hP hO hl hC (σ0 := σ0) (R := R + 60) (fun t2 σ2 b4 b5 b6 b7 b8 g2 h2 => ?_) 20 0 t σ _ _ _ _ (by omega) (by omega) h
  rw [x210_254]
  refine bd4 hP hl hC (σ0 := σ0) (R := R + 3) (fun t3 σ3 d4 d5 g3 h3 => ?_) (3 * mny P 4 (-1)).toNat 0 t2 σ2 _ (by omega) (by omega) (by omega) h2
  have p327 : ∀ (t4 : Nat) (σ4 : St) (e3 e4 e5 e6 e7 e8 : Option AV), R + 3 ≤ t4 → bdS P lim xs 20 σ0 σ4 → wp t4 210 327 [some (vR 0), some (vR 53), some (vI lim), e3, e4, e5, e6, e7, e8] [] σ4 Q := fun t4 σ4 e3 e4 e5 e6 e7 e8 g4 h4 => by
    rw [x210_327]
    refine ⟨by omega, k206 hP hl hC h4.1 (fun k0 σ5 c5 f5 => ?_) (fun k0 σ5 c5 f5 => ?_)⟩
    · show wp _ 210 331 _ [vL _] _ _
      rw [x210_331]
      exact ⟨lCmp_in, fun _ => hk _ σ5 _ _ _ _ _ _ (by omega) (bdS_q h4 c5 f5), fun k => absurd (show lCmp _ _ < 0 by rw [lCmp_lt]; decide) k⟩
    · have h5 := bdS_q h4 c5 f5
      show wp _ 210 331 _ [vL _] _ _
      rw [x210_331]
      refine ⟨lCmp_in, fun _ => hk _ σ5 _ _ _ _ _ _ (by omega) h5, fun _ => ?_⟩
      rw [x210_336]
      refine ⟨by omega, k206 hP hl hC c5 (fun k1 => absurd k1 k0) (fun _ σ6 c6 f6 => ?_)⟩
      have h6 := bdS_q h5 c6 f6
      have rA := sm_rng (ptN_rng P xs lim) 20
      have rB := sm_rng (unN_rng P) 20
      have hle := pt_le_un hP hO hC
      show wp _ 210 340 _ [vL _] _ _
      rw [x210_340]
      refine ⟨n64_div rA.1 (by omega) (by omega) (by omega), ?_⟩
      show wp _ 210 343 _ [vD (FP.ddiv (dbl (sm (ptN P xs lim) 20)) (dbl (sm (unN P) 20)))] _ _
      rw [x210_343]
      rcases prec_le rA.1 hle (show 0 < sm (unN P) 20 by omega) (by omega) with e | e
      · rw [e]; exact ⟨by decide, fun k => absurd k (by decide), fun _ => hk _ σ6 _ _ _ _ _ _ (by omega) h6⟩
      · rw [e]; exact ⟨by decide, fun k => absurd k (by decide), fun _ => hk _ σ6 _ _ _ _ _ _ (by omega) h6⟩
  rw [x210_314]
  refine k188 hP hl hC h3.1 FN_in (fun σ4 c4 f4 => ?_)
  have h4 := bdS_q h3 c4 f4
  have rA := sm_rng (ptN_rng P xs lim) 20
  show wp _ 210 318 _ [vL _] _ _
  rw [x210_318]
  refine ⟨lCmp_in, fun k => ?_, fun _ => p327 _ _ _ _ _ _ _ _ (by omega) h4⟩
  rw [lCmp_lt, oI FN_in, oI ⟨by omega, by omega⟩] at k
  have := FN_ge hP hC
  omega
/-- the limits, one behind the other -/
theorem bd0 (hP : okP P) (hO : okO P) {σ0 : St} {R : Nat} (hk : ∀ (t : Nat) (σ' : St) (a3 a4 a5 a6 a7 a8 : Option AV), R ≤ t → CI P 2 σ' → fr bdM σ0 σ' → wp t 210 356 [some (vR 0), some (vR 53), some (vI 3), a3, a4, a5, a6, a7, a8] [] σ' Q) :
    ∀ (d : Nat) (l pl : Int) (t : Nat) (σ1 : St) (a3 a4 a5 a6 a7 a8 : Option AV), 0 ≤ l → l + d = 3 → R + 4600 * d ≤ t → inR pl → (d = 0 → pl = 2) → CI P pl σ1 → OBS P σ1 → gI σ1 53 (-1) = 20 → (l ≤ 2 → ∀ zs, isC P l zs → ∀ w, 0 ≤ w → w < 20 → ∀ t : Nat, t < 64 → im zs (Lf P zs l) w t → (gL σ1 53 w).getLsbD t = true) → fr bdM σ0 σ1 → wp t 210 32 [some (vR 0), some (vR 53), some (vI l), a3, a4, a5, a6, a7, a8] [] σ1 Q
  | 0, l, pl, t, σ1, a3, a4, a5, a6, a7, a8, l0, hd, ht, hp, hp2, hc, ho, h53, hb, hf => by
    have e : l = 3 := by omega
    subst e
    rw [x210_32]
    refine ⟨⟨by omega, by omega⟩, fun k => absurd k (by omega), fun _ => hk t σ1 _ _ _ _ _ _ (by omega) (by rw [← hp2 rfl]; exact hc) hf⟩
  | d + 1, l, pl, t, σ1, a3, a4, a5, a6, a7, a8, l0, hd, ht, hp, hp2, hc, ho, h53, hb, hf => by
    have l2 : l ≤ 2 := by omega
    obtain ⟨zs, hz⟩ := isC_ex hP l
    rw [x210_32]
    refine ⟨⟨by omega, by omega⟩, fun _ => ?_, fun k => absurd (show l < 3 by omega) k⟩
    rw [x210_37]
    refine ⟨by omega, k184 hp hc l0 l2 (fun c2 => ?_)⟩
    have f2 : fr (fun c j => (c = 5 ∧ j = 2) ∨ (c = 19 ∧ j = 8)) σ1 (sI (sI σ1 5 2 l) 19 8 1) := fr_sI (fr_sI fr_refl (Or.inl ⟨rfl, rfl⟩)) (Or.inr ⟨rfl, rfl⟩)
    have h2 : bdS P l zs 0 σ0 (sI (sI σ1 5 2 l) 19 8 1) := by
      refine ⟨c2, OBS_fr ho f2 (fun j => by omega), ⟨by rw [fr_I f2 53 (-1) (by omega)]; exact h53, fun w w0 w1 => by omega, fun w w0 w1 j hj hi => ?_⟩, fr_trans hf (fr_mono f2 (fun c j k => ?_))⟩
      · rw [fr_L f2 53 w (by omega)]; exact hb l2 zs hz w w0 w1 j hj hi
      · unfold bdM clq; omega
    show wp _ 210 42 _ [vL _] _ _
    refine bd1 hP hO ⟨l0, l2⟩ hz (σ0 := σ0) (R := R + 4600 * d) (bd_t ht) h2 (fun t3 σ3 b3 b4 b5 b6 b7 b8 g3 h3 => ?_)
    rw [x210_350]
    refine bd0 hP hO hk d (l + 1) l t3 σ3 _ _ _ _ _ _ (by omega) (by omega) g3 ⟨by omega, by omega⟩ (fun e => by omega) h3.1 h3.2.1 h3.2.2.1.1 (fun q ys hy w w0 w1 j hj hi => ?_) h3.2.2.2
    rw [h3.2.2.1.2.1 w w0 w1]
    exact (SW_wS _ j hj).mpr (im_lim hP (by omega) hy hz hi)
/-- bounds, behind its making of the row -/
theorem bdf (hP : okP P) {σ0 : St} {a3 a4 a5 a6 a7 a8 : Option AV} (h0 : gI σ0 53 (-1) = 20) (hk : ∀ (σ' : St) (a2 : Option AV), (∀ w, 0 ≤ w → w < 20 → gL σ' 53 w = BitVec.ofInt 64 (-1)) → fr (fun c j => c = 53 ∧ 0 ≤ j) σ0 σ' → wp t 210 25 [some (vR 0), some (vR 53), a2, a3, a4, a5, a6, a7, a8] [] σ' Q) :
    ∀ (d : Nat) (i : Int) (σ1 : St), 0 ≤ i → i + d = 20 → (∀ w, 0 ≤ w → w < i → gL σ1 53 w = BitVec.ofInt 64 (-1)) → fr (fun c j => c = 53 ∧ 0 ≤ j) σ0 σ1 → wp t 210 7 [some (vR 0), some (vR 53), some (vI i), a3, a4, a5, a6, a7, a8] [] σ1 Q
  | 0, i, σ1, i0, hd, hw, hf => by
    have e : i = 20 := by omega
    subst e
    rw [x210_7]
    exact ⟨⟨by omega, by omega⟩, fun k => absurd k (by omega), fun _ => hk σ1 _ hw hf⟩
  | d + 1, i, σ1, i0, hd, hw, hf => by
    rw [x210_7]
    refine ⟨⟨by omega, by omega⟩, fun _ => ?_, fun k => absurd (show i < 20 by omega) k⟩
    rw [x210_13]
    refine ⟨⟨i0, by rw [fr_I hf 53 (-1) (by omega), h0]; omega⟩, ?_⟩
    refine bdf hP h0 hk d (i + 1) _ (by omega) (by omega) (fun w w0 w1 => ?_) (fr_sL hf ⟨rfl, i0⟩)
    rw [gL_sL]
    by_cases q : w = i
    · rw [if_pos ⟨rfl, q⟩]
    · rw [if_neg (fun k => q k.2)]; exact hw w w0 (by omega)
def bdN : Nat → Int → Prop := fun c j => bdM c j ∨ (46 ≤ c ∧ c ≤ 52)
theorem k210 (hP : okP P) (hO : okO P) (hl : 0 ≤ lim ∧ lim ≤ 2) (ht : 14000 ≤ t) (h : CI P lim σ) (h53 : gI σ 53 (-1) = 20) {a2 a3 a4 a5 a6 a7 a8 : Option AV} (hq : ∀ σ', CI P 2 σ' → fr bdN σ σ' → Q (.inl (some (vI 1))) σ') :
    wp t 210 5 [some (vR 0), some (vR 53), a2, a3, a4, a5, a6, a7, a8] [] σ Q := by
  rw [x210_5]
  refine bdf hP (σ0 := σ) h53 (fun σ1 b2 g1 f1 => ?_) 20 0 σ (by omega) (by omega) (fun w w0 w1 => by omega) fr_refl
  have c1 : CI P lim σ1 := CI_fr h f1 (fun c j k => by omega)
  rw [x210_25]
  refine k201 hP c1 (fun k g2 w2 => ?_)
  have f2 : fr mM σ1 (mit P k (ms0 P σ1)) := fr_trans (fr_trans (show fr mM σ1 (mcr σ1) from fr_trans fr_cc fr_tk) fr_op) (fr_it k _)
  have c2 : CI P lim (mit P k (ms0 P σ1)) := CI_fr c1 f2 (fun c j k => by unfold mM at k; omega)
  show wp _ 210 29 _ [vL _] _ _
  rw [x210_29]
  refine bd0 hP hO (σ0 := mit P k (ms0 P σ1)) (R := 0) (fun t3 σ3 b3 b4 b5 b6 b7 b8 _ c3 f3 => ?_) 3 0 lim t _ _ _ _ _ _ _ (by omega) (by omega) (by omega) ⟨by omega, by omega⟩ (fun e => by omega) c2 (fun l zs hz j j0 j1 t ht hb => run_im hP hz g2 j0 j1 ht hb) ?_ (fun _ zs hz w w0 w1 j hj _ => ?_) fr_refl
  · rw [x210_356]
    refine hq σ3 c3 (fr_trans (fr_mono f1 (fun c j k => Or.inl (Or.inr (Or.inl k)))) (fr_trans (fr_mono f2 (fun c j k => Or.inr k)) (fr_mono f3 (fun c j k => Or.inl k))))
  · rw [fr_I f2 53 (-1) (by unfold mM; omega), fr_I f1 53 (-1) (by omega)]; exact h53
  · rw [fr_L f2 53 w (by unfold mM; omega), g1 w w0 w1]; exact ones j hj
end LB
