/-! bits of words, as the law asks for them -/
theorem oI_bit {n : Nat} {j : Nat} (hj : j < 64) : (BitVec.ofInt 64 (n : Int)).getLsbD j = n.testBit j := by
  rw [BitVec.ofInt_natCast, BitVec.getLsbD_ofNat]
  simp [hj]
theorem iW_bit {S : Int → Prop} {j : Nat} (hj : j < 31) : (BitVec.ofInt 64 (iW S)).getLsbD j = true ↔ S j := by
  obtain ⟨n, e, _, h2⟩ := IW_iW S
  rw [e, oI_bit (by omega)]; exact h2 j hj
theorem bit0 {y : BitVec 64} {z : Int} (z0 : 0 ≤ z) (z1 : z < 64) : lCmp ((BitVec.sshiftRight y (sh6 z)) &&& (BitVec.ofNat 64 1)) (BitVec.ofNat 64 0) = 0 ↔ y.getLsbD z.toNat = false := by
  rw [lCmp_eq, bb_and1, sh6_id z0 z1, bb_sar y (by omega)]
theorem bit1 {y : BitVec 64} {z : Int} (z0 : 0 ≤ z) (z1 : z < 64) : lCmp ((BitVec.sshiftRight y (sh6 z)) &&& (BitVec.ofNat 64 1)) (BitVec.ofNat 64 1) = 0 ↔ y.getLsbD z.toNat = true := by
  rw [lCmp_eq, bb_and1', sh6_id z0 z1, bb_sar y (by omega)]
theorem bit7 {y : BitVec 64} {z : Int} (z0 : 0 ≤ z) (z1 : z < 61) (h : ¬ lCmp ((BitVec.sshiftRight y (sh6 z)) &&& (BitVec.ofInt 64 7)) (BitVec.ofNat 64 0) = 0) : ∃ b : Nat, b < 3 ∧ y.getLsbD (z.toNat + b) = true := by
  refine Classical.byContradiction fun hn => h ?_
  rw [lCmp_eq]
  apply BitVec.eq_of_getLsbD_eq
  intro j hj
  rw [BitVec.getLsbD_and, seven j hj, sh6_id z0 (by omega)]
  have z' : (BitVec.ofNat 64 0).getLsbD j = false := by simp
  rw [z']
  by_cases q : j < 3
  · have e : (y.sshiftRight z.toNat).getLsbD j = y.getLsbD (z.toNat + j) := by
      rw [BitVec.getLsbD_sshiftRight]
      have a : ¬ (64 ≤ j) := by omega
      have b : z.toNat + j < 64 := by omega
      rw [if_pos b, decide_eq_false a]
      rfl
    rw [e]
    cases k : y.getLsbD (z.toNat + j) with
    | false => rfl
    | true => exact absurd ⟨j, q, k⟩ hn
  · rw [decide_eq_false q, Bool.and_false]
theorem mod_nn {P : Pg} (hP : okP P) {lim : Int} {xs : List Int} (hX : isC P lim xs) (f : Int) : ¬ lCmp (wS (modS P xs lim f)) (BitVec.ofNat 64 0) < 0 := by
  rw [lCmp_lt]
  have hm : (wS (modS P xs lim f)).msb = false := by
    rw [BitVec.msb_eq_getLsbD_last]
    cases k : (wS (modS P xs lim f)).getLsbD (64 - 1) with
    | false => rfl
    | true =>
      obtain ⟨n, _, _, _, _, hi⟩ := (SW_wS _ 63 (by omega)).mp k
      have := (im_rng hP hX hi).2
      have := mny_nn hP
      omega
  have h1 := BitVec.toInt_eq_msb_cond (wS (modS P xs lim f))
  rw [hm] at h1
  have e0 : (BitVec.ofNat 64 0).toInt = 0 := by decide
  rw [e0, h1]
  simp
theorem p2_shl {k : Int} (k0 : 0 ≤ k) (k1 : k ≤ 8) : ((BitVec.ofNat 64 1) <<< sh6 (BitVec.toInt (BitVec.ofInt 64 k))).toInt = 2 ^ k.toNat := by
  rw [oI ⟨by omega, by omega⟩]
  rcases (show k = 0 ∨ k = 1 ∨ k = 2 ∨ k = 3 ∨ k = 4 ∨ k = 5 ∨ k = 6 ∨ k = 7 ∨ k = 8 by omega) with rfl | rfl | rfl | rfl | rfl | rfl | rfl | rfl | rfl <;> decide
/-! functions -/
section LF
variable {t : Nat} {σ : St} {Q : Res → St → Prop} {P : Pg} {lim : Int} {xs : List Int}
def allR (xs : List Int) : Prop := ∀ f, 0 ≤ f → f < 4 → 0 < nc xs f
/-- allReachable -/
theorem k213 (hP : okP P) (hl : 0 ≤ lim ∧ lim ≤ 2) (hC : isC P lim xs) {σ0 : St} (hq : ∀ σ', CI P lim σ' → fr clq σ0 σ' → Q (.inl (some (vI (b2i (dcl (allR xs)))))) σ') :
    ∀ (d : Nat) (i : Int) (t : Nat) (σ1 : St), 0 ≤ i → i + d = 4 → d ≤ t → CI P lim σ1 → fr clq σ0 σ1 → (∀ f, 0 ≤ f → f < i → 0 < nc xs f) → wp t 213 2 [some (vR 0), some (vI i)] [] σ1 Q
  | 0, i, t, σ1, i0, hd, ht, h, g, ha => by
    have e : i = 4 := by omega
    subst e
    rw [x213_2]
    refine ⟨⟨by omega, by omega⟩, fun k => absurd k (by omega), fun _ => ?_⟩
    rw [x213_25]
    have := hq σ1 h g
    rw [dcl_t (p := allR xs) ha] at this
    exact this
  | d + 1, i, t, σ1, i0, hd, ht, h, g, ha => by
    rw [x213_2]
    refine ⟨⟨by omega, by omega⟩, fun _ => ?_, fun k => absurd (show i < 4 by omega) k⟩
    rw [x213_7]
    refine ⟨by omega, k199 hP hl hC h i0 (by omega) (fun σ2 a b => ?_)⟩
    show wp _ 213 12 _ [vL _] _ _
    by_cases q : 0 < nc xs i
    · rw [bL_t q, x213_12]
      refine ⟨lCmp_in, fun k => absurd (lCmp_eq.mp k) (by decide), fun _ => ?_⟩
      rw [x213_19]
      exact k213 hP hl hC hq d (i + 1) _ σ2 (by omega) (by omega) (by omega) a (fr_trans g b) (fun f f0 f1 => by
        by_cases k : f = i
        · rw [k]; exact q
        · exact ha f f0 (by omega))
    · rw [bL_f q, x213_12]
      refine ⟨lCmp_in, fun _ => ?_, fun k => absurd (lCmp_eq.mpr rfl) k⟩
      rw [x213_17]
      have := hq σ2 a (fr_trans g b)
      rw [dcl_f (p := allR xs) (fun k => q (k i i0 (by omega)))] at this
      exact this
theorem c213 (hP : okP P) (hl : 0 ≤ lim ∧ lim ≤ 2) (hC : isC P lim xs) (h : CI P lim σ) (hq : ∀ σ', CI P lim σ' → fr clq σ σ' → Q (.inl (some (vI (b2i (dcl (allR xs)))))) σ') : Call 4 213 [vR 0] σ Q := by
  rw [x213_0]
  exact k213 hP hl hC hq 4 0 4 σ (by omega) (by omega) (by omega) h fr_refl (fun f f0 f1 => by omega)
/-- its first loop -/
theorem fn1 (hP : okP P) (hl : 0 ≤ lim ∧ lim ≤ 2) (hC : isC P lim xs) {σ0 : St} {R : Nat} {a2 a3 a4 : Option AV} (hk : ∀ (t : Nat) (σ' : St) (a1 : Option AV), R ≤ t → CI P lim σ' → fr clq σ0 σ' → wp t 212 62 [some (vR 0), a1, a2, a3, a4] [] σ' Q) :
    ∀ (d : Nat) (i : Int) (t : Nat) (σ1 : St), 0 ≤ i → i + d = tot P → R + 5 * d ≤ t → CI P lim σ1 → fr clq σ0 σ1 → wp t 212 2 [some (vR 0), some (vI i), a2, a3, a4] [] σ1 Q
  | 0, i, t, σ1, i0, hd, ht, h, g => by
    have hr := tot_rng hP.1
    have e : i = tot P := by omega
    rw [x212_2]
    refine ⟨⟨by omega, by omega⟩, k180 hP h ?_⟩
    show wp _ 212 8 _ [vL _, vL _] _ _
    rw [x212_8]
    refine ⟨lCmp_in, fun k => ?_, fun _ => ?_⟩
    · rw [lCmp_lt, oI ⟨by omega, by omega⟩, oI (tot_in hP)] at k; omega
    · exact hk t σ1 _ (by omega) h g
  | d + 1, i, t, σ1, i0, hd, ht, h, g => by
    have hr := tot_rng hP.1
    have n1 : i < tot P := by omega
    have ho := (own_spec hP.1 i0 n1).1
    rw [x212_2]
    refine ⟨⟨by omega, by omega⟩, k180 hP h ?_⟩
    show wp _ 212 8 _ [vL _, vL _] _ _
    rw [x212_8]
    refine ⟨lCmp_in, fun _ => ?_, fun k => ?_⟩
    · rw [x212_12]
      refine ⟨by omega, k181 hP h i0 n1 ?_⟩
      show wp _ 212 17 _ [vL _] _ _
      rw [x212_17]
      refine ⟨lCmp_in, fun _ => ?_, fun _ => ?_⟩
      · rw [x212_24]
        refine ⟨by omega, k182 hP h i0 n1 ?_⟩
        show wp _ 212 30 _ [vL _, vR 0] _ _
        rw [x212_30, oI ⟨by omega, by omega⟩]
        refine ⟨by omega, k199 hP hl hC h ho.1 (by omega) (fun σ2 a b => ?_)⟩
        show wp _ 212 34 _ [vL _] _ _
        rw [x212_34]
        refine ⟨lCmp_in, fun _ => ?_, fun _ => ?_⟩
        · rw [x212_39]
          refine ⟨by omega, k182 hP a i0 n1 ?_⟩
          show wp _ 212 45 _ [vL _, vR 0] _ _
          rw [x212_45, oI ⟨by omega, by omega⟩]
          refine ⟨by omega, k198 hP hl hC a ho.1 (by omega) (fun σ3 a3 b3 => ?_)⟩
          show wp _ 212 49 _ [vL _] _ _
          rw [x212_49]
          refine ⟨lCmp_in, fun k => absurd k (mod_nn hP hC _), fun _ => ?_⟩
          rw [x212_56]
          exact fn1 hP hl hC hk d (i + 1) _ σ3 (by omega) (by omega) (by omega) a3 (fr_trans g (fr_trans b b3))
        · rw [x212_56]
          exact fn1 hP hl hC hk d (i + 1) _ σ2 (by omega) (by omega) (by omega) a (fr_trans g b)
      · rw [x212_56]
        exact fn1 hP hl hC hk d (i + 1) _ σ1 (by omega) (by omega) (by omega) h g
    · rw [lCmp_lt, oI ⟨by omega, by omega⟩, oI (tot_in hP)] at k; omega
/-- its second: unreachable functions -/
theorem fn2 (hP : okP P) (hl : 0 ≤ lim ∧ lim ≤ 2) (hC : isC P lim xs) {σ0 : St} {R : Nat} {a2 a3 a4 : Option AV} (hk : ∀ (t : Nat) (σ' : St) (a1 : Option AV), R ≤ t → CI P lim σ' → fr clq σ0 σ' → wp t 212 148 [some (vR 0), a1, a2, a3, a4] [] σ' Q) :
    ∀ (d : Nat) (i : Int) (t : Nat) (σ1 : St), 0 ≤ i → i + d = 4 → R + 6 * d ≤ t → CI P lim σ1 → fr clq σ0 σ1 → wp t 212 64 [some (vR 0), some (vI i), a2, a3, a4] [] σ1 Q
  | 0, i, t, σ1, i0, hd, ht, h, g => by
    have e : i = 4 := by omega
    subst e
    rw [x212_64]
    exact ⟨⟨by omega, by omega⟩, fun k => absurd k (by omega), fun _ => hk t σ1 _ (by omega) h g⟩
  | d + 1, i, t, σ1, i0, hd, ht, h, g => by
    rw [x212_64]
    refine ⟨⟨by omega, by omega⟩, fun _ => ?_, fun k => absurd (show i < 4 by omega) k⟩
    rw [x212_69]
    refine ⟨by omega, k199 hP hl hC h i0 (by omega) (fun σ2 c2 f2 => ?_)⟩
    show wp _ 212 74 _ [vL _] _ _
    by_cases q : 0 < nc xs i
    · rw [bL_t q, x212_74]
      refine ⟨lCmp_in, fun k => absurd (lCmp_eq.mp k) (by decide), fun _ => ?_⟩
      rw [x212_120]
      refine ⟨by omega, k199 hP hl hC c2 i0 (by omega) (fun σ3 c3 f3 => ?_)⟩
      show wp _ 212 125 _ [vL _] _ _
      rw [bL_t q, x212_125]
      refine ⟨lCmp_in, fun _ => ?_, fun k => absurd (lCmp_eq.mpr rfl) k⟩
      rw [x212_130]
      refine ⟨by omega, k199 hP hl hC c3 (by omega) (by omega) (fun σ4 c4 f4 => ?_)⟩
      show wp _ 212 135 _ [vL _] _ _
      rw [bL_t (nc_main hC), x212_135]
      refine ⟨lCmp_in, fun _ => ?_, fun k => absurd (lCmp_eq.mpr rfl) k⟩
      rw [x212_142]
      exact fn2 hP hl hC hk d (i + 1) _ σ4 (by omega) (by omega) (by omega) c4 (fr_trans g (fr_trans f2 (fr_trans f3 f4)))
    · have e0 : nc xs i = 0 := by have := (nc_rng xs i).1; omega
      have u0 := unr_im hP hC (f := i) (k := 0) i0 (by omega) (by omega) (by omega) q
      have u3 := unr_im hP hC (f := i) (k := 3) i0 (by omega) (by omega) (by omega) q
      rw [Int.add_zero] at u0
      rw [show 4 + 4 * i + 3 = 7 + 4 * i by omega] at u3
      rw [bL_f q, x212_74]
      refine ⟨lCmp_in, fun _ => ?_, fun k => absurd (lCmp_eq.mpr rfl) k⟩
      rw [x212_79]
      refine ⟨by omega, k185 hP hl hC c2 i0 (by omega) (fun σ3 c3 f3 => ?_)⟩
      show wp _ 212 84 _ [vL _] _ _
      rw [e0, ← z64, x212_84]
      refine ⟨lCmp_in, fun _ => ?_, fun k => absurd (lCmp_eq.mpr rfl) k⟩
      rw [x212_89]
      refine ⟨by omega, k186 hP hl hC c3 (by omega) (by omega) (fun σ4 c4 f4 => ?_)⟩
      show wp _ 212 98 _ [vL _] _ _
      rw [u0, x212_98]
      refine ⟨lCmp_in, fun _ => ?_, fun k => absurd (lCmp_eq.mpr rfl) k⟩
      rw [x212_103]
      refine ⟨by omega, k186 hP hl hC c4 (by omega) (by omega) (fun σ5 c5 f5 => ?_)⟩
      show wp _ 212 113 _ [vL _] _ _
      rw [u3, x212_113]
      refine ⟨lCmp_in, fun _ => ?_, fun k => absurd (lCmp_eq.mpr rfl) k⟩
      rw [x212_120]
      refine ⟨by omega, k199 hP hl hC c5 i0 (by omega) (fun σ6 c6 f6 => ?_)⟩
      show wp _ 212 125 _ [vL _] _ _
      rw [bL_f q, x212_125]
      refine ⟨lCmp_in, fun k => absurd (lCmp_eq.mp k) (by decide), fun _ => ?_⟩
      rw [x212_142]
      exact fn2 hP hl hC hk d (i + 1) _ σ6 (by omega) (by omega) (by omega) c6 (fr_trans g (fr_trans f2 (fr_trans f3 (fr_trans f4 (fr_trans f5 f6)))))
/-- its third: cycles; the variables in one -/
theorem fn3i (hP : okP P) (hO : okO P) (hC : isC P 0 xs) {σ0 : St} {R : Nat} {v : Int} (v0 : 0 ≤ v) (v1 : v < 20) (hk : ∀ (t : Nat) (σ' : St) (a2 a3 a4 : Option AV), R ≤ t → CI P 0 σ' → fr clq σ0 σ' → wp t 212 270 [some (vR 0), some (vI v), a2, a3, a4] [] σ' Q) :
    ∀ (d : Nat) (i : Int) (t : Nat) (σ1 : St) (a3 : Option AV), 0 ≤ i → i + d = 20 → R + 8 * d ≤ t → CI P 0 σ1 → fr clq σ0 σ1 → wp t 212 177 [some (vR 0), some (vI v), some (vL (BitVec.ofInt 64 (iW (cyS P v)))), a3, some (vI i)] [] σ1 Q
  | 0, i, t, σ1, a3, i0, hd, ht, h, g => by
    have e : i = 20 := by omega
    subst e
    rw [x212_177]
    exact ⟨⟨by omega, by omega⟩, fun k => absurd k (by omega), fun _ => hk t σ1 _ _ _ (by omega) h g⟩
  | d + 1, i, t, σ1, a3, i0, hd, ht, h, g => by
    have hl : (0 : Int) ≤ 0 ∧ (0 : Int) ≤ 2 := by omega
    have next : ∀ (t2 : Nat) (σ2 : St) (b3 : Option AV), R + 8 * d ≤ t2 → CI P 0 σ2 → fr clq σ0 σ2 → wp t2 212 264 [some (vR 0), some (vI v), some (vL (BitVec.ofInt 64 (iW (cyS P v)))), b3, some (vI i)] [] σ2 Q := fun t2 σ2 b3 h1 h2 h3 => by
      rw [x212_264]
      exact fn3i hP hO hC v0 v1 hk d (i + 1) t2 σ2 _ (by omega) (by omega) h1 h2 h3
    rw [x212_177]
    refine ⟨⟨by omega, by omega⟩, fun _ => ?_, fun k => absurd (show i < 20 by omega) k⟩
    have hbit := iW_bit (S := cyS P v) (j := i.toNat) (by omega)
    rw [show ((i.toNat : Nat) : Int) = i by omega] at hbit
    rw [x212_184]
    refine ⟨lCmp_in, fun k => ?_, fun k => ?_⟩
    · rw [bit1 i0 (by omega)] at k
      have hcy := hbit.mp k
      rw [x212_195]
      refine ⟨by omega, k200 hP h i0 (by omega) (fun σ2 c2 f2 => ?_)⟩
      show wp _ 212 201 _ [vL _] _ _
      rw [cy_iW hcy, x212_201]
      refine ⟨lCmp_in, fun _ => ?_, fun k => absurd (lCmp_eq.mpr rfl) k⟩
      rw [x212_208]
      refine ⟨lCmp_in, fun _ => ?_, fun k2 => absurd ((bit1 i0 (by omega)).mpr k) k2⟩
      rw [x212_219]
      refine ⟨⟨by omega, by omega⟩, fun w1 => ?_, fun _ => next _ _ _ (by omega) c2 (fr_trans g f2)⟩
      rw [x212_224]
      refine ⟨⟨by omega, by omega⟩, fun w2 => ?_, fun _ => next _ _ _ (by omega) c2 (fr_trans g f2)⟩
      rw [x212_230]
      refine ⟨by omega, k199 hP hl hC c2 (by omega) (by omega) (fun σ3 c3 f3 => ?_)⟩
      show wp _ 212 235 _ [vL _] _ _
      rw [bL_t (nc_main hC), x212_235]
      refine ⟨lCmp_in, fun _ => ?_, fun k => absurd (lCmp_eq.mpr rfl) k⟩
      rw [x212_240]
      refine ⟨by omega, c213 hP hl hC c3 (fun σ4 c4 f4 => ?_)⟩
      show wp _ 212 244 _ [vI _] _ _
      rw [x212_244]
      refine ⟨b2i_in _, fun _ => next _ _ _ (by omega) c4 (fr_trans g (fr_trans f2 (fr_trans f3 f4))), fun k => ?_⟩
      have hA : allR xs := Classical.byContradiction (fun n => by rw [dcl_f n] at k; exact k rfl)
      rw [x212_247]
      refine ⟨by omega, k186 hP hl hC c4 v0 v1 (fun σ5 c5 f5 => ?_)⟩
      show wp _ 212 252 _ [vL _] _ _
      rw [x212_252]
      refine ⟨by omega, k186 hP hl hC c5 i0 (by omega) (fun σ6 c6 f6 => ?_)⟩
      show wp _ 212 258 _ [vL _, vL _] _ _
      rw [x212_258]
      refine ⟨lCmp_in, fun _ => next _ _ _ (by omega) c6 (fr_trans g (fr_trans f2 (fr_trans f3 (fr_trans f4 (fr_trans f5 f6))))), fun k => ?_⟩
      exact absurd (lCmp_eq.mpr (cy_im hP hO hC (fun f f0 f1 => (nc_pos hC).mp (hA f f0 (by omega))) hcy)) k
    · rw [x212_208]
      exact ⟨lCmp_in, fun k2 => absurd k2 k, fun _ => next _ _ _ (by omega) h g⟩
theorem fn3 (hP : okP P) (hO : okO P) (hC : isC P 0 xs) {σ0 : St} {R : Nat} (hk : ∀ (t : Nat) (σ' : St) (a1 a2 a3 a4 : Option AV), R ≤ t → CI P 0 σ' → fr clq σ0 σ' → wp t 212 276 [some (vR 0), a1, a2, a3, a4] [] σ' Q) :
    ∀ (d : Nat) (v : Int) (t : Nat) (σ1 : St) (a2 a3 a4 : Option AV), 0 ≤ v → v + d = 20 → R + 161 * d ≤ t → CI P 0 σ1 → fr clq σ0 σ1 → wp t 212 150 [some (vR 0), some (vI v), a2, a3, a4] [] σ1 Q
  | 0, v, t, σ1, a2, a3, a4, v0, hd, ht, h, g => by
    have e : v = 20 := by omega
    subst e
    rw [x212_150]
    exact ⟨⟨by omega, by omega⟩, fun k => absurd k (by omega), fun _ => hk t σ1 _ _ _ _ (by omega) h g⟩
  | d + 1, v, t, σ1, a2, a3, a4, v0, hd, ht, h, g => by
    rw [x212_150]
    refine ⟨⟨by omega, by omega⟩, fun _ => ?_, fun k => absurd (show v < 20 by omega) k⟩
    rw [x212_156]
    refine ⟨by omega, k200 hP h v0 (by omega) (fun σ2 c2 f2 => ?_)⟩
    show wp _ 212 161 _ [vL _] _ _
    rw [x212_161]
    have hbit := iW_bit (S := cyS P v) (j := v.toNat) (by omega)
    rw [show ((v.toNat : Nat) : Int) = v by omega] at hbit
    refine ⟨lCmp_in, fun k => ?_, fun _ => ?_⟩
    · rw [bit0 v0 (by omega), hbit.mpr (cy_refl v)] at k; cases k
    · rw [x212_174]
      refine fn3i hP hO hC v0 (by omega) (σ0 := σ0) (R := R + 161 * d) (fun t3 σ3 b2 b3 b4 h1 h2 h3 => ?_) 20 0 _ σ2 _ (by omega) (by omega) (by omega) c2 (fr_trans g f2)
      rw [x212_270]
      exact fn3 hP hO hC hk d (v + 1) t3 σ3 _ _ _ (by omega) (by omega) h1 h2 h3
/-- its fourth: what globals reach escapes -/
theorem fn4i (hP : okP P) (hl : 0 ≤ lim ∧ lim ≤ 2) (hC : isC P lim xs) {σ0 : St} {R : Nat} {a : Int} (a0 : 0 ≤ a) (a1 : a < 4) {b2 : Option AV} (hk : ∀ (t : Nat) (σ' : St) (b4 : Option AV), R ≤ t → CI P lim σ' → fr clq σ0 σ' → wp t 212 343 [some (vR 0), some (vL (BitVec.ofInt 64 (iW (escS P xs lim)))), b2, some (vI a), b4] [] σ' Q) :
    ∀ (d : Nat) (i : Int) (t : Nat) (σ1 : St), 0 ≤ i → i + d = mny P 4 (-1) → R + d ≤ t → CI P lim σ1 → fr clq σ0 σ1 → wp t 212 291 [some (vR 0), some (vL (BitVec.ofInt 64 (iW (escS P xs lim)))), b2, some (vI a), some (vI i)] [] σ1 Q
  | 0, i, t, σ1, i0, hd, ht, h, g => by
    have hm := m8_rng hP
    have e : i = mny P 4 (-1) := by omega
    rw [x212_291]
    refine ⟨⟨by omega, by omega⟩, k183 hP h ?_⟩
    show wp _ 212 298 _ [vL _, vL _] _ _
    rw [x212_298]
    refine ⟨lCmp_in, fun k => ?_, fun _ => hk t σ1 _ (by omega) h g⟩
    rw [lCmp_lt, oI ⟨by omega, by omega⟩, oI ⟨by omega, by omega⟩] at k; omega
  | d + 1, i, t, σ1, i0, hd, ht, h, g => by
    have hm := m8_rng hP
    rw [x212_291]
    refine ⟨⟨by omega, by omega⟩, k183 hP h ?_⟩
    show wp _ 212 298 _ [vL _, vL _] _ _
    rw [x212_298]
    refine ⟨lCmp_in, fun _ => ?_, fun k => ?_⟩
    · rw [x212_302]
      refine ⟨by omega, k190 hP hl hC h a0 (by omega) (fun σ2 c2 f2 => ?_)⟩
      show wp _ 212 307 _ [vL _] _ _
      rw [x212_307]
      refine ⟨lCmp_in, fun _ => ?_, fun k => ?_⟩
      · rw [x212_337]
        exact fn4i hP hl hC a0 a1 hk d (i + 1) _ σ2 (by omega) (by omega) (by omega) c2 (fr_trans g f2)
      · obtain ⟨b, b3, hb⟩ := bit7 (by omega) (by omega) k
        have hT := (SW_wS _ _ (by omega)).mp hb
        rw [show (((20 + 3 * i).toNat + b : Nat) : Int) = 20 + 3 * i + b by omega] at hT
        have hE := esc_of hP hC a0 a1 (show (0 : Int) ≤ b by omega) (by omega) i0 (by omega) hT
        have hbit := iW_bit (S := escS P xs lim) (j := i.toNat) (by omega)
        rw [show ((i.toNat : Nat) : Int) = i by omega] at hbit
        rw [x212_324]
        refine ⟨lCmp_in, fun k2 => ?_, fun _ => ?_⟩
        · rw [bit0 i0 (by omega), hbit.mpr hE] at k2; cases k2
        · rw [x212_337]
          exact fn4i hP hl hC a0 a1 hk d (i + 1) _ σ2 (by omega) (by omega) (by omega) c2 (fr_trans g f2)
    · rw [lCmp_lt, oI ⟨by omega, by omega⟩, oI ⟨by omega, by omega⟩] at k; omega
theorem fn4 (hP : okP P) (hl : 0 ≤ lim ∧ lim ≤ 2) (hC : isC P lim xs) {σ0 : St} {R : Nat} (hk : ∀ (t : Nat) (σ' : St) (b2 b3 b4 : Option AV), R ≤ t → CI P lim σ' → fr clq σ0 σ' → wp t 212 349 [some (vR 0), some (vL (BitVec.ofInt 64 (iW (escS P xs lim)))), b2, b3, b4] [] σ' Q) :
    ∀ (d : Nat) (a : Int) (t : Nat) (σ1 : St) (b2 b4 : Option AV), 0 ≤ a → a + d = 4 → R + 8 * d ≤ t → CI P lim σ1 → fr clq σ0 σ1 → wp t 212 283 [some (vR 0), some (vL (BitVec.ofInt 64 (iW (escS P xs lim)))), b2, some (vI a), b4] [] σ1 Q
  | 0, a, t, σ1, b2, b4, a0, hd, ht, h, g => by
    have e : a = 4 := by omega
    subst e
    rw [x212_283]
    exact ⟨⟨by omega, by omega⟩, fun k => absurd k (by omega), fun _ => hk t σ1 _ _ _ (by omega) h g⟩
  | d + 1, a, t, σ1, b2, b4, a0, hd, ht, h, g => by
    have hm := m8_rng hP
    rw [x212_283]
    refine ⟨⟨by omega, by omega⟩, fun _ => ?_, fun k => absurd (show a < 4 by omega) k⟩
    rw [x212_288]
    refine fn4i hP hl hC a0 (by omega) (σ0 := σ0) (R := R + 8 * d) (fun t3 σ3 c4 h1 h2 h3 => ?_) (mny P 4 (-1)).toNat 0 t σ1 (by omega) (by omega) (by omega) h g
    rw [x212_343]
    exact fn4 hP hl hC hk d (a + 1) t3 σ3 _ _ (by omega) (by omega) h1 h2 h3
/-- functions answers true -/
theorem k212 (hP : okP P) (hO : okO P) (hC : isC P 0 xs) (ht : 4000 ≤ t) (h : CI P 0 σ) (hq : ∀ σ', CI P 0 σ' → fr clq σ σ' → Q (.inl (some (vI 1))) σ') : Call t 212 [vR 0] σ Q := by
  have hr := tot_rng hP.1
  have hm := m8_rng hP
  have hl : (0 : Int) ≤ 0 ∧ (0 : Int) ≤ 2 := by omega
  rw [x212_0]
  refine fn1 hP hl hC (σ0 := σ) (R := 3600) (fun t1 σ1 b1 h1 c1 f1 => ?_) (tot P).toNat 0 t σ (by omega) (by omega) (by omega) h fr_refl
  rw [x212_62]
  refine fn2 hP hl hC (σ0 := σ) (R := 3500) (fun t2 σ2 b2 h2 c2 f2 => ?_) 4 0 t1 σ1 (by omega) (by omega) (by omega) c1 f1
  rw [x212_148]
  refine fn3 hP hO hC (σ0 := σ) (R := 100) (fun t3 σ3 d1 d2 d3 d4 h3 c3 f3 => ?_) 20 0 t2 σ2 _ _ _ (by omega) (by omega) (by omega) c2 f2
  rw [x212_276]
  refine k191 hP hl hC c3 (fun σ4 c4 f4 => ?_)
  show wp _ 212 280 _ [vL _] _ _
  rw [x212_280]
  refine fn4 hP hl hC (σ0 := σ) (R := 10) (fun t5 σ5 e2 e3 e4 h5 c5 f5 => ?_) 4 0 t3 σ4 _ _ (by omega) (by omega) (by omega) c4 (fr_trans f3 f4)
  rw [x212_349]
  refine k183 hP c5 ?_
  show wp _ 212 355 _ [vL _, vL _, vL _] _ _
  rw [x212_355]
  have hE := esc_lt hP hC
  refine ⟨lCmp_in, fun _ => ?_, fun k => ?_⟩
  · rw [x212_361, x212_366]; exact ⟨Or.inr rfl, hq σ5 c5 f5⟩
  · rw [lCmp_lt, oI (iW_in _), p2_shl (by omega) (by omega)] at k
    exact absurd hE.2 k
end LF
