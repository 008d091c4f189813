/-! the law's program -/
theorem Call_iff {b y : Nat} {as : List AV} {σ σ1 : St} {a : Res} {Q : Res → St → Prop} (h : ∀ Q : Res → St → Prop, Q a σ1 → Call b y as σ Q) : Call b y as σ Q ↔ Q a σ1 := ⟨fun g => by
  obtain ⟨n1, r1, s1, e1, q1, q2⟩ := h (fun r s => r = a ∧ s = σ1) ⟨rfl, rfl⟩
  obtain ⟨n2, r2, s2, e2, q3⟩ := g
  have a1 := ex_mono e1 (Nat.le_add_right n1 n2)
  have a2 := ex_mono e2 (Nat.le_add_left n2 n1)
  rw [a1] at a2
  have a3 := Option.some.inj a2
  have a4 : r1 = r2 := congrArg Prod.fst a3
  have a5 : s1 = s2 := congrArg Prod.snd a3
  rw [← q1, ← q2, a4, a5]; exact q3, fun g => h Q g⟩
def LPr (σ : St) (P : Pg) : Prop := (∀ c j, 54 ≤ c → c ≤ 57 → 0 ≤ j → j < 48 → gI σ c j = P c j) ∧ (∀ j, 0 ≤ j → j < 4 → gI σ 58 j = P 58 j)
theorem LP_fr {M : Nat → Int → Prop} {σ σ' : St} {P : Pg} (h : LPr σ P) (g : fr M σ σ') (hM : ∀ c j, M c j → (c < 54 ∨ 58 < c ∨ (c ≤ 57 ∧ 48 ≤ j) ∨ (c = 58 ∧ 4 ≤ j))) : LPr σ' P :=
  ⟨fun c j c0 c1 j0 j1 => (fr_I g _ _ (fun k => by have := hM c j k; omega)).trans (h.1 c j c0 c1 j0 j1), fun j j0 j1 => (fr_I g _ _ (fun k => by have := hM 58 j k; omega)).trans (h.2 j j0 j1)⟩
section LPR
variable {t : Nat} {σ : St} {Q : Res → St → Prop} {P : Pg}
theorem LP_z (h : LPr σ P) {f : Int} (f0 : 0 ≤ f) (f1 : f ≤ 3) : gI σ 58 f = P 58 f := h.2 f f0 (by omega)
theorem LP_kd (h : LPr σ P) (hz : okZ P) {n : Int} (n0 : 0 ≤ n) (n1 : n < tot P) : gI σ 54 (plc P n) = kd P n := by
  have := plc_rng hz n0 n1; exact h.1 54 _ (by decide) (by decide) this.1 this.2
theorem LP_vv (h : LPr σ P) (hz : okZ P) {n : Int} (n0 : 0 ≤ n) (n1 : n < tot P) : gI σ 55 (plc P n) = vv P n := by
  have := plc_rng hz n0 n1; exact h.1 55 _ (by decide) (by decide) this.1 this.2
theorem LP_ww (h : LPr σ P) (hz : okZ P) {n : Int} (n0 : 0 ≤ n) (n1 : n < tot P) : gI σ 56 (plc P n) = ww P n := by
  have := plc_rng hz n0 n1; exact h.1 56 _ (by decide) (by decide) this.1 this.2
theorem LP_nn (h : LPr σ P) (hz : okZ P) {n : Int} (n0 : 0 ≤ n) (n1 : n < tot P) : gI σ 57 (plc P n) = nn P n := by
  have := plc_rng hz n0 n1; exact h.1 57 _ (by decide) (by decide) this.1 this.2
theorem e181 (h : LPr σ P) : Call t 181 [vR 53] σ Q ↔ Q (.inl (some (vI (tot P)))) σ := by
  rw [x181_0, LP_z h (f := 0) (by omega) (by omega), LP_z h (f := 1) (by omega) (by omega), LP_z h (f := 2) (by omega) (by omega), LP_z h (f := 3) (by omega) (by omega)]
  exact Iff.rfl
theorem pla (h : LPr σ P) (hz : okZ P) {n : Int} (n0 : 0 ≤ n) (n1 : n < tot P) (hq : Q (.inl (some (vI (plc P n)))) σ) : ∀ (d : Nat) (f : Int) (a1 : Option AV), 0 ≤ f → f + d = 4 → stt P f ≤ n → wp t 182 4 [some (vR 53), a1, some (vI (n - stt P f)), some (vI f)] [] σ Q
  | 0, f, a1, f0, hd, hs => by
    have e : f = 4 := by omega
    rw [e, stt4] at hs; omega
  | d + 1, f, a1, f0, hd, hs => by
    have ht := tot_rng hz
    have hs0 := stt_rng hz f0 (show f ≤ 3 by omega)
    have hz0 := okZ_at hz f0 (show f ≤ 3 by omega)
    have hg := LP_z h f0 (show f ≤ 3 by omega)
    rw [x182_4, hg]
    refine ⟨⟨f0, by omega⟩, ⟨⟨by omega, by omega⟩, ⟨by omega, by omega⟩⟩, fun a => ?_, fun a => ?_⟩
    · rw [x182_29]
      have := plc_of hz f0 (show f ≤ 3 by omega) (k := n - stt P f) (by omega) a
      rw [show stt P f + (n - stt P f) = n by omega] at this
      rw [← this]; exact hq
    · rw [x182_14, hg]
      have e := stt_succ P f0 (show f ≤ 3 by omega)
      rw [show n - stt P f - P 58 f = n - stt P (f + 1) by omega]
      exact ⟨⟨f0, by omega⟩, pla h hz n0 n1 hq d (f + 1) _ (by omega) (by omega) (by omega)⟩
/-- placeOf -/
theorem e182 (h : LPr σ P) (hz : okZ P) {n : Int} (n0 : 0 ≤ n) (n1 : n < tot P) : Call t 182 [vR 53, vI n] σ Q ↔ Q (.inl (some (vI (plc P n)))) σ := Call_iff (fun Q hq => by
  rw [x182_0]
  have := pla (t := t) (Q := Q) h hz n0 n1 hq 4 0 (some (vI n)) (by omega) (by omega) (by rw [stt0]; exact n0)
  rw [stt0, Int.sub_zero] at this
  exact this)
theorem nml (h : LPr σ P) (hz : okZ P) {p : Int} (p0 : 0 ≤ p) (p1 : p < 48) (hq : Q (.inl (some (vI (num P p)))) σ) : ∀ (d : Nat) (f : Int), 0 ≤ f → f + d = p / 12 → wp t 183 7 [some (vR 53), some (vI p), some (vI (p % 12 + stt P f)), some (vI f)] [] σ Q
  | 0, f, f0, hd => by
    have e : f = p / 12 := by omega
    rw [x183_7]
    refine ⟨⟨p0, by omega⟩, ⟨⟨by omega, by omega⟩, ⟨by omega, by omega⟩⟩, fun a => by omega, fun a => ?_⟩
    rw [x183_30, e, Int.add_comm]; exact hq
  | d + 1, f, f0, hd => by
    have hg := LP_z h f0 (show f ≤ 3 by omega)
    have e := stt_succ P f0 (show f ≤ 3 by omega)
    rw [x183_7]
    refine ⟨⟨p0, by omega⟩, ⟨⟨by omega, by omega⟩, ⟨by omega, by omega⟩⟩, fun a => ?_, fun a => by omega⟩
    rw [x183_15, hg, show p % 12 + stt P f + P 58 f = p % 12 + stt P (f + 1) by omega]
    exact ⟨⟨f0, by omega⟩, nml h hz p0 p1 hq d (f + 1) (by omega) (by omega)⟩
/-- numberOf -/
theorem e183 (h : LPr σ P) (hz : okZ P) {p : Int} (p0 : 0 ≤ p) (p1 : p < 48) : Call t 183 [vR 53, vI p] σ Q ↔ Q (.inl (some (vI (num P p)))) σ := Call_iff (fun Q hq => by
  rw [x183_0]
  have := nml (t := t) (Q := Q) h hz p0 p1 hq (p / 12).toNat 0 (by omega) (by omega)
  rw [stt0, Int.add_zero] at this
  exact ⟨⟨p0, by omega⟩, this⟩)
theorem stl (h : LPr σ P) (hP : okP P) {n : Int} (n0 : 0 ≤ n) (n1 : n < tot P) (hq : Q (.inl (some (vI (sn P n)))) σ) : ∀ (d : Nat) (m : Int), 0 ≤ m → m + d = n → wp t 185 4 [some (vR 53), some (vI (plc P n)), some (vI (sn P m)), some (vI m)] [] σ Q
  | 0, m, m0, hd => by
    have ht := tot_rng hP.1
    have hp := plc_rng hP.1 n0 n1
    have e : m = n := by omega
    simp only [x185_4, e183 h hP.1 hp.1 hp.2, num_plc hP.1 n0 n1, x185_10, aft_l, aft_r, optL_s, optL_n, xgo_n, xgo_s, List.cons_append, List.nil_append, List.append_nil, true_and, and_true, Nat.sub_zero, Nat.zero_le, true_implies, false_implies, implies_true, not_true_eq_false, not_false_eq_true, true_or, or_true]
    refine ⟨⟨⟨by omega, by omega⟩, ⟨by omega, by omega⟩⟩, fun a => by omega, fun a => ?_⟩
    rw [x185_41, e]; exact hq
  | d + 1, m, m0, hd => by
    have ht := tot_rng hP.1
    have hp := plc_rng hP.1 n0 n1
    have hm := plc_rng hP.1 m0 (show m < tot P by omega)
    have hk := (hP.2.1 m m0 (by omega)).1
    have e := sn_succ (P := P) m0
    simp only [x185_4, e183 h hP.1 hp.1 hp.2, num_plc hP.1 n0 n1, x185_10, x185_13, e182 h hP.1 m0 (show m < tot P by omega), x185_23, LP_kd h hP.1 m0 (show m < tot P by omega), aft_l, aft_r, optL_s, optL_n, xgo_n, xgo_s, List.cons_append, List.nil_append, List.append_nil, true_and, and_true, Nat.sub_zero, Nat.zero_le, true_implies, false_implies, implies_true, not_true_eq_false, not_false_eq_true, true_or, or_true]
    refine ⟨⟨⟨by omega, by omega⟩, ⟨by omega, by omega⟩⟩, fun a => ⟨⟨hm.1, by omega⟩, ⟨by omega, by omega⟩, fun b => ?_, fun b => ?_⟩, fun a => by omega⟩
    · rw [x185_28, x185_33]
      rw [if_pos b] at e
      rw [← e]; exact stl h hP n0 n1 hq d (m + 1) (by omega) (by omega)
    · rw [x185_32, x185_33]
      rw [if_neg b] at e
      rw [← e]; exact stl h hP n0 n1 hq d (m + 1) (by omega) (by omega)
/-- siteOf -/
theorem e185 (h : LPr σ P) (hP : okP P) {n : Int} (n0 : 0 ≤ n) (n1 : n < tot P) : Call t 185 [vR 53, vI (plc P n)] σ Q ↔ Q (.inl (some (vI (sn P n)))) σ := Call_iff (fun Q hq => by
  rw [x185_0]
  have := stl (t := t) (Q := Q) h hP n0 n1 hq n.toNat 0 (by omega) (by omega)
  exact this)
theorem mnk (h : LPr σ P) (hP : okP P) {q wo f : Int} (hqr : inR q) (hw : inR wo) (f0 : 0 ≤ f) (f1 : f ≤ 3) (hq : ∀ a5, wp t 184 63 [some (vR 53), some (vI q), some (vI wo), some (vI (cn (mg P q wo) (stt P (f + 1)).toNat)), some (vI f), a5] [] σ Q) :
    ∀ (d : Nat) (k : Int), 0 ≤ k → k + d = P 58 f → wp t 184 14 [some (vR 53), some (vI q), some (vI wo), some (vI (cn (mg P q wo) (stt P f + k).toNat)), some (vI f), some (vI k)] [] σ Q
  | 0, k, k0, hd => by
    have hz := okZ_at hP.1 f0 f1
    have e := stt_succ P f0 f1
    rw [x184_14, LP_z h f0 f1]
    refine ⟨⟨f0, by omega⟩, ⟨⟨by omega, by omega⟩, ⟨by omega, by omega⟩⟩, fun a => by omega, fun a => ?_⟩
    rw [show stt P f + k = stt P (f + 1) by omega]
    exact hq _
  | d + 1, k, k0, hd => by
    have hz := okZ_at hP.1 f0 f1
    have hst := stt_rng hP.1 f0 f1
    have hk := (hP.2.1 (stt P f + k) (by omega) (by omega)).1
    have hpl := plc_of hP.1 f0 f1 k0 (show k < P 58 f by omega)
    have how := own_of hP.1 f0 f1 k0 (show k < P 58 f by omega)
    have hkd := LP_kd h hP.1 (n := stt P f + k) (by omega) (by omega)
    rw [hpl] at hkd
    have ih := mnk h hP hqr hw f0 f1 hq d (k + 1) (by omega) (by omega)
    have e1 := cn_succ (mg P q wo) (stt P f + k).toNat
    rw [show (stt P f + k).toNat + 1 = (stt P f + (k + 1)).toNat by omega] at e1
    have e2 : (((stt P f + k).toNat : Nat) : Int) = stt P f + k := by omega
    rw [e2] at e1
    rw [x184_14, LP_z h f0 f1]
    refine ⟨⟨f0, by omega⟩, ⟨⟨by omega, by omega⟩, ⟨by omega, by omega⟩⟩, fun a => ?_, fun a => by omega⟩
    rw [x184_26]
    refine ⟨⟨⟨by omega, by omega⟩, hw⟩, fun b => ?_, fun b => ?_⟩
    · rw [x184_54, x184_55]
      rw [if_neg (fun g => (mg_t.mp g).1 (by rw [how]; exact b))] at e1
      rw [← e1]; exact ih
    · rw [x184_33, show 12 * f + k = 12 * f + k from rfl, hkd]
      refine ⟨⟨by omega, by omega⟩, ⟨⟨by omega, by omega⟩, hqr⟩, fun c => ?_, fun c => ?_⟩
      · rw [x184_50, x184_55]
        rw [if_pos (mg_t.mpr ⟨by rw [how]; exact b, c⟩)] at e1
        rw [← e1]; exact ih
      · rw [x184_54, x184_55]
        rw [if_neg (fun g => c (mg_t.mp g).2)] at e1
        rw [← e1]; exact ih
theorem mnf (h : LPr σ P) (hP : okP P) {q wo : Int} (hqr : inR q) (hw : inR wo) (hq : Q (.inl (some (vI (mny P q wo)))) σ) : ∀ (d : Nat) (f : Int) (a5 : Option AV), 0 ≤ f → f + d = 4 → wp t 184 5 [some (vR 53), some (vI q), some (vI wo), some (vI (cn (mg P q wo) (stt P f).toNat)), some (vI f), a5] [] σ Q
  | 0, f, a5, f0, hd => by
    have e : f = 4 := by omega
    rw [x184_5]
    refine ⟨⟨by omega, by omega⟩, fun a => by omega, fun a => ?_⟩
    rw [x184_69, e, stt4]; exact hq
  | d + 1, f, a5, f0, hd => by
    have hz := okZ_at hP.1 f0 (show f ≤ 3 by omega)
    rw [x184_5]
    refine ⟨⟨by omega, by omega⟩, fun a => ?_, fun a => by omega⟩
    rw [x184_11]
    have := mnk (t := t) (Q := Q) h hP hqr hw f0 (show f ≤ 3 by omega) (fun a5 => by
      rw [x184_63]; exact mnf h hP hqr hw hq d (f + 1) _ (by omega) (by omega)) (P 58 f).toNat 0 (by omega) (by omega)
    rw [Int.add_zero] at this
    exact this
/-- many -/
theorem e184 (h : LPr σ P) (hP : okP P) {q wo : Int} (hqr : inR q) (hw : inR wo) : Call t 184 [vR 53, vI q, vI wo] σ Q ↔ Q (.inl (some (vI (mny P q wo)))) σ := Call_iff (fun Q hq => by
  rw [x184_0]
  exact mnf h hP hqr hw hq 4 0 _ (by omega) (by omega))
theorem e177 {a b c : Int} (ha : inR a) (hb : inR b) (hc : inR c) : Call t 177 [vI a, vI b, vI c] σ Q ↔ Q (.inl (some (vI (b2i (dcl (b ≤ a ∧ a ≤ c)))))) σ := Call_iff (fun Q hq => by
  rw [x177_0]
  refine ⟨⟨ha, hb⟩, fun h => ?_, fun h => ?_⟩
  · rw [x177_14, x177_15]
    rw [dcl_f (by omega), b2i_f] at hq; exact ⟨Or.inl rfl, hq⟩
  · rw [x177_5]
    refine ⟨⟨ha, hc⟩, fun h2 => ?_, fun h2 => ?_⟩
    · rw [x177_14, x177_15]
      rw [dcl_f (by omega), b2i_f] at hq; exact ⟨Or.inl rfl, hq⟩
    · rw [x177_10, x177_15]
      rw [dcl_t (by omega), b2i_t] at hq; exact ⟨Or.inr rfl, hq⟩)
theorem e179 {a : Int} (ha : inR a) : Call t 179 [vI a] σ Q ↔ Q (.inl (some (vI (b2i (dcl (0 ≤ a ∧ a < 4)))))) σ := Call_iff (fun Q hq => by
  rw [x179_0]
  refine ⟨ha, fun h => ?_, fun h => ?_⟩
  · rw [x179_13, x179_14]
    rw [dcl_f (by omega), b2i_f] at hq; exact ⟨Or.inl rfl, hq⟩
  · rw [x179_4]
    refine ⟨ha, fun h2 => ?_, fun h2 => ?_⟩
    · rw [x179_9, x179_14]
      rw [dcl_t (by omega), b2i_t] at hq; exact ⟨Or.inr rfl, hq⟩
    · rw [x179_13, x179_14]
      rw [dcl_f (by omega), b2i_f] at hq; exact ⟨Or.inl rfl, hq⟩)
theorem e180 {a : Int} (ha : inR a) : Call t 180 [vI a] σ Q ↔ Q (.inl (some (vI (b2i (dcl (0 ≤ a ∧ a < 20)))))) σ := Call_iff (fun Q hq => by
  rw [x180_0]
  refine ⟨ha, fun h => ?_, fun h => ?_⟩
  · rw [x180_14, x180_15]
    rw [dcl_f (by omega), b2i_f] at hq; exact ⟨Or.inl rfl, hq⟩
  · rw [x180_4]
    refine ⟨ha, fun h2 => ?_, fun h2 => ?_⟩
    · rw [x180_10, x180_15]
      rw [dcl_t (by omega), b2i_t] at hq; exact ⟨Or.inr rfl, hq⟩
    · rw [x180_14, x180_15]
      rw [dcl_f (by omega), b2i_f] at hq; exact ⟨Or.inl rfl, hq⟩)
end LPR
