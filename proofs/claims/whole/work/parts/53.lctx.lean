/-! the law's contexts -/
theorem cod_rng {k : Int} (h0 : 0 ≤ k) (h1 : k < 2353) : 0 ≤ cod k ∧ cod k < 30000 := by
  unfold cod
  split
  · omega
  · split <;> omega
theorem cod_inj {j k : Int} (j0 : 0 ≤ j) (j1 : j < 2353) (k0 : 0 ≤ k) (k1 : k < 2353) (h : cod j = cod k) : j = k := by
  rcases Int.lt_trichotomy j k with g | g | g
  · have := cod_lt j0 g k1; omega
  · exact g
  · have := cod_lt k0 g j1; omega
theorem cod_lt_iff {j k : Int} (j0 : 0 ≤ j) (j1 : j < 2353) (k0 : 0 ≤ k) (k1 : k < 2353) : cod j < cod k ↔ j < k := by
  constructor
  · intro h
    rcases Int.lt_trichotomy j k with g | g | g
    · exact g
    · rw [g] at h; omega
    · have := cod_lt k0 g j1; omega
  · intro h; exact cod_lt j0 h k1
def LE1 (σ : St) (i e : Int) : Prop := gI σ 60 i = e / 2353 ∧ gI σ 61 i = cod (e % 2353)
def LX (σ : St) (zs : List Int) : Prop := (gI σ 53 16 = zs.length ∧ zs.length ≤ 31) ∧ ((∀ i : Int, 0 ≤ i → i < zs.length → LE1 σ i (la zs i)) ∧ ∀ z ∈ zs, 0 ≤ z ∧ z < 9412)
theorem LX_fr {M : Nat → Int → Prop} {σ σ' : St} {zs : List Int} (h : LX σ zs) (g : fr M σ σ') (h0 : ¬ M 53 16) (h1 : ∀ j, ¬ M 60 j) (h2 : ∀ j, ¬ M 61 j) : LX σ' zs :=
  ⟨⟨(fr_I g _ _ h0).trans h.1.1, h.1.2⟩, fun i i0 i1 => ⟨(fr_I g _ _ (h1 i)).trans (h.2.1 i i0 i1).1, (fr_I g _ _ (h2 i)).trans (h.2.1 i i0 i1).2⟩, h.2.2⟩
section LC
variable {t : Nat} {σ : St} {Q : Res → St → Prop} {P : Pg}
theorem e207 {k n lim : Int} (k0 : 0 ≤ k) (k1 : k < 2353) (n0 : 0 ≤ n) (n1 : n < 48) (hl : 0 ≤ lim ∧ lim ≤ 2) : Call t 207 [vI (cod k), vI n, vI lim] σ Q ↔ Q (.inl (some (vI (cod (ext lim k n))))) σ := Call_iff (fun Q hq => by
  have hc := cod_rng k0 k1
  rw [cod_ext k0 k1 n0 n1] at hq
  rw [x207_0]
  refine ⟨⟨by omega, by omega⟩, fun a => ?_, fun a => ?_⟩
  · rw [if_pos a] at hq
    rw [x207_4]; exact hq
  · rw [if_neg a] at hq
    rw [x207_6]
    refine ⟨⟨by omega, by omega⟩, fun b => ?_, fun b => ?_⟩
    · rw [if_pos (Or.inl b)] at hq
      rw [x207_15]; exact hq
    · rw [x207_11]
      refine ⟨⟨by omega, by omega⟩, fun c => ?_, fun c => ?_⟩
      · rw [if_pos (Or.inr c)] at hq
        rw [x207_15]; exact hq
      · rw [if_neg (fun d => d.elim b c)] at hq
        rw [x207_21]; exact ⟨⟨by omega, by omega⟩, hq⟩)
theorem cxo {zs : List Int} {f k : Int} (hX : LX σ zs) (f0 : 0 ≤ f) (f1 : f ≤ 3) (k0 : 0 ≤ k) (k1 : k < 2353) (h1 : ∀ i : Int, 0 ≤ i → i < zs.length → la zs i = f * 2353 + k → Q (.inl (some (vI i))) σ) (h2 : f * 2353 + k ∉ zs → Q (.inl (some (vI (-1)))) σ) :
    ∀ (d : Nat) (i : Int), 0 ≤ i → i + d = zs.length → (∀ j, 0 ≤ j → j < i → la zs j ≠ f * 2353 + k) → wp t 206 2 [some (vR 53), some (vI f), some (vI (cod k)), some (vI i)] [] σ Q
  | 0, i, i0, hd, hn => by
    have hl := hX.1.2
    rw [x206_2, hX.1.1]
    refine ⟨⟨⟨by omega, by omega⟩, ⟨by omega, by omega⟩⟩, fun h => by omega, fun _ => ?_⟩
    rw [x206_38]
    exact h2 (fun hm => by
      obtain ⟨j, j0, j1, e⟩ := mem_la hm
      exact hn j j0 (by omega) e)
  | d + 1, i, i0, hd, hn => by
    have hl := hX.1.2
    have hc := cod_rng k0 k1
    obtain ⟨g1, g2⟩ := hX.2.1 i i0 (by omega)
    have hr := hX.2.2 _ (la_mem i0 (show i < zs.length by omega))
    have hcr := cod_rng (k := la zs i % 2353) (by omega) (by omega)
    have nxt : la zs i ≠ f * 2353 + k → wp t 206 32 [some (vR 53), some (vI f), some (vI (cod k)), some (vI i)] [] σ Q := fun e => by
      rw [x206_32]
      exact cxo hX f0 f1 k0 k1 h1 h2 d (i + 1) (by omega) (by omega) (fun j j0 j1 => by
        by_cases c : j = i
        · rw [c]; exact e
        · exact hn j j0 (by omega))
    rw [x206_2, hX.1.1]
    refine ⟨⟨⟨by omega, by omega⟩, ⟨by omega, by omega⟩⟩, fun h => ?_, fun _ => by omega⟩
    rw [x206_10, g1]
    refine ⟨⟨i0, by omega⟩, ⟨⟨by omega, by omega⟩, ⟨by omega, by omega⟩⟩, fun a => ?_, fun a => nxt (by omega)⟩
    rw [x206_20, g2]
    refine ⟨⟨i0, by omega⟩, ⟨⟨by omega, by omega⟩, ⟨by omega, by omega⟩⟩, fun b => ?_, fun b => nxt (fun e => b (by rw [show la zs i % 2353 = k by omega]))⟩
    rw [x206_30]
    have := cod_inj (by omega) (by omega) k0 k1 b
    exact h1 i i0 (by omega) (by omega)
/-- contextOf -/
theorem c206 {zs : List Int} {f k : Int} (hX : LX σ zs) (f0 : 0 ≤ f) (f1 : f ≤ 3) (k0 : 0 ≤ k) (k1 : k < 2353) (h1 : ∀ i : Int, 0 ≤ i → i < zs.length → la zs i = f * 2353 + k → Q (.inl (some (vI i))) σ) (h2 : f * 2353 + k ∉ zs → Q (.inl (some (vI (-1)))) σ) : Call t 206 [vR 53, vI f, vI (cod k)] σ Q := by
  rw [x206_0]
  exact cxo hX f0 f1 k0 k1 h1 h2 zs.length 0 (by omega) (by omega) (fun j j0 j1 => by omega)
def cM : Nat → Int → Prop := fun c j => c = 60 ∨ c = 61 ∨ (c = 53 ∧ j = 16)
theorem LE1_put {σ : St} {i e : Int} : LE1 (sI (sI σ 60 i (e / 2353)) 61 i (cod (e % 2353))) i e := by
  unfold LE1
  rw [gI_rne (by decide), gI_sI, if_pos ⟨rfl, rfl⟩, gI_sI, if_pos ⟨rfl, rfl⟩]
  exact ⟨rfl, rfl⟩
theorem LE1_ne {σ : St} {i j e v w : Int} (h : LE1 σ i e) (hne : i ≠ j) : LE1 (sI (sI σ 60 j v) 61 j w) i e := by
  unfold LE1 at *
  rw [gI_rne (by decide), gI_sI, if_neg (fun k => hne k.2), gI_sI, if_neg (fun k => hne k.2), gI_rne (by decide)]
  exact h
theorem acl {zs : List Int} {f k : Int} (hz : zs.Pairwise (· < ·)) (hzr : ∀ z ∈ zs, 0 ≤ z ∧ z < 9412) (hlen : zs.length ≤ 30) (hw : f * 2353 + k ∉ zs) (f0 : 0 ≤ f) (f1 : f ≤ 3) (k0 : 0 ≤ k) (k1 : k < 2353)
    (hq : ∀ σ' (p : Nat), p ≤ zs.length → (insA p (f * 2353 + k) zs).Pairwise (· < ·) → LX σ' (insA p (f * 2353 + k) zs) → fr cM σ σ' → Q (.inl none) σ') :
    ∀ (p : Nat) (σ1 : St), p ≤ zs.length → gI σ1 53 16 = zs.length → fr cM σ σ1 → (∀ i : Int, 0 ≤ i → i < p → LE1 σ1 i (la zs i)) → (∀ i : Int, (p : Int) < i → i ≤ zs.length → LE1 σ1 i (la zs (i - 1))) → (∀ i : Int, (p : Int) ≤ i → i < zs.length → f * 2353 + k < la zs i) → wp t 208 5 [some (vR 53), some (vI f), some (vI (cod k)), some (vI p)] [] σ1 Q := by
  have hc := cod_rng k0 k1
  have done : ∀ (p : Nat) (σ1 : St), p ≤ zs.length → gI σ1 53 16 = zs.length → fr cM σ σ1 → (∀ i : Int, 0 ≤ i → i < p → LE1 σ1 i (la zs i)) → (∀ i : Int, (p : Int) < i → i ≤ zs.length → LE1 σ1 i (la zs (i - 1))) → (∀ i : Int, (p : Int) ≤ i → i < zs.length → f * 2353 + k < la zs i) → (∀ i : Int, 0 ≤ i → i < (p : Int) → la zs i < f * 2353 + k) → wp t 208 79 [some (vR 53), some (vI f), some (vI (cod k)), some (vI p)] [] σ1 Q := by
    intro p σ1 hp h16 hf h1 h2 h3 h4
    have g16 : gI (sI (sI σ1 60 p f) 61 p (cod k)) 53 16 = zs.length := by rw [gI_rne (by decide), gI_rne (by decide)]; exact h16
    rw [x208_79, g16]
    refine ⟨⟨by omega, by omega⟩, ⟨by omega, by omega⟩, hq _ p hp (insA_asc hz hp (fun i i0 i1 => h4 i i0 i1) (fun i i0 i1 => h3 i i0 i1)) ⟨⟨?_, by rw [insA_len hp]; omega⟩, fun i i0 i1 => ?_, fun z hm => ?_⟩ (fr_sI (fr_sI (fr_sI hf (by unfold cM; omega)) (by unfold cM; omega)) (by unfold cM; omega))⟩
    · rw [gI_sI, if_pos ⟨rfl, rfl⟩, insA_len hp]; omega
    · rw [insA_len hp] at i1
      have key : LE1 (sI (sI σ1 60 p f) 61 p (cod k)) i (la (insA p (f * 2353 + k) zs) i) := by
        rw [insA_la hp i0]
        by_cases a : i < p
        · rw [if_pos a]; exact LE1_ne (h1 i i0 a) (by omega)
        · rw [if_neg a]
          by_cases b : i = p
          · rw [if_pos b, b]
            have e1 : (f * 2353 + k) / 2353 = f := by omega
            have e2 : (f * 2353 + k) % 2353 = k := by omega
            have := LE1_put (σ := σ1) (i := p) (e := f * 2353 + k)
            rw [e1, e2] at this
            exact this
          · rw [if_neg b]; exact LE1_ne (h2 i (by omega) (by omega)) b
      unfold LE1 at *
      rw [gI_rne (by decide), gI_rne (by decide)]; exact key
    · rcases insA_mem.mp hm with e | e
      · omega
      · exact hzr z e
  intro p
  induction p with
  | zero =>
    intro σ1 hp h16 hf h1 h2 h3
    rw [x208_5]
    exact ⟨⟨by omega, by omega⟩, fun h => by omega, fun _ => done 0 σ1 hp h16 hf h1 h2 h3 (fun i i0 i1 => by omega)⟩
  | succ p ih =>
    intro σ1 hp h16 hf h1 h2 h3
    have e1 : (((p + 1 : Nat) : Int) - 1) = (p : Int) := by omega
    obtain ⟨g1, g2⟩ := h1 p (by omega) (by omega)
    have hzp := hzr _ (la_mem (xs := zs) (i := p) (by omega) (by omega))
    have hcz := cod_rng (k := la zs p % 2353) (by omega) (by omega)
    have hne : la zs p ≠ f * 2353 + k := fun e => hw (e ▸ la_mem (by omega) (by omega))
    have shift : f * 2353 + k < la zs p → wp t 208 45 [some (vR 53), some (vI f), some (vI (cod k)), some (vI ((p + 1 : Nat) : Int))] [] σ1 Q := fun hlt => by
      have g2' : gI (sI σ1 60 ((p + 1 : Nat) : Int) (gI σ1 60 p)) 61 p = cod (la zs p % 2353) := by rw [gI_rne (by decide)]; exact g2
      rw [x208_45, e1, g2', g1, show ((p + 1 : Nat) : Int) + -1 = (p : Int) by omega]
      refine ⟨⟨by omega, by omega⟩, ⟨by omega, by omega⟩, ⟨by omega, by omega⟩, ⟨by omega, by omega⟩, ih _ (by omega) ?_ (fr_sI (fr_sI hf (by unfold cM; omega)) (by unfold cM; omega)) (fun i i0 i1 => LE1_ne (h1 i i0 (by omega)) (by omega)) (fun i i0 i1 => ?_) (fun i i0 i1 => ?_)⟩
      · rw [gI_rne (by decide), gI_rne (by decide)]; exact h16
      · by_cases c : i = ((p + 1 : Nat) : Int)
        · rw [c, e1]; exact LE1_put
        · exact LE1_ne (h2 i (by omega) i1) c
      · by_cases c : i = p
        · rw [c]; exact hlt
        · exact h3 i (by omega) i1
    have stop : la zs p < f * 2353 + k → wp t 208 79 [some (vR 53), some (vI f), some (vI (cod k)), some (vI ((p + 1 : Nat) : Int))] [] σ1 Q := fun hgt =>
      done (p + 1) σ1 hp h16 hf h1 h2 h3 (fun i i0 i1 => by
        by_cases c : i = p
        · rw [c]; exact hgt
        · have := asc_la hz i0 (show i < p by omega) (by omega); omega)
    rw [x208_5]
    refine ⟨⟨by omega, by omega⟩, fun _ => ?_, fun h => by omega⟩
    rw [x208_9, e1, g1]
    refine ⟨⟨by omega, by omega⟩, ⟨⟨by omega, by omega⟩, ⟨by omega, by omega⟩⟩, fun a => shift (by omega), fun a => ?_⟩
    rw [x208_21, e1, g1]
    refine ⟨⟨by omega, by omega⟩, ⟨⟨by omega, by omega⟩, ⟨by omega, by omega⟩⟩, fun b => ?_, fun b => stop (by omega)⟩
    rw [x208_33, e1, g2]
    refine ⟨⟨by omega, by omega⟩, ⟨⟨by omega, by omega⟩, ⟨by omega, by omega⟩⟩, fun c => ?_, fun c => ?_⟩
    · rw [cod_lt_iff k0 k1 (by omega) (by omega)] at c
      exact shift (by omega)
    · rw [cod_lt_iff k0 k1 (by omega) (by omega)] at c
      exact stop (by omega)
/-- addsContext -/
theorem c208 {zs : List Int} {f k : Int} (hX : LX σ zs) (hz : zs.Pairwise (· < ·)) (hlen : zs.length ≤ 30) (hw : f * 2353 + k ∉ zs) (f0 : 0 ≤ f) (f1 : f ≤ 3) (k0 : 0 ≤ k) (k1 : k < 2353)
    (hq : ∀ σ' (p : Nat), p ≤ zs.length → (insA p (f * 2353 + k) zs).Pairwise (· < ·) → LX σ' (insA p (f * 2353 + k) zs) → fr cM σ σ' → Q (.inl none) σ') : Call t 208 [vR 53, vI f, vI (cod k)] σ Q := by
  rw [x208_0, hX.1.1]
  exact acl hz hX.2.2 hlen hw f0 f1 k0 k1 hq zs.length σ (Nat.le_refl _) hX.1.1 fr_refl hX.2.1 (fun i i0 i1 => by omega) (fun i i0 i1 => by omega)
theorem fcn {lim : Int} (hP : okP P) (hl : 0 ≤ lim ∧ lim ≤ 2) {zs : List Int} {c e : Int} {σ1 : St} (hLP : LPr σ1 P) (hX : LX σ1 zs) (hz : zs.Pairwise (· < ·)) (hW : WL P lim zs) (he : RS P lim e) {σ0 : St} (hf : fr cM σ0 σ1)
    (hno : (∀ e', stepC P lim e e' → e' ∈ zs) → ∀ a7 a8 i6, wp t 209 137 [some (vR 53), some (vI lim), some (vI c), some (vI 0), some (vI (e / 2353)), some (vI (cod (e % 2353))), some (vI i6), a7, a8] [] σ1 Q)
    (hyes : ∀ σ' zs' a7 a8 i6, LX σ' zs' → zs'.Pairwise (· < ·) → WL P lim zs' → zs'.length = zs.length + 1 → (∀ z ∈ zs, z ∈ zs') → fr cM σ0 σ' → wp t 209 137 [some (vR 53), some (vI lim), some (vI c), some (vI 1), some (vI (e / 2353)), some (vI (cod (e % 2353))), some (vI i6), a7, a8] [] σ' Q) :
    ∀ (d : Nat) (k : Int) (a7 a8 : Option AV), 0 ≤ k → k + d = P 58 (e / 2353) → (∀ n, isCall P n → own P n = e / 2353 → n < stt P (e / 2353) + k → nn P n * 2353 + ext lim (e % 2353) n ∈ zs) → wp t 209 42 [some (vR 53), some (vI lim), some (vI c), some (vI 0), some (vI (e / 2353)), some (vI (cod (e % 2353))), some (vI k), a7, a8] [] σ1 Q
  | 0, k, a7, a8, k0, hd, hi => by
    have hk := RS_key hP he
    have hz0 := okZ_at hP.1 hk.2.1.1 hk.2.1.2
    rw [x209_42, LP_z hLP hk.2.1.1 hk.2.1.2]
    refine ⟨⟨by omega, by omega⟩, ⟨⟨by omega, by omega⟩, ⟨by omega, by omega⟩⟩, fun h => by omega, fun _ => hno (fun e' h => ?_) _ _ _⟩
    obtain ⟨n, h1, h2, rfl⟩ := h
    have h3 := call_of hP.1 h1
    rw [h2] at h3
    have := stt_succ P hk.2.1.1 hk.2.1.2
    exact hi n h1 h2 (by omega)
  | d + 1, k, a7, a8, k0, hd, hi => by
    have hk := RS_key hP he
    have hz0 := okZ_at hP.1 hk.2.1.1 hk.2.1.2
    have hs := stt_rng hP.1 hk.2.1.1 hk.2.1.2
    have ht := tot_rng hP.1
    have n0 : 0 ≤ stt P (e / 2353) + k := by omega
    have n1 : stt P (e / 2353) + k < tot P := by omega
    have hpl := plc_of hP.1 hk.2.1.1 hk.2.1.2 k0 (show k < P 58 (e / 2353) by omega)
    have how := own_of hP.1 hk.2.1.1 hk.2.1.2 k0 (show k < P 58 (e / 2353) by omega)
    have hkd := LP_kd hLP hP.1 n0 n1
    have hnn := LP_nn hLP hP.1 n0 n1
    have hnum := num_plc hP.1 n0 n1
    have hpr := plc_rng hP.1 n0 n1
    have hkr := (hP.2.1 _ n0 n1)
    have hc := cod_rng hk.2.2.1 hk.2.2.2
    have he2 := ext_rng (lim := lim) (k := e % 2353) (c := stt P (e / 2353) + k) hk.2.2.1 hk.2.2.2 n0 (by omega)
    rw [hpl] at hkd hnn hnum hpr
    have skip : (kd P (stt P (e / 2353) + k) = 6 → nn P (stt P (e / 2353) + k) * 2353 + ext lim (e % 2353) (stt P (e / 2353) + k) ∈ zs) → ∀ a7 a8, wp t 209 131 [some (vR 53), some (vI lim), some (vI c), some (vI 0), some (vI (e / 2353)), some (vI (cod (e % 2353))), some (vI k), a7, a8] [] σ1 Q := fun hs a7 a8 => by
      rw [x209_131]
      exact fcn hP hl hLP hX hz hW he hf hno hyes d (k + 1) a7 a8 (by omega) (by omega) (fun n h1 h2 h3 => by
        by_cases q : n = stt P (e / 2353) + k
        · rw [q]; rw [q] at h1; exact hs h1.2.2
        · exact hi n h1 h2 (by omega))
    rw [x209_42, LP_z hLP hk.2.1.1 hk.2.1.2]
    refine ⟨⟨by omega, by omega⟩, ⟨⟨by omega, by omega⟩, ⟨by omega, by omega⟩⟩, fun _ => ?_, fun h => by omega⟩
    rw [x209_54]
    refine ⟨by decide, fun _ => ?_, fun h => absurd rfl h⟩
    rw [x209_58, hkd]
    refine ⟨⟨by omega, by omega⟩, ⟨by omega, by omega⟩, fun h6 => ?_, fun h6 => ?_⟩
    · simp only [x209_83, e183 hLP hP.1 hpr.1 hpr.2, hnum, x209_91, e207 hk.2.2.1 hk.2.2.2 n0 (show stt P (e / 2353) + k < 48 by omega) hl, x209_95, hnn, aft_l, aft_r, optL_s, optL_n, xgo_n, xgo_s, List.cons_append, List.nil_append, List.append_nil, true_and, and_true, Nat.sub_zero, Nat.zero_le, true_implies, false_implies, implies_true, not_true_eq_false, not_false_eq_true, true_or, or_true]
      refine ⟨⟨by omega, by omega⟩, c206 hX hkr.2.1.2.2.1 hkr.2.1.2.2.2 he2.1 he2.2 (fun i i0 i1 hm => ?_) (fun hm => ?_)⟩
      · have hl31 := hX.1.2
        simp only [x209_110, x209_113, aft_l, aft_r, optL_s, optL_n, xgo_n, xgo_s, List.cons_append, List.nil_append, List.append_nil, true_and, and_true, Nat.sub_zero, Nat.zero_le, true_implies, false_implies, implies_true, not_true_eq_false, not_false_eq_true, true_or, or_true]
        refine ⟨⟨by omega, by omega⟩, fun h => by omega, fun _ => skip (fun _ => hm ▸ la_mem i0 i1) _ _⟩
      · have hst : stepC P lim e (nn P (stt P (e / 2353) + k) * 2353 + ext lim (e % 2353) (stt P (e / 2353) + k)) := ⟨_, ⟨n0, n1, h6⟩, how, rfl⟩
        have hR := RS_step he hst
        have hW2 : WL P lim (zs ++ [nn P (stt P (e / 2353) + k) * 2353 + ext lim (e % 2353) (stt P (e / 2353) + k)]) := WL_app hW hR hm
        have hl2 := WL_len hP hW2
        rw [List.length_append, List.length_singleton] at hl2
        simp only [x209_110, x209_116, hnn, (show inR (-1 : Int) = True from eq_true ⟨by decide, by decide⟩), Int.reduceLT, Int.reduceNeg, aft_l, aft_r, optL_s, optL_n, xgo_n, xgo_s, List.cons_append, List.nil_append, List.append_nil, true_and, and_true, Nat.sub_zero, Nat.zero_le, true_implies, false_implies, implies_true, not_true_eq_false, not_false_eq_true, true_or, or_true]
        refine ⟨⟨by omega, by omega⟩, c208 hX hz (by omega) hm hkr.2.1.2.2.1 hkr.2.1.2.2.2 he2.1 he2.2 (fun σ' p hp hz' hX' hf' => ?_)⟩
        simp only [x209_129, x209_131, aft_l, aft_r, optL_s, optL_n, xgo_n, xgo_s, List.cons_append, List.nil_append, List.append_nil, true_and, and_true, Nat.sub_zero, Nat.zero_le, true_implies, false_implies, implies_true, not_true_eq_false, not_false_eq_true, true_or, or_true]
        have hzf := fr_I hf' 58 (e / 2353) (by unfold cM; omega)
        rw [x209_42, hzf, LP_z hLP hk.2.1.1 hk.2.1.2]
        have hyes' := fun a7 a8 i6 => hyes σ' _ a7 a8 i6 hX' hz' ⟨asc_nd hz', fun x hx => by
            rcases insA_mem.mp hx with rfl | g
            · exact hR
            · exact hW.2 x g⟩ (insA_len hp) (fun z hz => insA_mem.mpr (Or.inr hz)) (fr_trans hf hf')
        refine ⟨⟨by omega, by omega⟩, ⟨⟨by omega, by omega⟩, ⟨by omega, by omega⟩⟩, fun _ => ?_, fun _ => hyes' _ _ _⟩
        rw [x209_54]
        exact ⟨by decide, fun h => absurd h (by decide), fun _ => hyes' _ _ _⟩
    · rw [x209_80]
      exact skip (fun h => absurd h h6) _ _
theorem fco {lim : Int} (hP : okP P) (hl : 0 ≤ lim ∧ lim ≤ 2) {σ0 : St} (hLP : LPr σ0 P) (hq : ∀ σ' zs, LX σ' zs → isC P lim zs → fr cM σ0 σ' → Q (.inl none) σ') :
    ∀ (N M : Nat) (zs : List Int) (c : Int) (σ1 : St) (a3 a4 a5 a6 a7 a8 : Option AV), zs.length + N = 32 → 0 ≤ c → c + M = zs.length → LX σ1 zs → zs.Pairwise (· < ·) → WL P lim zs → (0 : Int) ∈ zs → fr cM σ0 σ1 → (∀ j : Int, 0 ≤ j → j < c → ∀ e', stepC P lim (la zs j) e' → e' ∈ zs) → wp t 209 13 [some (vR 53), some (vI lim), some (vI c), a3, a4, a5, a6, a7, a8] [] σ1 Q := by
  intro N
  induction N with
  | zero =>
    intro M zs c σ1 a3 a4 a5 a6 a7 a8 hN c0 hM hX hz hW h0 hf hcl
    have := hX.1.2
    omega
  | succ N ihN =>
    intro M
    induction M with
    | zero =>
      intro zs c σ1 a3 a4 a5 a6 a7 a8 hN c0 hM hX hz hW h0 hf hcl
      have := hX.1.2
      rw [x209_13, hX.1.1]
      refine ⟨⟨⟨by omega, by omega⟩, ⟨by omega, by omega⟩⟩, fun h => by omega, fun _ => ?_⟩
      rw [x209_152]
      refine hq σ1 zs hX ⟨hz, fun e => ⟨hW.2 e, fun hR => ?_⟩⟩ hf
      exact hR (fun e => e ∈ zs) h0 (fun a b ha hs => by
        obtain ⟨j, j0, j1, rfl⟩ := mem_la ha
        exact hcl j j0 (by omega) b hs)
    | succ M ihM =>
      intro zs c σ1 a3 a4 a5 a6 a7 a8 hN c0 hM hX hz hW h0 hf hcl
      have hlen := hX.1.2
      have he := hW.2 _ (la_mem c0 (show c < zs.length by omega))
      have hk := RS_key hP he
      have hz0 := okZ_at hP.1 hk.2.1.1 hk.2.1.2
      obtain ⟨g1, g2⟩ := hX.2.1 c c0 (by omega)
      have hLP1 : LPr σ1 P := LP_fr hLP hf (fun c j k => by unfold cM at k; omega)
      rw [x209_13, hX.1.1]
      refine ⟨⟨⟨by omega, by omega⟩, ⟨by omega, by omega⟩⟩, fun _ => ?_, fun h => by omega⟩
      rw [x209_21, g1, g2]
      refine ⟨⟨c0, by omega⟩, ⟨c0, by omega⟩, ?_⟩
      refine fcn hP hl hLP1 hX hz hW he hf (fun hall a7 a8 i6 => ?_) (fun σ' zs' a7 a8 i6 hX' hz' hW' hl' hsub hf' => ?_) (P 58 (la zs c / 2353)).toNat 0 _ _ (by omega) (by omega) (fun n h1 h2 h3 => ?_)
      · rw [x209_137]
        refine ⟨by decide, fun _ => ?_, fun h => absurd rfl h⟩
        rw [x209_145, x209_148]
        exact ihM zs (c + 1) σ1 _ _ _ _ _ _ hN (by omega) (by omega) hX hz hW h0 hf (fun j j0 j1 => by
          by_cases q : j = c
          · rw [q]; exact hall
          · exact hcl j j0 (by omega))
      · rw [x209_137]
        refine ⟨by decide, fun h => absurd h (by decide), fun _ => ?_⟩
        rw [x209_141, x209_148]
        exact ihN zs'.length zs' 0 σ' _ _ _ _ _ _ (by omega) (by omega) (by omega) hX' hz' hW' (hsub 0 h0) hf' (fun j j0 j1 => by omega)
      · have h4 := call_of hP.1 h1
        rw [h2] at h4; omega
/-- findContexts -/
theorem c209 {lim : Int} (hP : okP P) (hl : 0 ≤ lim ∧ lim ≤ 2) (hLP : LPr σ P) (hq : ∀ σ' zs, LX σ' zs → isC P lim zs → fr cM σ σ' → Q (.inl none) σ') : Call t 209 [vR 53, vI lim] σ Q := by
  have hf0 : fr cM σ (sI σ 53 16 0) := fr_sI fr_refl (by unfold cM; omega)
  have hX0 : LX (sI σ 53 16 0) [] := ⟨⟨by rw [gI_sI, if_pos ⟨rfl, rfl⟩]; rfl, Nat.zero_le _⟩, fun i i0 i1 => by rw [List.length_nil] at i1; omega, fun z hz => by cases hz⟩
  rw [x209_0]
  have c8 := c208 (t := 0) (σ := sI σ 53 16 0) (zs := []) (f := 0) (k := 0) (Q := fun r σ' => aft r (fun vs => wp t 209 11 [some (vR 53), some (vI lim), none, none, none, none, none, none, none] (vs ++ []) σ' Q) (fun X => Q (.inr X) σ')) hX0 List.Pairwise.nil (by decide) (by simp) (by omega) (by omega) (by omega) (by omega) (fun σ' p hp hz hX hf => by
    have ep : insA p (0 * 2353 + 0) [] = [0] := by
      have : p = 0 := by simpa using hp
      rw [this]; rfl
    rw [ep] at hz hX
    simp only [x209_11, aft_l, aft_r, optL_s, optL_n, xgo_n, xgo_s, List.cons_append, List.nil_append, List.append_nil, true_and, and_true, Nat.sub_zero, Nat.zero_le, true_implies, false_implies, implies_true, not_true_eq_false, not_false_eq_true, true_or, or_true]
    exact fco hP hl (LP_fr hLP (fr_trans hf0 hf) (fun c j k => by unfold cM at k; omega)) (fun σ2 zs h1 h2 h3 => hq σ2 zs h1 h2 (fr_trans (fr_trans hf0 hf) h3)) 31 1 [0] 0 σ' _ _ _ _ _ _ rfl (by omega) (by rfl) hX hz ⟨by unfold List.Nodup; exact List.pairwise_singleton _ _, fun x hx => by rw [List.mem_singleton.mp hx]; exact RS_0 P lim⟩ (List.mem_singleton.mpr rfl) fr_refl (fun j j0 j1 => by omega))
  exact c8
end LC
