/-! the class's unification -/
def EQ (P : Pg) (n : Int) (s t : Tm) : Prop :=
  (kd P n = 0 ∧ (s = (vv P n, 1) ∧ t = (ww P n, 0))) ∨
  ((kd P n = 2 ∧ (s = (vv P n, 1) ∧ t = (ww P n, 2))) ∨
  ((kd P n = 3 ∧ (s = (vv P n, 2) ∧ t = (ww P n, 1))) ∨
  ((kd P n = 4 ∧ (s = (vv P n, 1) ∧ t = (20 + sn P n, 0))) ∨
  ((kd P n = 6 ∧ ((s = (4 + 4 * nn P n, 1) ∧ t = (ww P n, 1)) ∨ (s = (vv P n, 1) ∧ t = (4 + 4 * nn P n + 1, 1)))) ∨
  ((kd P n = 1 ∨ kd P n = 5) ∧ (s = (vv P n, 1) ∧ t = (ww P n, 1)))))))
def EQs (P : Pg) (m : Int) (s t : Tm) : Prop := ∃ n, 0 ≤ n ∧ (n < m ∧ EQ P n s t)
theorem EQs_0 (P : Pg) : EQs P 0 = fun _ _ => False := by
  funext s t
  apply propext
  exact ⟨fun ⟨n, n0, n1, _⟩ => by omega, fun h => h.elim⟩
theorem EQs_succ {P : Pg} {m : Int} (m0 : 0 ≤ m) : EQs P (m + 1) = fun s t => EQs P m s t ∨ EQ P m s t := by
  funext s t
  apply propext
  constructor
  · rintro ⟨n, n0, n1, h⟩
    by_cases q : n = m
    · rw [q] at h; exact Or.inr h
    · exact Or.inl ⟨n, n0, by omega, h⟩
  · rintro (⟨n, n0, n1, h⟩ | h)
    · exact ⟨n, n0, by omega, h⟩
    · exact ⟨m, m0, by omega, h⟩
theorem EQ_rng {P : Pg} (hP : okP P) {n : Int} (n0 : 0 ≤ n) (n1 : n < tot P) {s t : Tm} (h : EQ P n s t) : (s.1 ≥ 0 ∧ s.1 < 28) ∧ (t.1 ≥ 0 ∧ t.1 < 28) := by
  obtain ⟨-, ⟨hv, hw, hn⟩, -⟩ := hP.2.1 n n0 n1
  rcases h with ⟨_, rfl, rfl⟩ | ⟨_, rfl, rfl⟩ | ⟨_, rfl, rfl⟩ | ⟨h4, rfl, rfl⟩ | ⟨_, ⟨rfl, rfl⟩ | ⟨rfl, rfl⟩⟩ | ⟨_, rfl, rfl⟩
  · exact ⟨⟨hv.1, by show vv P n < 28; omega⟩, ⟨hw.1, by show ww P n < 28; omega⟩⟩
  · exact ⟨⟨hv.1, by show vv P n < 28; omega⟩, ⟨hw.1, by show ww P n < 28; omega⟩⟩
  · exact ⟨⟨hv.1, by show vv P n < 28; omega⟩, ⟨hw.1, by show ww P n < 28; omega⟩⟩
  · have := sn_lt hP n0 n1 h4
    exact ⟨⟨hv.1, by show vv P n < 28; omega⟩, ⟨by show 20 + sn P n ≥ 0; omega, by show 20 + sn P n < 28; omega⟩⟩
  · exact ⟨⟨by show 4 + 4 * nn P n ≥ 0; omega, by show 4 + 4 * nn P n < 28; omega⟩, ⟨hw.1, by show ww P n < 28; omega⟩⟩
  · exact ⟨⟨hv.1, by show vv P n < 28; omega⟩, ⟨by show 4 + 4 * nn P n + 1 ≥ 0; omega, by show 4 + 4 * nn P n + 1 < 28; omega⟩⟩
  · exact ⟨⟨hv.1, by show vv P n < 28; omega⟩, ⟨hw.1, by show ww P n < 28; omega⟩⟩
theorem gI_row {σ : St} {c : Nat} {i v : Int} : gI (sI σ c i v) c = fun j => if j = i then v else gI σ c j := funext fun j => by
  rw [gI_sI]
  by_cases q : j = i
  · rw [if_pos ⟨rfl, q⟩, if_pos q]
  · rw [if_neg (fun k => q k.2), if_neg q]
theorem gI_rne {σ : St} {c d : Nat} {i v : Int} (h : d ≠ c) : gI (sI σ c i v) d = gI σ d := funext fun j => by rw [gI_sI, if_neg (fun k => h k.1)]
theorem jπ_neg {π : Int → Int} {x y : Int} (h : π x = -1) : jπ π x y = fun k => if k = x then π y else π k := funext fun k => by unfold jπ; rw [if_pos h]
theorem jπ_pos {π : Int → Int} {x y : Int} (h : π x ≠ -1) : jπ π x y = π := funext fun k => by
  unfold jπ; rw [if_neg h]
  by_cases q : k = x
  · rw [if_pos q, q]
  · rw [if_neg q]
/-- a state of a unification -/
def UF (cp cq : Nat) (N : Int) (tm : Int → Tm) (Eq : Tm → Tm → Prop) (σ : St) : Prop := ∃ (ρ : Int → Int) (u : Nat), US N ρ (gI σ cq) tm Eq ∧ (FO N (gI σ cp) ρ u ∧ ((u + nrt (gI σ cp) N.toNat ≤ N) ∧ ∀ s t, Eq s t → (s.1 ≥ 0 ∧ s.1 < N) ∧ (t.1 ≥ 0 ∧ t.1 < N)))
def tmC (k : Int) : Tm := if k < 28 then (k, 0) else if k < 48 then (k - 28, 1) else (k - 48, 2)
theorem tmC0 {k : Int} (h : k < 28) : tmC k = (k, 0) := if_pos h
theorem tmC1 {k : Int} (h : 0 ≤ k) (h1 : k < 20) : tmC (28 + k) = (k, 1) := by
  unfold tmC; rw [if_neg (by omega), if_pos (by omega), show 28 + k - 28 = k by omega]
theorem tmC2 {k : Int} (h : 0 ≤ k) : tmC (48 + k) = (k, 2) := by
  unfold tmC; rw [if_neg (by omega), if_neg (by omega), show 48 + k - 48 = k by omega]
def π0C (k : Int) : Int := if k < 20 then 28 + k else if 28 ≤ k ∧ k < 48 then k + 20 else -1
theorem US_C0 : US 68 (fun k => k) π0C tmC (fun _ _ => False) := by
  refine ⟨fun k k0 k1 => ⟨⟨⟨k0, k1⟩, rfl⟩, fun _ => ?_⟩, fun k k0 k1 => ⟨cg_refl _, fun _ hn => ?_⟩, ⟨fun a b h => h.elim, fun k k0 k1 => ?_⟩, fun k k0 k1 => ?_⟩
  · unfold π0C
    split
    · right; omega
    · split
      · right; omega
      · exact Or.inl rfl
  · have e : tU (tmC k) = tmC (π0C k) := by
      by_cases a : k < 20
      · have e1 : π0C k = 28 + k := if_pos a
        rw [e1, tmC1 k0 a, tmC0 (by omega)]; rfl
      · by_cases b : 28 ≤ k ∧ k < 48
        · have e1 : π0C k = 48 + (k - 28) := by unfold π0C; rw [if_neg a, if_pos b]; omega
          rw [e1, tmC2 (by omega), show tmC k = (k - 28, 1) by unfold tmC; rw [if_neg (by omega), if_pos b.2]]; rfl
        · have e1 : π0C k = -1 := by unfold π0C; rw [if_neg a, if_neg b]
          exact absurd e1 hn
    show cg _ (tU (tmC k)) (tmC (π0C k))
    rw [e]; exact cg_refl _
  · have d1 : ∀ v, 0 ≤ v → v < 20 → den (fun k => k) π0C v 1 = (28 + v, 0) := fun v v0 v1 => by
      show dU (fun k => k) π0C (v, 0) = _
      have e1 : π0C v = 28 + v := if_pos v1
      unfold dU; rw [if_pos rfl, e1, if_neg (by omega)]
    by_cases a : k < 28
    · rw [tmC0 a]; rfl
    · by_cases b : k < 48
      · rw [show k = 28 + (k - 28) by omega, tmC1 (by omega) (by omega)]
        exact d1 _ (by omega) (by omega)
      · rw [show k = 48 + (k - 48) by omega, tmC2 (by omega)]
        show dU (fun k => k) π0C (den (fun k => k) π0C (k - 48) 1) = _
        rw [d1 _ (by omega) (by omega)]
        have e1 : π0C (28 + (k - 48)) = 48 + (k - 48) := by unfold π0C; rw [if_neg (by omega), if_pos ⟨by omega, by omega⟩]; omega
        unfold dU; rw [if_pos rfl, e1, if_neg (by omega)]
  · unfold tmC
    split
    · exact ⟨k0, k1⟩
    · split
      · exact ⟨by show k - 28 ≥ 0; omega, by show k - 28 < 68; omega⟩
      · exact ⟨by show k - 48 ≥ 0; omega, by show k - 48 < 68; omega⟩
theorem nrt_id {par : Int → Int} : ∀ n : Nat, (∀ k : Int, 0 ≤ k → k < n → par k = k) → nrt par n = n
  | 0, _ => rfl
  | n + 1, h => by
    have ih := nrt_id n (fun k k0 k1 => h k k0 (by omega))
    unfold nrt at *
    rw [cn_succ, ih, h n (by omega) (by omega)]
    simp
section CU
variable {t : Nat} {σ : St} {Q : Res → St → Prop} {P : Pg}
theorem rot {r : Int} (hp : ∀ k, 0 ≤ k → k < 68 → 0 ≤ gI σ 42 k ∧ gI σ 42 k < 68) (hr : gI σ 42 r = r) (hq : Q (.inl (some (vI r))) σ) : ∀ (j : Nat) (f s : Int) (a1 : Option AV), 0 ≤ f → f < 68 → 0 ≤ s → s + j ≤ 68 → itp (gI σ 42) f j = r → wp t 116 4 [some (vR 41), a1, some (vI f), some (vI s)] [] σ Q
  | 0, f, s, a1, f0, f1, s0, s1, h => by
    have e : f = r := h
    have rd : rdI σ 42 f = gI σ 42 f := rdI_in (n := 68) rfl f0 f1
    have hg := hp f f0 f1
    rw [x116_4]
    refine ⟨⟨by omega, by omega⟩, fun _ => ?_, fun _ => ?_⟩
    · simp only [x116_10, k96 (show lc 42 = 101 from rfl), rd, x116_18, aft_l, aft_r, optL_s, optL_n, xgo_n, xgo_s, List.cons_append, List.nil_append, List.append_nil, true_and, and_true, Nat.sub_zero, Nat.zero_le, true_implies, false_implies, implies_true, not_true_eq_false, not_false_eq_true, true_or, or_true]
      refine ⟨⟨by omega, by omega⟩, ⟨⟨by omega, by omega⟩, ⟨by omega, by omega⟩⟩, fun _ => ?_, fun g => ?_⟩
      · rw [x116_37, e]; exact hq
      · rw [e] at g; exact absurd hr g
    · rw [x116_37, e]; exact hq
  | j + 1, f, s, a1, f0, f1, s0, s1, h => by
    have h : itp (gI σ 42) (gI σ 42 f) j = r := h
    have rd : rdI σ 42 f = gI σ 42 f := rdI_in (n := 68) rfl f0 f1
    have hg := hp f f0 f1
    rw [x116_4]
    refine ⟨⟨by omega, by omega⟩, fun _ => ?_, fun h => by omega⟩
    simp only [x116_10, k96 (show lc 42 = 101 from rfl), rd, x116_18, x116_22, x116_30, aft_l, aft_r, optL_s, optL_n, xgo_n, xgo_s, List.cons_append, List.nil_append, List.append_nil, true_and, and_true, Nat.sub_zero, Nat.zero_le, true_implies, false_implies, implies_true, not_true_eq_false, not_false_eq_true, true_or, or_true]
    refine ⟨⟨by omega, by omega⟩, ⟨⟨by omega, by omega⟩, ⟨by omega, by omega⟩⟩, fun g => ?_, fun g => ⟨⟨by omega, by omega⟩, ?_⟩⟩
    · rw [g, itp_root g] at h
      rw [x116_37, h]; exact hq
    · exact rot hp hr hq j (gI σ 42 f) (s + 1) _ hg.1 hg.2 (by omega) (by omega) h
/-- Unification.root -/
theorem c116 {ρ : Int → Int} {u : Nat} {k : Int} (hF : FO 68 (gI σ 42) ρ u) (hu : u ≤ 68) (k0 : 0 ≤ k) (k1 : k < 68) (hq : Q (.inl (some (vI (ρ k)))) σ) : Call t 116 [vR 41, vI k] σ Q := by
  obtain ⟨h1, h2, h3, j, hj, h4⟩ := hF k k0 k1
  rw [x116_0]
  exact rot (fun k k0 k1 => (hF k k0 k1).1) h3 hq j k 0 _ k0 k1 (by omega) (by omega) h4
theorem jnl {ρ0 π0 : Int → Int} {a b : Int} {Eq : Tm → Tm → Prop} (h0 : US 68 ρ0 π0 tmC Eq) (hE : ∀ s t, Eq s t → (s.1 ≥ 0 ∧ s.1 < 68) ∧ (t.1 ≥ 0 ∧ t.1 < 68)) (ha : 0 ≤ a ∧ a < 68) (hb : 0 ≤ b ∧ b < 68)
    (hq : ∀ σ', UF 42 43 68 tmC (fun s t => Eq s t ∨ (s = tmC a ∧ t = tmC b)) σ' → fr (fun c _ => c = 42 ∨ c = 43) σ σ' → Q (.inl none) σ') :
    ∀ (d : Nat) (s : Int) (σ1 : St) (ρ : Int → Int) (u : Nat) (p q : Int) (a1 a2 a6 a7 : Option AV), nrt (gI σ1 42) 68 ≤ d → 0 ≤ s → s + d ≤ 68 → JI 68 ρ0 π0 a b tmC (fun s t => Eq s t ∨ (s = tmC a ∧ t = tmC b)) ρ (gI σ1 43) p q → FO 68 (gI σ1 42) ρ u → u + nrt (gI σ1 42) 68 ≤ 68 → fr (fun c _ => c = 42 ∨ c = 43) σ σ1 →
    wp t 115 16 [some (vR 41), a1, a2, some (vI (ρ p)), some (vI (ρ q)), some (vI s), a6, a7] [] σ1 Q
  | 0, s, σ1, ρ, u, p, q, a1, a2, a6, a7, hd, s0, s1, hJ, hF, hu, hf => by
    have hp := hJ.2.2.1.1
    obtain ⟨-, h2, h3, -⟩ := hF p hp.1 hp.2
    have := nrt_pos (N := 68) h2 h3
    omega
  | d + 1, s, σ1, ρ, u, p, q, a1, a2, a6, a7, hd, s0, s1, hJ, hF, hu, hf => by
    have hE' : ∀ s t, (Eq s t ∨ (s = tmC a ∧ t = tmC b)) → (s.1 ≥ 0 ∧ s.1 < 68) ∧ (t.1 ≥ 0 ∧ t.1 < 68) := fun s t h => by
      rcases h with h | ⟨rfl, rfl⟩
      · exact hE s t h
      · exact ⟨h0.2.2.2 a ha.1 ha.2, h0.2.2.2 b hb.1 hb.2⟩
    have hp := hJ.2.2.1.1
    have hq' := hJ.2.2.1.2
    obtain ⟨-, p2, p3, -⟩ := hF p hp.1 hp.2
    obtain ⟨-, q2, q3, -⟩ := hF q hq'.1 hq'.2
    have px := (hJ.1 (ρ p) p2.1 p2.2).2 (hJ.1 p hp.1 hp.2).1.2
    have py := (hJ.1 (ρ q) q2.1 q2.2).2 (hJ.1 q hq'.1 hq'.2).1.2
    have ix : inR (gI σ1 43 (ρ p)) := by rcases px with e | e <;> exact ⟨by omega, by omega⟩
    have iy : inR (gI σ1 43 (ρ q)) := by rcases py with e | e <;> exact ⟨by omega, by omega⟩
    rw [x115_16]
    refine ⟨⟨by omega, by omega⟩, fun _ => ?_, fun h => by omega⟩
    rw [x115_23]
    refine ⟨⟨⟨by omega, by omega⟩, ⟨by omega, by omega⟩⟩, fun e => ?_, fun ne => ?_⟩
    · rw [x115_110]
      exact hq σ1 ⟨ρ, u, JI_end h0 hE ha hb hJ e, hF, hu, hE'⟩ hf
    · have r1 : rdI σ1 43 (ρ p) = gI σ1 43 (ρ p) := rdI_in (n := 68) rfl p2.1 p2.2
      have r2 : rdI σ1 43 (ρ q) = gI σ1 43 (ρ q) := rdI_in (n := 68) rfl q2.1 q2.2
      have w1 : wrI σ1 42 (ρ q) (ρ p) = sI σ1 42 (ρ q) (ρ p) := wrI_in (n := 68) rfl q2.1 q2.2
      have w2 : ∀ v, wrI (sI σ1 42 (ρ q) (ρ p)) 43 (ρ p) v = sI (sI σ1 42 (ρ q) (ρ p)) 43 (ρ p) v := fun v => wrI_in (n := 68) rfl p2.1 p2.2
      have st := JI_step (x := ρ p) (y := ρ q) rfl rfl ne hJ
      have hF' := FO_link hF ⟨p2, p3⟩ ⟨q2, q3⟩ ne
      have hn := nrt_link (N := 68) (x := ρ p) q2 q3 ne
      have e42 : gI (sI σ1 42 (ρ q) (ρ p)) 42 = par' (gI σ1 42) (ρ p) (ρ q) := gI_row
      have e43 : gI (sI σ1 42 (ρ q) (ρ p)) 43 = gI σ1 43 := gI_rne (by decide)
      have hf2 : fr (fun c _ => c = 42 ∨ c = 43) σ (sI σ1 42 (ρ q) (ρ p)) := fr_sI hf (by omega)
      simp only [x115_29, x115_37, x115_48, k96 (show lc 43 = 101 from rfl), k98 (show lc 42 = 101 from rfl), r1, r2, w1, aft_l, aft_r, optL_s, optL_n, xgo_n, xgo_s, List.cons_append, List.nil_append, List.append_nil, true_and, and_true, Nat.sub_zero, Nat.zero_le, true_implies, false_implies, implies_true, not_true_eq_false, not_false_eq_true, true_or, or_true]
      refine ⟨⟨by omega, by omega⟩, ⟨by omega, by omega⟩, ⟨by omega, by omega⟩, ?_⟩
      rw [x115_60]
      refine ⟨ix, fun e1 => ?_, fun e1 => ?_⟩
      · simp only [x115_66, k98 (show lc 43 = 101 from rfl), w2, x115_76, x115_88, aft_l, aft_r, optL_s, optL_n, xgo_n, xgo_s, List.cons_append, List.nil_append, List.append_nil, true_and, and_true, Nat.sub_zero, Nat.zero_le, true_implies, false_implies, implies_true, not_true_eq_false, not_false_eq_true, true_or, or_true]
        refine ⟨⟨by omega, by omega⟩, ix, fun _ => ?_, fun g => absurd e1 g⟩
        have e43' : gI (sI (sI σ1 42 (ρ q) (ρ p)) 43 (ρ p) (gI σ1 43 (ρ q))) 43 = jπ (gI σ1 43) (ρ p) (ρ q) := by rw [gI_row, e43, jπ_neg e1]
        have e42' : gI (sI (sI σ1 42 (ρ q) (ρ p)) 43 (ρ p) (gI σ1 43 (ρ q))) 42 = par' (gI σ1 42) (ρ p) (ρ q) := by rw [gI_rne (by decide), e42]
        refine hq _ ⟨jρ ρ (ρ p) (ρ q), u + 1, ?_, ?_, ?_, hE'⟩ (fr_sI hf2 (by omega))
        · rw [e43']; exact JI_end h0 hE ha hb (st.1 (Or.inl e1) p hp.1 hp.2) rfl
        · rw [e42']; exact hF'
        · rw [e42']
          show ((u + 1 : Nat) : Int) + nrt _ 68 ≤ 68
          omega
      · have ep : jπ (gI σ1 43) (ρ p) (ρ q) = gI σ1 43 := jπ_pos e1
        rw [ep] at st
        rw [x115_76]
        refine ⟨ix, fun g => absurd g e1, fun _ => ?_⟩
        rw [x115_82]
        refine ⟨iy, fun e2 => ?_, fun e2 => ?_⟩
        · rw [x115_88]
          refine hq _ ⟨jρ ρ (ρ p) (ρ q), u + 1, ?_, ?_, ?_, hE'⟩ hf2
          · rw [e43]; exact JI_end h0 hE ha hb (st.1 (Or.inr e2) p hp.1 hp.2) rfl
          · rw [e42]; exact hF'
          · rw [e42]
            show ((u + 1 : Nat) : Int) + nrt _ 68 ≤ 68
            omega
        · have px' : 0 ≤ gI σ1 43 (ρ p) ∧ gI σ1 43 (ρ p) < 68 := px.resolve_left e1
          have py' : 0 ≤ gI σ1 43 (ρ q) ∧ gI σ1 43 (ρ q) < 68 := py.resolve_left e2
          have hF2 : FO 68 (gI (sI σ1 42 (ρ q) (ρ p)) 42) (jρ ρ (ρ p) (ρ q)) (u + 1) := by rw [e42]; exact hF'
          have hnn := (cn_rng (fun k => gI σ1 42 k == k) 68).1
          have hpos := nrt_pos (N := 68) p2 p3
          rw [x115_89]
          refine c116 hF2 (by omega) px'.1 px'.2 ?_
          simp only [x115_95, aft_l, aft_r, optL_s, optL_n, xgo_n, xgo_s, List.cons_append, List.nil_append, List.append_nil, true_and, and_true, Nat.sub_zero, Nat.zero_le, true_implies, false_implies, implies_true, not_true_eq_false, not_false_eq_true, true_or, or_true]
          refine c116 hF2 (by omega) py'.1 py'.2 ?_
          simp only [x115_102, aft_l, aft_r, optL_s, optL_n, xgo_n, xgo_s, List.cons_append, List.nil_append, List.append_nil, true_and, and_true, Nat.sub_zero, Nat.zero_le, true_implies, false_implies, implies_true, not_true_eq_false, not_false_eq_true, true_or, or_true]
          refine jnl h0 hE ha hb hq d (s + 1) _ (jρ ρ (ρ p) (ρ q)) (u + 1) (gI σ1 43 (ρ p)) (gI σ1 43 (ρ q)) _ _ _ _ (by rw [e42]; omega) (by omega) (by omega) (by rw [e43]; exact st.2 e1 e2) hF2 (by rw [e42]; omega) hf2
/-- Unification.join -/
theorem c115 {a b : Int} {Eq : Tm → Tm → Prop} (h : UF 42 43 68 tmC Eq σ) (ha : 0 ≤ a ∧ a < 68) (hb : 0 ≤ b ∧ b < 68)
    (hq : ∀ σ', UF 42 43 68 tmC (fun s t => Eq s t ∨ (s = tmC a ∧ t = tmC b)) σ' → fr (fun c _ => c = 42 ∨ c = 43) σ σ' → Q (.inl none) σ') : Call t 115 [vR 41, vI a, vI b] σ Q := by
  obtain ⟨ρ, u, h1, h2, h3, h4⟩ := h
  have h3 : (u : Int) + nrt (gI σ 42) 68 ≤ 68 := h3
  have hn := cn_rng (fun k => gI σ 42 k == k) 68
  have hn0 : 0 ≤ nrt (gI σ 42) 68 := hn.1
  have hn1 : nrt (gI σ 42) 68 ≤ 68 := hn.2
  rw [x115_0]
  refine c116 h2 (by omega) ha.1 ha.2 ?_
  simp only [x115_5, aft_l, aft_r, optL_s, optL_n, xgo_n, xgo_s, List.cons_append, List.nil_append, List.append_nil, true_and, and_true, Nat.sub_zero, Nat.zero_le, true_implies, false_implies, implies_true, not_true_eq_false, not_false_eq_true, true_or, or_true]
  refine c116 h2 (by omega) hb.1 hb.2 ?_
  simp only [x115_11, aft_l, aft_r, optL_s, optL_n, xgo_n, xgo_s, List.cons_append, List.nil_append, List.append_nil, true_and, and_true, Nat.sub_zero, Nat.zero_le, true_implies, false_implies, implies_true, not_true_eq_false, not_false_eq_true, true_or, or_true]
  exact jnl h1 h4 ha hb hq 68 0 σ ρ u a b _ _ _ _ hn1 (by omega) (by omega) (JI_0 h1 ha hb) h2 h3 fr_refl
theorem UF_congr {cp cq : Nat} {N : Int} {tm : Int → Tm} {E F : Tm → Tm → Prop} {σ : St} (h : UF cp cq N tm E σ) (e : ∀ s t, E s t ↔ F s t) : UF cp cq N tm F σ := by
  have : E = F := funext fun s => funext fun t => propext (e s t)
  rw [← this]; exact h
/-- Unification.apply -/
theorem c114 {n : Int} (hP : okP P) (hN : RN 5 σ P) (n0 : 0 ≤ n) (n1 : n < tot P) (h : UF 42 43 68 tmC (EQs P n) σ) (hq : ∀ σ', UF 42 43 68 tmC (EQs P (n + 1)) σ' → fr (fun c _ => c = 42 ∨ c = 43) σ σ' → Q (.inl none) σ') : Call t 114 [vR 41, vR 5, vI n] σ Q := by
  obtain ⟨hk, ⟨hv, hw, hn⟩, h5⟩ := hP.2.1 n n0 n1
  rw [EQs_succ n0] at hq
  simp only [x114_0, e91 hP hN n0 n1, x114_5, e92 hP hN n0 n1, x114_11, e93 hP hN n0 n1, x114_18, e90 hP hN n0 n1, x114_25, aft_l, aft_r, optL_s, optL_n, xgo_n, xgo_s, List.cons_append, List.nil_append, List.append_nil, true_and, and_true, Nat.sub_zero, Nat.zero_le, true_implies, false_implies, implies_true, not_true_eq_false, not_false_eq_true, true_or, or_true]
  refine ⟨⟨by omega, by omega⟩, fun _ => ?_, fun h => by omega⟩
  rcases (show kd P n = 0 ∨ kd P n = 1 ∨ kd P n = 2 ∨ kd P n = 3 ∨ kd P n = 4 ∨ kd P n = 5 ∨ kd P n = 6 by omega) with e | e | e | e | e | e | e
  · rw [e]
    show wp t 114 68 _ _ _ _
    simp only [x114_68, x111_0, x114_73, aft_l, aft_r, optL_s, optL_n, xgo_n, xgo_s, List.cons_append, List.nil_append, List.append_nil, true_and, and_true, Nat.sub_zero, Nat.zero_le, true_implies, false_implies, implies_true, not_true_eq_false, not_false_eq_true, true_or, or_true]
    refine c115 h (by omega) (by omega) (fun σ' g1 g2 => ?_)
    simp only [x114_78, x114_181, aft_l, aft_r, optL_s, optL_n, xgo_n, xgo_s, List.cons_append, List.nil_append, List.append_nil, true_and, and_true, Nat.sub_zero, Nat.zero_le, true_implies, false_implies, implies_true, not_true_eq_false, not_false_eq_true, true_or, or_true]
    refine hq σ' (UF_congr g1 (fun s t => ?_)) g2
    rw [tmC1 hv.1 (by omega), tmC0 (by omega)]
    unfold EQ; simp [e]
  · rw [e]
    show wp t 114 168 _ _ _ _
    simp only [x114_168, x111_0, x114_173, x114_178, aft_l, aft_r, optL_s, optL_n, xgo_n, xgo_s, List.cons_append, List.nil_append, List.append_nil, true_and, and_true, Nat.sub_zero, Nat.zero_le, true_implies, false_implies, implies_true, not_true_eq_false, not_false_eq_true, true_or, or_true]
    refine c115 h (by omega) (by omega) (fun σ' g1 g2 => ?_)
    simp only [x114_181, aft_l, aft_r, optL_s, optL_n, xgo_n, xgo_s, List.cons_append, List.nil_append, List.append_nil, true_and, and_true, Nat.sub_zero, Nat.zero_le, true_implies, false_implies, implies_true, not_true_eq_false, not_false_eq_true, true_or, or_true]
    refine hq σ' (UF_congr g1 (fun s t => ?_)) g2
    rw [tmC1 hv.1 (by omega), tmC1 hw.1 (by omega)]
    unfold EQ; simp [e]
  · rw [e]
    show wp t 114 81 _ _ _ _
    simp only [x114_81, x111_0, x112_0, x114_86, x114_91, aft_l, aft_r, optL_s, optL_n, xgo_n, xgo_s, List.cons_append, List.nil_append, List.append_nil, true_and, and_true, Nat.sub_zero, Nat.zero_le, true_implies, false_implies, implies_true, not_true_eq_false, not_false_eq_true, true_or, or_true]
    refine c115 h (by omega) (by omega) (fun σ' g1 g2 => ?_)
    simp only [x114_94, x114_181, aft_l, aft_r, optL_s, optL_n, xgo_n, xgo_s, List.cons_append, List.nil_append, List.append_nil, true_and, and_true, Nat.sub_zero, Nat.zero_le, true_implies, false_implies, implies_true, not_true_eq_false, not_false_eq_true, true_or, or_true]
    refine hq σ' (UF_congr g1 (fun s t => ?_)) g2
    rw [tmC1 hv.1 (by omega), tmC2 hw.1]
    unfold EQ; simp [e]
  · rw [e]
    show wp t 114 97 _ _ _ _
    simp only [x114_97, x111_0, x112_0, x114_102, x114_107, aft_l, aft_r, optL_s, optL_n, xgo_n, xgo_s, List.cons_append, List.nil_append, List.append_nil, true_and, and_true, Nat.sub_zero, Nat.zero_le, true_implies, false_implies, implies_true, not_true_eq_false, not_false_eq_true, true_or, or_true]
    refine c115 h (by omega) (by omega) (fun σ' g1 g2 => ?_)
    simp only [x114_110, x114_181, aft_l, aft_r, optL_s, optL_n, xgo_n, xgo_s, List.cons_append, List.nil_append, List.append_nil, true_and, and_true, Nat.sub_zero, Nat.zero_le, true_implies, false_implies, implies_true, not_true_eq_false, not_false_eq_true, true_or, or_true]
    refine hq σ' (UF_congr g1 (fun s t => ?_)) g2
    rw [tmC1 hw.1 (by omega), tmC2 hv.1]
    unfold EQ; simp [e]
  · have hs := sn_lt hP n0 n1 e
    rw [e]
    show wp t 114 113 _ _ _ _
    simp only [x114_113, x111_0, x114_118, e95 hP.1 hN n0 n1, x114_123, x113_0, x114_126, aft_l, aft_r, optL_s, optL_n, xgo_n, xgo_s, List.cons_append, List.nil_append, List.append_nil, true_and, and_true, Nat.sub_zero, Nat.zero_le, true_implies, false_implies, implies_true, not_true_eq_false, not_false_eq_true, true_or, or_true]
    refine c115 h (by omega) (by omega) (fun σ' g1 g2 => ?_)
    simp only [x114_129, x114_181, aft_l, aft_r, optL_s, optL_n, xgo_n, xgo_s, List.cons_append, List.nil_append, List.append_nil, true_and, and_true, Nat.sub_zero, Nat.zero_le, true_implies, false_implies, implies_true, not_true_eq_false, not_false_eq_true, true_or, or_true]
    refine hq σ' (UF_congr g1 (fun s t => ?_)) g2
    rw [tmC1 hv.1 (by omega), tmC0 (by omega)]
    unfold EQ; simp [e]
  · rw [e]
    show wp t 114 168 _ _ _ _
    simp only [x114_168, x111_0, x114_173, x114_178, aft_l, aft_r, optL_s, optL_n, xgo_n, xgo_s, List.cons_append, List.nil_append, List.append_nil, true_and, and_true, Nat.sub_zero, Nat.zero_le, true_implies, false_implies, implies_true, not_true_eq_false, not_false_eq_true, true_or, or_true]
    refine c115 h (by omega) (by omega) (fun σ' g1 g2 => ?_)
    simp only [x114_181, aft_l, aft_r, optL_s, optL_n, xgo_n, xgo_s, List.cons_append, List.nil_append, List.append_nil, true_and, and_true, Nat.sub_zero, Nat.zero_le, true_implies, false_implies, implies_true, not_true_eq_false, not_false_eq_true, true_or, or_true]
    refine hq σ' (UF_congr g1 (fun s t => ?_)) g2
    rw [tmC1 hv.1 (by omega), tmC1 hw.1 (by omega)]
    unfold EQ; simp [e]
  · rw [e]
    show wp t 114 132 _ _ _ _
    simp only [x114_132, k168, x111_0, x114_138, x114_141, x114_146, aft_l, aft_r, optL_s, optL_n, xgo_n, xgo_s, List.cons_append, List.nil_append, List.append_nil, true_and, and_true, Nat.sub_zero, Nat.zero_le, true_implies, false_implies, implies_true, not_true_eq_false, not_false_eq_true, true_or, or_true]
    refine c115 h (by omega) (by omega) (fun σ1 g1 g2 => ?_)
    simp only [x114_149, x111_0, x114_154, k169, x114_159, x114_162, aft_l, aft_r, optL_s, optL_n, xgo_n, xgo_s, List.cons_append, List.nil_append, List.append_nil, true_and, and_true, Nat.sub_zero, Nat.zero_le, true_implies, false_implies, implies_true, not_true_eq_false, not_false_eq_true, true_or, or_true]
    refine c115 g1 (by omega) (by omega) (fun σ' g3 g4 => ?_)
    simp only [x114_165, x114_181, aft_l, aft_r, optL_s, optL_n, xgo_n, xgo_s, List.cons_append, List.nil_append, List.append_nil, true_and, and_true, Nat.sub_zero, Nat.zero_le, true_implies, false_implies, implies_true, not_true_eq_false, not_false_eq_true, true_or, or_true]
    refine hq σ' (UF_congr g3 (fun s t => ?_)) (fr_trans g2 g4)
    rw [tmC1 (k := 4 + 4 * nn P n) (by omega) (by omega), tmC1 hw.1 (by omega), tmC1 hv.1 (by omega), tmC1 (k := 4 + 4 * nn P n + 1) (by omega) (by omega)]
    unfold EQ; simp [e, or_assoc]
theorem sep2 (hq : ∀ σ', UF 42 43 68 tmC (fun _ _ => False) σ' → fr (fun c _ => c = 42 ∨ c = 43) σ σ' → Q (.inl none) σ') :
    ∀ (d : Nat) (i : Int) (σ1 : St), 0 ≤ i → i + d = 20 → fr (fun c _ => c = 42 ∨ c = 43) σ σ1 → (∀ k, 0 ≤ k → k < 68 → gI σ1 42 k = k) → (∀ k, 0 ≤ k → k < 68 → gI σ1 43 k = if k < i then 28 + k else if 28 ≤ k ∧ k < 28 + i then k + 20 else -1) → wp t 110 34 [some (vR 41), some (vI i)] [] σ1 Q
  | 0, i, σ1, i0, hd, hf, h1, h2 => by
    have e : i = 20 := by omega
    subst e
    rw [x110_34]
    refine ⟨⟨by omega, by omega⟩, fun h => by omega, fun _ => ?_⟩
    rw [x110_73]
    have hs := US_C0
    refine hq σ1 ⟨fun k => k, 0, ?_, fun k k0 k1 => ⟨by rw [h1 k k0 k1]; exact ⟨k0, k1⟩, ⟨k0, k1⟩, h1 k k0 k1, 0, Nat.le_refl _, rfl⟩, ?_, fun s t h => h.elim⟩ hf
    · have hπ : ∀ k, 0 ≤ k → k < 68 → gI σ1 43 k = π0C k := fun k k0 k1 => by rw [h2 k k0 k1]; rfl
      obtain ⟨u1, u2, ⟨u3, u4⟩, u5⟩ := hs
      refine ⟨fun k k0 k1 => ⟨(u1 k k0 k1).1, fun e => ?_⟩, fun k k0 k1 => ⟨(u2 k k0 k1).1, fun e n => ?_⟩, ⟨fun a b h => h.elim, fun k k0 k1 => ?_⟩, u5⟩
      · rw [hπ k k0 k1]; exact (u1 k k0 k1).2 e
      · rw [hπ k k0 k1] at n ⊢; exact (u2 k k0 k1).2 e n
      · have hh : Hom 68 (fun k => k) π0C (fun k => k) (gI σ1 43) := ⟨fun k _ _ => rfl, fun k k0 k1 _ n => by
          have e2 : gI σ1 43 k = π0C k := hπ k k0 k1
          show gI σ1 43 k ≠ -1 ∧ gI σ1 43 k = π0C k
          rw [e2]; exact ⟨n, rfl⟩⟩
        have e1 := (hom_dn u1 hh (u5 k k0 k1).1 (u5 k k0 k1).2 (tmC k).2).2
        have e2 : den (fun k => k) π0C (tmC k).1 (tmC k).2 = (k, 0) := u4 k k0 k1
        rw [e2] at e1
        exact e1
    · show ((0 : Nat) : Int) + nrt (gI σ1 42) 68 ≤ 68
      have := nrt_id (par := gI σ1 42) 68 (fun k k0 k1 => h1 k k0 (by omega))
      omega
  | d + 1, i, σ1, i0, hd, hf, h1, h2 => by
    have w : ∀ τ j v, 0 ≤ j → j < 68 → wrI τ 43 j v = sI τ 43 j v := fun τ j v j0 j1 => wrI_in (n := 68) rfl j0 j1
    rw [x110_34]
    refine ⟨⟨by omega, by omega⟩, fun _ => ?_, fun h => by omega⟩
    simp only [x110_40, x111_0, x110_49, k98 (show lc 43 = 101 from rfl), w _ i _ i0 (show i < 68 by omega), x110_52, x110_60, x112_0, x110_64, w _ (28 + i) _ (show 0 ≤ 28 + i by omega) (show 28 + i < 68 by omega), x110_67, aft_l, aft_r, optL_s, optL_n, xgo_n, xgo_s, List.cons_append, List.nil_append, List.append_nil, true_and, and_true, Nat.sub_zero, Nat.zero_le, true_implies, false_implies, implies_true, not_true_eq_false, not_false_eq_true, true_or, or_true]
    refine ⟨⟨by omega, by omega⟩, ⟨by omega, by omega⟩, sep2 hq d (i + 1) _ (by omega) (by omega) (fr_sI (fr_sI hf (by omega)) (by omega)) (fun k k0 k1 => ?_) (fun k k0 k1 => ?_)⟩
    · rw [gI_sI, if_neg (by omega), gI_sI, if_neg (by omega)]; exact h1 k k0 k1
    · rw [gI_sI]
      by_cases q : k = 28 + i
      · rw [if_pos ⟨rfl, q⟩, if_neg (by omega), if_pos (by omega)]; omega
      · rw [if_neg (fun g => q g.2), gI_sI]
        by_cases q2 : k = i
        · rw [if_pos ⟨rfl, q2⟩, if_pos (by omega)]; omega
        · rw [if_neg (fun g => q2 g.2), h2 k k0 k1]
          by_cases a : k < i
          · rw [if_pos a, if_pos (by omega)]
          · rw [if_neg a, if_neg (show ¬ k < i + 1 by omega)]
            by_cases b : 28 ≤ k ∧ k < 28 + i
            · rw [if_pos b, if_pos (by omega)]
            · rw [if_neg b, if_neg (by omega)]
theorem sep1 (hq : ∀ σ', UF 42 43 68 tmC (fun _ _ => False) σ' → fr (fun c _ => c = 42 ∨ c = 43) σ σ' → Q (.inl none) σ') :
    ∀ (d : Nat) (i : Int) (σ1 : St), 0 ≤ i → i + d = 68 → fr (fun c _ => c = 42 ∨ c = 43) σ σ1 → (∀ k, 0 ≤ k → k < i → gI σ1 42 k = k ∧ gI σ1 43 k = -1) → wp t 110 2 [some (vR 41), some (vI i)] [] σ1 Q
  | 0, i, σ1, i0, hd, hf, h1 => by
    rw [x110_2]
    refine ⟨⟨by omega, by omega⟩, fun h => by omega, fun _ => ?_⟩
    rw [x110_32]
    exact sep2 hq 20 0 σ1 (by omega) (by omega) hf (fun k k0 k1 => (h1 k k0 (by omega)).1) (fun k k0 k1 => by rw [if_neg (by omega), if_neg (by omega)]; exact (h1 k k0 (by omega)).2)
  | d + 1, i, σ1, i0, hd, hf, h1 => by
    have w : ∀ τ c v, ln c = 68 → wrI τ c i v = sI τ c i v := fun τ c v hc => wrI_in (n := 68) hc i0 (by omega)
    rw [x110_2]
    refine ⟨⟨by omega, by omega⟩, fun _ => ?_, fun h => by omega⟩
    simp only [x110_8, k98 (show lc 42 = 101 from rfl), w _ 42 _ rfl, x110_17, k98 (show lc 43 = 101 from rfl), w _ 43 _ rfl, x110_26, aft_l, aft_r, optL_s, optL_n, xgo_n, xgo_s, List.cons_append, List.nil_append, List.append_nil, true_and, and_true, Nat.sub_zero, Nat.zero_le, true_implies, false_implies, implies_true, not_true_eq_false, not_false_eq_true, true_or, or_true]
    refine ⟨⟨by omega, by omega⟩, ⟨by omega, by omega⟩, sep1 hq d (i + 1) _ (by omega) (by omega) (fr_sI (fr_sI hf (by omega)) (by omega)) (fun k k0 k1 => ?_)⟩
    rw [gI_sI, if_neg (by omega), gI_sI, gI_sI]
    by_cases q : k = i
    · rw [if_pos ⟨rfl, q⟩, if_pos ⟨rfl, q⟩]; exact ⟨q.symm, rfl⟩
    · rw [if_neg (fun g => q g.2), if_neg (fun g => q g.2), gI_sI, if_neg (by omega)]; exact h1 k k0 (by omega)
/-- Unification.separate -/
theorem c110 (hq : ∀ σ', UF 42 43 68 tmC (fun _ _ => False) σ' → fr (fun c _ => c = 42 ∨ c = 43) σ σ' → Q (.inl none) σ') : Call t 110 [vR 41] σ Q := by
  rw [x110_0]
  exact sep1 hq 68 0 σ (by omega) (by omega) fr_refl (fun k k0 k1 => by omega)
theorem usl (hP : okP P) (hq : ∀ σ', UF 42 43 68 tmC (EQs P (tot P)) σ' → fr (fun c _ => c = 42 ∨ c = 43) σ σ' → Q (.inl none) σ') :
    ∀ (d : Nat) (n : Int) (σ1 : St), 0 ≤ n → n + d = tot P → RN 5 σ1 P → fr (fun c _ => c = 42 ∨ c = 43) σ σ1 → UF 42 43 68 tmC (EQs P n) σ1 → wp t 109 19 [some (vR 41), some (vR 5), some (vI n)] [] σ1 Q
  | 0, n, σ1, n0, hd, hN, hf, h => by
    have ht := tot_rng hP.1
    have e : n = tot P := by omega
    rw [x109_19, e86 hN]
    simp only [x109_24, aft_l, aft_r, optL_s, optL_n, xgo_n, xgo_s, List.cons_append, List.nil_append, List.append_nil, true_and, and_true, Nat.sub_zero, Nat.zero_le, true_implies, false_implies, implies_true, not_true_eq_false, not_false_eq_true, true_or, or_true]
    refine ⟨⟨⟨by omega, by omega⟩, ⟨by omega, by omega⟩⟩, fun h => by omega, fun _ => ?_⟩
    rw [x109_39]
    rw [e] at h; exact hq σ1 h hf
  | d + 1, n, σ1, n0, hd, hN, hf, h => by
    have ht := tot_rng hP.1
    rw [x109_19, e86 hN]
    simp only [x109_24, aft_l, aft_r, optL_s, optL_n, xgo_n, xgo_s, List.cons_append, List.nil_append, List.append_nil, true_and, and_true, Nat.sub_zero, Nat.zero_le, true_implies, false_implies, implies_true, not_true_eq_false, not_false_eq_true, true_or, or_true]
    refine ⟨⟨⟨by omega, by omega⟩, ⟨by omega, by omega⟩⟩, fun _ => ?_, fun h => by omega⟩
    rw [x109_27]
    refine c114 hP hN n0 (by omega) h (fun σ' g1 g2 => ?_)
    simp only [x109_33, aft_l, aft_r, optL_s, optL_n, xgo_n, xgo_s, List.cons_append, List.nil_append, List.append_nil, true_and, and_true, Nat.sub_zero, Nat.zero_le, true_implies, false_implies, implies_true, not_true_eq_false, not_false_eq_true, true_or, or_true]
    exact usl hP hq d (n + 1) σ' (by omega) (by omega) (RN_fr hN g2 (fun j => by omega) (fun j => by omega) (fun j => by omega) (fun j => by omega) (by omega)) (fr_trans hf g2) g1
/-- what a solved unification is -/
def UNr (σ : St) (P : Pg) : Prop := gI σ 41 2 = 0 ∧ UF 42 43 68 tmC (EQs P (tot P)) σ
theorem UF_fr {cp cq : Nat} {N : Int} {tm : Int → Tm} {Eq : Tm → Tm → Prop} {M : Nat → Int → Prop} {σ σ' : St} (h : UF cp cq N tm Eq σ) (g : fr M σ σ') (h1 : ∀ j, ¬ M cp j) (h2 : ∀ j, ¬ M cq j) : UF cp cq N tm Eq σ' := by
  have e1 : gI σ' cp = gI σ cp := funext fun j => fr_I g _ _ (h1 j)
  have e2 : gI σ' cq = gI σ cq := funext fun j => fr_I g _ _ (h2 j)
  unfold UF at *
  rw [e1, e2]; exact h
theorem UNr_fr {M : Nat → Int → Prop} {σ σ' : St} (h : UNr σ P) (g : fr M σ σ') (h0 : ¬ M 41 2) (h1 : ∀ j, ¬ M 42 j) (h2 : ∀ j, ¬ M 43 j) : UNr σ' P := ⟨(fr_I g _ _ h0).trans h.1, UF_fr h.2 g h1 h2⟩
/-- Unification.solve -/
theorem c109 (hP : okP P) (hN : RN 5 σ P) (h8 : gI σ 41 2 = 0 ∨ gI σ 41 2 = 1) (h0 : gI σ 41 2 = 0 → Q (.inl none) σ) (h1 : gI σ 41 2 = 1 → ∀ σ', UNr σ' P → fr (fun c j => c = 42 ∨ c = 43 ∨ (c = 41 ∧ j = 2)) σ σ' → Q (.inl none) σ') : Call t 109 [vR 41, vR 5] σ Q := by
  have ht := tot_rng hP.1
  rw [x109_0]
  refine ⟨⟨by omega, by omega⟩, fun e => ?_, fun e => ?_⟩
  · rw [x109_7]; exact h0 e
  · have e1 : gI σ 41 2 = 1 := by omega
    rw [x109_8]
    have hf0 : fr (fun c j => c = 41 ∧ j = 2) σ (sI σ 41 2 0) := fr_sI fr_refl ⟨rfl, rfl⟩
    refine c110 (fun σ1 g1 g2 => ?_)
    simp only [x109_17, aft_l, aft_r, optL_s, optL_n, xgo_n, xgo_s, List.cons_append, List.nil_append, List.append_nil, true_and, and_true, Nat.sub_zero, Nat.zero_le, true_implies, false_implies, implies_true, not_true_eq_false, not_false_eq_true, true_or, or_true]
    have hf1 : fr (fun c j => c = 42 ∨ c = 43 ∨ (c = 41 ∧ j = 2)) σ σ1 := fr_trans (fr_mono hf0 (fun c j k => by omega)) (fr_mono g2 (fun c j k => by omega))
    refine usl (σ := σ1) hP (fun σ' g3 g4 => h1 e1 σ' ⟨?_, g3⟩ (fr_trans hf1 (fr_mono g4 (fun c j k => by omega)))) (tot P).toNat 0 σ1 (by omega) (by omega) (RN_fr hN hf1 (fun j => by omega) (fun j => by omega) (fun j => by omega) (fun j => by omega) (by omega)) fr_refl (by rw [EQs_0]; exact g1)
    rw [fr_I g4 _ _ (by omega), fr_I g2 _ _ (by omega), gI_sI, if_pos ⟨rfl, rfl⟩]
end CU

