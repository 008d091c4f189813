/-! the law's questions: calls and flow -/
def ECl (P : Pg) (f g : Int) : Prop := ∃ n, 0 ≤ n ∧ (n < tot P ∧ (own P n = f ∧ (kd P n = 6 ∧ nn P n = g)))
def EFn (P : Pg) (n a b : Int) : Prop := (kd P n = 1 ∧ (a = ww P n ∧ b = vv P n)) ∨ (kd P n = 6 ∧ ((a = ww P n ∧ b = 4 + 4 * nn P n) ∨ (a = 4 + 4 * nn P n + 1 ∧ b = vv P n)))
def EFl (P : Pg) (a b : Int) : Prop := ∃ n, 0 ≤ n ∧ (n < tot P ∧ EFn P n a b)
def EFd (P : Pg) (d n a b : Int) : Prop := if d = 0 then EFn P n a b else EFn P n b a
def EFD (P : Pg) (d a b : Int) : Prop := ∃ n, 0 ≤ n ∧ (n < tot P ∧ EFd P d n a b)
theorem ECl_rng {P : Pg} (hP : okP P) {f g : Int} (h : ECl P f g) : 0 ≤ g ∧ g ≤ 3 := by
  obtain ⟨n, n0, n1, _, _, e⟩ := h
  have := (hP.2.1 n n0 n1).2.1.2.2
  omega
theorem EFn_rng {P : Pg} (hP : okP P) {n a b : Int} (n0 : 0 ≤ n) (n1 : n < tot P) (h : EFn P n a b) : (0 ≤ a ∧ a < 20) ∧ (0 ≤ b ∧ b < 20) := by
  obtain ⟨hv, hw, hn⟩ := (hP.2.1 n n0 n1).2.1
  rcases h with ⟨_, e1, e2⟩ | ⟨_, ⟨e1, e2⟩ | ⟨e1, e2⟩⟩ <;> omega
theorem EFd_rng {P : Pg} (hP : okP P) {d n a b : Int} (n0 : 0 ≤ n) (n1 : n < tot P) (h : EFd P d n a b) : (0 ≤ a ∧ a < 20) ∧ (0 ≤ b ∧ b < 20) := by
  unfold EFd at h
  split at h
  · exact EFn_rng hP n0 n1 h
  · have := EFn_rng hP n0 n1 h; exact ⟨this.2, this.1⟩
theorem iW_le {S S' : Int → Prop} (h : ∀ t : Nat, t < 31 → S t → S' t) : iW S ≤ iW S' := by
  have e : nS S 31 ||| nS S' 31 = nS S' 31 := by
    apply Nat.eq_of_testBit_eq
    intro i
    rw [Nat.testBit_or]
    cases a : (nS S 31).testBit i with
    | false => rw [Bool.false_or]
    | true =>
      have k := (nS_bit S 31 i).mp a
      rw [(nS_bit S' 31 i).mpr ⟨k.1, h i k.1 k.2⟩, Bool.true_or]
  have : nS S 31 ≤ nS S 31 ||| nS S' 31 := Nat.left_le_or
  unfold iW
  rw [e] at this
  exact Int.ofNat_le.mpr this
theorem iW_lt {S : Int → Prop} (k : Nat) (h : ∀ t : Nat, t < 31 → S t → t < k) : 0 ≤ iW S ∧ iW S < ((2 ^ k : Nat) : Int) := by
  have : nS S 31 < 2 ^ k := Nat.lt_pow_two_of_testBit _ (fun i hi => by
    cases a : (nS S 31).testBit i with
    | false => rfl
    | true =>
      have b := (nS_bit S 31 i).mp a
      have := h i b.1 b.2
      omega)
  unfold iW
  exact ⟨by omega, by omega⟩
theorem iW_inj {S S' : Int → Prop} (e : iW S = iW S') {t : Int} (t0 : 0 ≤ t) (t1 : t < 31) : S t ↔ S' t := by
  have h1 := nS_bit S 31 t.toNat
  have h2 := nS_bit S' 31 t.toNat
  have e2 : nS S 31 = nS S' 31 := by unfold iW at e; exact Int.ofNat_inj.mp e
  rw [show ((t.toNat : Nat) : Int) = t by omega] at h1 h2
  rw [e2, h2] at h1
  exact ⟨fun k => (h1.mpr ⟨by omega, k⟩).2, fun k => (h1.mp ⟨by omega, k⟩).2⟩
section LQ5
variable {t : Nat} {σ : St} {Q : Res → St → Prop} {P : Pg} {xs : List Int} {lim : Int}
/-- what a pass over the calls keeps -/
def CLs (P : Pg) (f : Int) (S0 S : Int → Prop) (N : Int) : Prop := (∀ t, S0 t → S t) ∧ ((∀ t, S t → TC (ECl P) f t) ∧ ∀ n, 0 ≤ n → n < N → n < tot P → (own P n = f ∨ S0 (own P n)) → kd P n = 6 → S (nn P n))
theorem CLs_in (hP : okP P) {f : Int} {S0 S : Int → Prop} {N : Int} (h : CLs P f S0 S N) (x : Int) (k : S x) : 0 ≤ x ∧ x ≤ 3 := TC_sub (S := fun x => 0 ≤ x ∧ x ≤ 3) (h.2.1 x k) (fun _ g => ECl_rng hP g) (fun _ _ _ g => ECl_rng hP g)
theorem cl2 (hP : okP P) (hLP : LPr σ P) {f : Int} (hf : 0 ≤ f ∧ f ≤ 3) {S0 : Int → Prop} {m : Int} {g : Int} (hg : 0 ≤ g ∧ g ≤ 3)
    (hq : ∀ S a5, CLs P f S0 S (stt P (g + 1)) → wp t 252 93 [some (vR 53), some (vI f), some (vI (iW S)), some (vI m), some (vI g), a5] [] σ Q) :
    ∀ (d : Nat) (k : Int) (S : Int → Prop), 0 ≤ k → k + d = P 58 g → CLs P f S0 S (stt P g + k) → wp t 252 23 [some (vR 53), some (vI f), some (vI (iW S)), some (vI m), some (vI g), some (vI k)] [] σ Q
  | 0, k, S, k0, hd, h => by
    have hz := okZ_at hP.1 hg.1 hg.2
    have hs := stt_succ P hg.1 hg.2
    rw [x252_23, LP_z hLP hg.1 hg.2]
    refine ⟨⟨by omega, by omega⟩, ⟨⟨by omega, by omega⟩, ⟨by omega, by omega⟩⟩, fun a => by omega, fun _ => hq S _ ?_⟩
    rw [hs, ← show k = P 58 g by omega]; exact h
  | d + 1, k, S, k0, hd, h => by
    have hz := okZ_at hP.1 hg.1 hg.2
    have hs := stt_rng hP.1 hg.1 hg.2
    have hpl := plc_of hP.1 hg.1 hg.2 k0 (show k < P 58 g by omega)
    have how := own_of hP.1 hg.1 hg.2 k0 (show k < P 58 g by omega)
    have n0 : 0 ≤ stt P g + k := by omega
    have n1 : stt P g + k < tot P := by omega
    have hpr := plc_rng hP.1 n0 n1
    obtain ⟨hk, ⟨hv, hw, hn⟩, h5⟩ := hP.2.1 _ n0 n1
    have hIW := IW_iW S
    have hir := IW_inR hIW
    have keep : ¬ ((g = f ∨ S g) ∧ kd P (stt P g + k) = 6) → wp t 252 87 [some (vR 53), some (vI f), some (vI (iW S)), some (vI m), some (vI g), some (vI k)] [] σ Q := fun hno => by
      rw [x252_87]
      refine cl2 hP hLP hf hg hq d (k + 1) S (by omega) (by omega) ⟨h.1, h.2.1, fun n a0 a1 a2 a3 a4 => ?_⟩
      by_cases z : n = stt P g + k
      · rw [z] at a3 a4 ⊢
        rw [how] at a3
        exact absurd ⟨a3.imp id (h.1 g), a4⟩ hno
      · exact h.2.2 n a0 (by omega) a2 a3 a4
    have body : (g = f ∨ S g) → wp t 252 51 [some (vR 53), some (vI f), some (vI (iW S)), some (vI m), some (vI g), some (vI k)] [] σ Q := fun hgs => by
      rw [x252_51, ← hpl, LP_kd hLP hP.1 n0 n1]
      refine ⟨⟨by omega, by omega⟩, ⟨by omega, by omega⟩, fun a => ?_, fun a => keep (fun z => a z.2)⟩
      rw [x252_69, ← hpl, LP_nn hLP hP.1 n0 n1, x252_87, iW_one hn.1 (by omega), iW_or]
      refine ⟨⟨by omega, by omega⟩, ⟨by omega, by omega⟩, cl2 hP hLP hf hg hq d (k + 1) _ (by omega) (by omega) ⟨fun x hx => Or.inl (h.1 x hx), fun x hx => ?_, fun n a0 a1 a2 a3 a4 => ?_⟩⟩
      · rcases hx with hx | hx
        · exact h.2.1 x hx
        · have ed : ECl P g x := ⟨_, n0, n1, how, a, hx.symm⟩
          rcases hgs with e | hgs
          · rw [e] at ed; exact TC_base ed
          · exact TC_trans (h.2.1 g hgs) (TC_base ed)
      · by_cases z : n = stt P g + k
        · rw [z]; exact Or.inr rfl
        · exact Or.inl (h.2.2 n a0 (by omega) a2 a3 a4)
    rw [x252_23, LP_z hLP hg.1 hg.2]
    refine ⟨⟨by omega, by omega⟩, ⟨⟨by omega, by omega⟩, ⟨by omega, by omega⟩⟩, fun _ => ?_, fun a => by omega⟩
    rw [x252_35]
    refine ⟨⟨⟨by omega, by omega⟩, ⟨by omega, by omega⟩⟩, fun a => body (Or.inl a), fun a => ?_⟩
    rw [x252_41, IW_tst hIW hg.1 (by omega)]
    refine ⟨⟨hir, by omega, by omega⟩, IW_tin hIW hg.1 (by omega), fun b => body (Or.inr b), fun b => keep (fun z => z.1.elim a b)⟩
theorem cl1 (hP : okP P) (hLP : LPr σ P) {f : Int} (hf : 0 ≤ f ∧ f ≤ 3) {S0 : Int → Prop} {m : Int}
    (hq : ∀ S a4 a5, CLs P f S0 S (tot P) → wp t 252 99 [some (vR 53), some (vI f), some (vI (iW S)), some (vI m), a4, a5] [] σ Q) :
    ∀ (d : Nat) (g : Int) (S : Int → Prop) (a5 : Option AV), 0 ≤ g → g + d = 4 → CLs P f S0 S (stt P g) → wp t 252 14 [some (vR 53), some (vI f), some (vI (iW S)), some (vI m), some (vI g), a5] [] σ Q
  | 0, g, S, a5, g0, hd, h => by
    have e : g = 4 := by omega
    subst e
    rw [x252_14]
    refine ⟨⟨by omega, by omega⟩, fun a => by omega, fun _ => hq S _ _ ?_⟩
    rw [← stt4]; exact h
  | d + 1, g, S, a5, g0, hd, h => by
    rw [x252_14]
    refine ⟨⟨by omega, by omega⟩, fun _ => ?_, fun a => by omega⟩
    have hz := okZ_at hP.1 g0 (show g ≤ 3 by omega)
    rw [x252_20]
    refine cl2 hP hLP hf ⟨g0, by omega⟩ (fun S1 a5' h1 => ?_) (P 58 g).toNat 0 S (by omega) (by omega) (by rw [Int.add_zero]; exact h)
    rw [x252_93]
    exact cl1 hP hLP hf hq d (g + 1) S1 a5' (by omega) (by omega) h1
theorem cl0 (hP : okP P) (hLP : LPr σ P) {f : Int} (hf : 0 ≤ f ∧ f ≤ 3) (hq : Q (.inl (some (vI (iW (TC (ECl P) f))))) σ) :
    ∀ (d : Nat) (m : Int) (S : Int → Prop) (a4 a5 : Option AV), inR m → 2 * (16 - iW S) + (if m = iW S then 0 else 1) < d → (∀ x, S x → TC (ECl P) f x) → (m = -1 ∨ ∃ S0, m = iW S0 ∧ CLs P f S0 S (tot P)) → wp t 252 4 [some (vR 53), some (vI f), some (vI (iW S)), some (vI m), a4, a5] [] σ Q
  | 0, m, S, a4, a5, hm, hd, hS, h => by
    have := iW_lt (S := S) 4 (fun x _ k => by have := (CLs_in (S0 := S) (N := 0) hP ⟨fun _ k => k, hS, fun n a0 a1 => by omega⟩ x k); omega)
    split at hd <;> omega
  | d + 1, m, S, a4, a5, hm, hd, hS, h => by
    have hb := iW_lt (S := S) 4 (fun x _ k => by have := (CLs_in (S0 := S) (N := 0) hP ⟨fun _ k => k, hS, fun n a0 a1 => by omega⟩ x k); omega)
    have hir := IW_inR (IW_iW S)
    rw [x252_4]
    refine ⟨⟨hm, hir⟩, fun e => ?_, fun e => ?_⟩
    · rw [x252_102]
      rcases h with h | ⟨S0, e0, h⟩
      · omega
      · have hcl : iW S = iW (TC (ECl P) f) := iW_congr (fun x hx => ⟨hS x, fun k => by
          refine (TC_sub (S := fun x => (0 ≤ x ∧ x ≤ 3) ∧ S x) k (fun y g => ⟨ECl_rng hP g, ?_⟩) (fun a b ka g => ⟨ECl_rng hP g, ?_⟩)).2
          · obtain ⟨n, n0, n1, n2, n3, n4⟩ := g
            rw [← n4]; exact h.2.2 n n0 n1 n1 (Or.inl n2) n3
          · obtain ⟨n, n0, n1, n2, n3, n4⟩ := g
            rw [← n4]; exact h.2.2 n n0 n1 n1 (Or.inr (by rw [n2]; exact (iW_inj (e0.symm.trans e) ka.1.1 (by omega)).mpr ka.2)) n3⟩)
        rw [hcl]; exact hq
    · rw [if_neg e] at hd
      rw [x252_9]
      refine cl1 hP hLP hf (fun S1 b4 b5 h1 => ?_) 4 0 S _ (by omega) (by omega) ⟨fun _ k => k, hS, fun n a0 a1 => by
        have : stt P 0 = 0 := if_pos rfl
        omega⟩
      rw [x252_99]
      have hle := iW_le (fun (x : Nat) (_ : x < 31) (k : S x) => h1.1 x k)
      refine cl0 hP hLP hf hq d (iW S) S1 b4 b5 hir ?_ h1.2.1 (Or.inr ⟨S, rfl, h1⟩)
      split <;> omega
/-- called -/
theorem e252 (hP : okP P) (hLP : LPr σ P) {f : Int} (hf : 0 ≤ f ∧ f ≤ 3) : Call t 252 [vR 53, vI f] σ Q ↔ Q (.inl (some (vI (iW (TC (ECl P) f))))) σ := Call_iff (fun Q hq => by
  have z := iW_0 (S := fun _ => False) (fun t ht k => k)
  rw [x252_0]
  have := cl0 (t := t) hP hLP hf hq 40 (-1) (fun _ => False) none none ⟨by omega, by omega⟩ (by rw [← z]; decide) (fun x k => k.elim) (Or.inl rfl)
  rw [← z] at this
  exact this)
/-- what a function may modify -/
def modS (P : Pg) (xs : List Int) (lim f : Int) : Int → Prop := fun t => ∃ n, 0 ≤ n ∧ (n < tot P ∧ (kd P n = 3 ∧ ((own P n = f ∨ TC (ECl P) f (own P n)) ∧ im xs (Lf P xs lim) (vv P n) t)))
theorem mo1 (hP : okP P) (hl : 0 ≤ lim ∧ lim ≤ 2) (hC : isC P lim xs) {R : Int → Prop} {A : Int → Int → Prop} (hA : ∀ n x : Int, A n x ↔ ∃ m, 0 ≤ m ∧ (m < n ∧ (kd P m = 3 ∧ (R (own P m) ∧ im xs (Lf P xs lim) (vv P m) x)))) (hq : ∀ σ', LQ P lim xs σ' → fr vM σ σ' → Q (.inl (some (vL (wS (A (tot P)))))) σ') :
    ∀ (d : Nat) (i : Int) (σ1 : St) (a1 a4 a6 : Option AV), 0 ≤ i → i + d = tot P → LQ P lim xs σ1 → fr vM σ σ1 → wp t 253 34 [some (vR 53), a1, some (vI (iW R)), some (vL (wS (A i))), a4, some (vI i), a6] [] σ1 Q
  | 0, i, σ1, a1, a4, a6, i0, hd, h, hf => by
    have ht := tot_rng hP.1
    have e : i = tot P := by omega
    simp only [x253_34, e181 h.1, x253_40, aft_l, aft_r, optL_s, optL_n, xgo_n, xgo_s, List.cons_append, List.nil_append, List.append_nil, true_and, and_true, Nat.sub_zero, Nat.zero_le, true_implies, false_implies, implies_true, not_true_eq_false, not_false_eq_true, true_or, or_true]
    refine ⟨⟨⟨by omega, by omega⟩, ⟨by omega, by omega⟩⟩, fun a => by omega, fun _ => ?_⟩
    rw [x253_95, e]; exact hq σ1 h hf
  | d + 1, i, σ1, a1, a4, a6, i0, hd, h, hf => by
    have ht := tot_rng hP.1
    have i1 : i < tot P := by omega
    have hpr := plc_rng hP.1 i0 i1
    have hpd := plc_div hP.1 i0 i1
    have how := (own_spec hP.1 i0 i1).1
    obtain ⟨hk, ⟨hv, hw, hn⟩, h5⟩ := hP.2.1 _ i0 i1
    have hIW := IW_iW R
    have hir := IW_inR hIW
    have keep : ∀ a4 a6, ¬ (kd P i = 3 ∧ R (own P i)) → wp t 253 89 [some (vR 53), a1, some (vI (iW R)), some (vL (wS (A i))), a4, some (vI i), a6] [] σ1 Q := fun a4 a6 hno => by
      have e : wS (A i) = wS (A (i + 1)) := wS_congr (fun x hx => by
        rw [hA, hA]
        exact ⟨fun ⟨m, m0, m1, k⟩ => ⟨m, m0, by omega, k⟩, fun ⟨m, m0, m1, k⟩ => by
          by_cases z : m = i
          · rw [z] at k; exact absurd ⟨k.1, k.2.1⟩ hno
          · exact ⟨m, m0, by omega, k⟩⟩)
      rw [x253_89, e]
      exact mo1 hP hl hC hA hq d (i + 1) σ1 _ _ _ (by omega) (by omega) h hf
    simp only [x253_34, e181 h.1, x253_40, aft_l, aft_r, optL_s, optL_n, xgo_n, xgo_s, List.cons_append, List.nil_append, List.append_nil, true_and, and_true, Nat.sub_zero, Nat.zero_le, true_implies, false_implies, implies_true, not_true_eq_false, not_false_eq_true, true_or, or_true]
    refine ⟨⟨⟨by omega, by omega⟩, ⟨by omega, by omega⟩⟩, fun _ => ?_, fun a => by omega⟩
    simp only [x253_43, e182 h.1 hP.1 i0 i1, x253_49, LP_kd h.1 hP.1 i0 i1, aft_l, aft_r, optL_s, optL_n, xgo_n, xgo_s, List.cons_append, List.nil_append, List.append_nil, true_and, and_true, Nat.sub_zero, Nat.zero_le, true_implies, false_implies, implies_true, not_true_eq_false, not_false_eq_true, true_or, or_true]
    refine ⟨⟨by omega, by omega⟩, ⟨by omega, by omega⟩, fun a => ?_, fun a => keep _ _ (fun z => a z.1)⟩
    rw [x253_62, hpd, IW_tst hIW how.1 (by omega)]
    refine ⟨⟨by omega, by omega⟩, ⟨hir, by omega, by omega⟩, IW_tin hIW how.1 (by omega), fun b => ?_, fun b => keep _ _ (fun z => b z.2)⟩
    rw [x253_75, LP_vv h.1 hP.1 i0 i1]
    refine ⟨⟨by omega, by omega⟩, c227 hP hl hC h hv.1 (by omega) (fun σ2 g1 g2 => ?_)⟩
    have e : wS (fun x => A i x ∨ im xs (Lf P xs lim) (vv P i) x) = wS (A (i + 1)) := wS_congr (fun x hx => by
      rw [hA, hA]
      constructor
      · rintro (⟨m, m0, m1, k⟩ | k)
        · exact ⟨m, m0, by omega, k⟩
        · exact ⟨i, i0, by omega, a, b, k⟩
      · rintro ⟨m, m0, m1, k⟩
        by_cases z : m = i
        · rw [z] at k; exact Or.inr k.2.2
        · exact Or.inl ⟨m, m0, by omega, k⟩)
    simp only [x253_87, x253_89, wS_or, aft_l, aft_r, optL_s, optL_n, xgo_n, xgo_s, List.cons_append, List.nil_append, List.append_nil, true_and, and_true, Nat.sub_zero, Nat.zero_le, true_implies, false_implies, implies_true, not_true_eq_false, not_false_eq_true, true_or, or_true]
    rw [e]
    exact mo1 hP hl hC hA hq d (i + 1) σ2 _ _ _ (by omega) (by omega) (FQ_LQ g1) (fr_trans hf g2)
/-- modifies -/
theorem c253 (hP : okP P) (hl : 0 ≤ lim ∧ lim ≤ 2) (hC : isC P lim xs) (h : LQ P lim xs σ) {f : Int} (hf : inR f) (h0 : ¬ (0 ≤ f ∧ f < 4) → Q (.inl (some (vL (BitVec.ofInt 64 0)))) (sI σ 53 0 1))
    (h1 : (0 ≤ f ∧ f < 4) → ∀ σ', LQ P lim xs σ' → gI σ' 53 0 = 0 → fr qM σ σ' → Q (.inl (some (vL (wS (modS P xs lim f))))) σ') : Call t 253 [vR 53, vI f] σ Q := by
  simp only [x253_0, x253_4, e179 hf, eq_true (b2i_in _), b2i_0, aft_l, aft_r, optL_s, optL_n, xgo_n, xgo_s, List.cons_append, List.nil_append, List.append_nil, true_and, and_true, Nat.sub_zero, Nat.zero_le, true_implies, false_implies, implies_true, not_true_eq_false, not_false_eq_true, true_or, or_true]
  by_cases q : 0 ≤ f ∧ f < 4
  · rw [dcl_t q]
    refine ⟨fun a => (by cases a), fun _ => ?_⟩
    have hL0 := LQ_fr h (q0 (v := 0)) qK0
    have ht := tot_rng hP.1
    simp only [x253_14, e252 hP hL0.1 (show 0 ≤ f ∧ f ≤ 3 by omega), x253_24, iW_one q.1 (show f < 31 by omega), iW_or, aft_l, aft_r, optL_s, optL_n, xgo_n, xgo_s, List.cons_append, List.nil_append, List.append_nil, true_and, and_true, Nat.sub_zero, Nat.zero_le, true_implies, false_implies, implies_true, not_true_eq_false, not_false_eq_true, true_or, or_true]
    have z0 : BitVec.ofNat 64 0 = wS (fun x => ∃ m, 0 ≤ m ∧ (m < 0 ∧ (kd P m = 3 ∧ ((TC (ECl P) f (own P m) ∨ own P m = f) ∧ im xs (Lf P xs lim) (vv P m) x)))) := ((wS_z _).mpr (fun t ht ⟨m, m0, m1, _⟩ => by omega)).symm
    rw [z0]
    refine ⟨by omega, mo1 (A := fun i x => ∃ m, 0 ≤ m ∧ (m < i ∧ (kd P m = 3 ∧ ((TC (ECl P) f (own P m) ∨ own P m = f) ∧ im xs (Lf P xs lim) (vv P m) x)))) hP hl hC (fun n x => Iff.rfl) (fun σ' g1 g2 => ?_) (tot P).toNat 0 (sI σ 53 0 0) _ _ _ (by omega) (by omega) hL0 fr_refl⟩
    have fin := h1 q σ' g1 (frq0 g2).1 (frq0 g2).2
    rw [show wS (modS P xs lim f) = wS (fun x => ∃ m, 0 ≤ m ∧ (m < tot P ∧ (kd P m = 3 ∧ ((TC (ECl P) f (own P m) ∨ own P m = f) ∧ im xs (Lf P xs lim) (vv P m) x)))) from wS_congr (fun x hx => ⟨fun ⟨m, a0, a1, a2, a3, a4⟩ => ⟨m, a0, a1, a2, a3.symm, a4⟩, fun ⟨m, a0, a1, a2, a3, a4⟩ => ⟨m, a0, a1, a2, a3.symm, a4⟩⟩)] at fin
    exact fin
  · rw [dcl_f q]
    refine ⟨fun _ => ?_, fun a => absurd rfl a⟩
    simp only [x253_7, x253_12, e175, (show inR (0 : Int) = True from eq_true ⟨by decide, by decide⟩), aft_l, aft_r, optL_s, optL_n, xgo_n, xgo_s, List.cons_append, List.nil_append, List.append_nil, true_and, and_true, Nat.sub_zero, Nat.zero_le, true_implies, false_implies, implies_true, not_true_eq_false, not_false_eq_true, true_or, or_true]
    exact h0 q
/-- isReachable -/
theorem c254 (hP : okP P) (hl : 0 ≤ lim ∧ lim ≤ 2) (hC : isC P lim xs) (h : LQ P lim xs σ) {f : Int} (hf : inR f) (h0 : ¬ (0 ≤ f ∧ f < 4) → Q (.inl (some (vI 0))) (sI σ 53 0 1))
    (h1 : (0 ≤ f ∧ f < 4) → ∀ σ', FQ P lim xs σ' → gI σ' 53 0 = 0 → fr qM σ σ' → Q (.inl (some (vI (b2i (dcl (0 < nc xs f)))))) σ') : Call t 254 [vR 53, vI f] σ Q := by
  simp only [x254_0, x254_4, e179 hf, eq_true (b2i_in _), b2i_0, aft_l, aft_r, optL_s, optL_n, xgo_n, xgo_s, List.cons_append, List.nil_append, List.append_nil, true_and, and_true, Nat.sub_zero, Nat.zero_le, true_implies, false_implies, implies_true, not_true_eq_false, not_false_eq_true, true_or, or_true]
  by_cases q : 0 ≤ f ∧ f < 4
  · rw [dcl_t q]
    refine ⟨fun a => (by cases a), fun _ => ?_⟩
    rw [x254_13]
    refine c219q hP hl hC (LQ_fr h q0 qK0) (fun σ1 g1 g2 => ?_)
    have hX := g1.2.2.2.2.1
    have hn := nc_rng xs f
    have hc0 := cbl_rng xs (f * 2353)
    have hl2 := hX.1.2
    have fin := h1 q σ1 g1 (frq0 g2).1 (frq0 g2).2
    simp only [x254_22, e221 hX q.1 (show f ≤ 3 by omega), x254_27, aft_l, aft_r, optL_s, optL_n, xgo_n, xgo_s, List.cons_append, List.nil_append, List.append_nil, true_and, and_true, Nat.sub_zero, Nat.zero_le, true_implies, false_implies, implies_true, not_true_eq_false, not_false_eq_true, true_or, or_true]
    refine ⟨⟨by omega, by omega⟩, fun a => ?_, fun a => ?_⟩
    · rw [dcl_t a, b2i_t] at fin
      rw [x254_30, x254_35]; exact ⟨Or.inr rfl, fin⟩
    · rw [dcl_f a, b2i_f] at fin
      rw [x254_34, x254_35]; exact ⟨Or.inl rfl, fin⟩
  · rw [dcl_f q]
    refine ⟨fun _ => ?_, fun a => absurd rfl a⟩
    simp only [x254_7, x254_12, e176, aft_l, aft_r, optL_s, optL_n, xgo_n, xgo_s, List.cons_append, List.nil_append, List.append_nil, true_and, and_true, Nat.sub_zero, Nat.zero_le, true_implies, false_implies, implies_true, not_true_eq_false, not_false_eq_true, true_or, or_true]
    exact h0 q
/-- isRecursive -/
theorem c255 (hP : okP P) (hLP : LPr σ P) {f : Int} (hf : inR f) (h0 : ¬ (0 ≤ f ∧ f < 4) → Q (.inl (some (vI 0))) (sI σ 53 0 1))
    (h1 : (0 ≤ f ∧ f < 4) → Q (.inl (some (vI (b2i (dcl (TC (ECl P) f f)))))) (sI σ 53 0 0)) : Call t 255 [vR 53, vI f] σ Q := by
  simp only [x255_0, x255_4, e179 hf, eq_true (b2i_in _), b2i_0, aft_l, aft_r, optL_s, optL_n, xgo_n, xgo_s, List.cons_append, List.nil_append, List.append_nil, true_and, and_true, Nat.sub_zero, Nat.zero_le, true_implies, false_implies, implies_true, not_true_eq_false, not_false_eq_true, true_or, or_true]
  by_cases q : 0 ≤ f ∧ f < 4
  · rw [dcl_t q]
    refine ⟨fun a => (by cases a), fun _ => ?_⟩
    have hL0 := LP_fr hLP (q0 (v := 0)) (fun c j k => by omega)
    have fin := h1 q
    have hIW := IW_iW (TC (ECl P) f)
    simp only [x255_13, e252 hP hL0 (show 0 ≤ f ∧ f ≤ 3 by omega), x255_23, IW_tst hIW q.1 (show f < 31 by omega), aft_l, aft_r, optL_s, optL_n, xgo_n, xgo_s, List.cons_append, List.nil_append, List.append_nil, true_and, and_true, Nat.sub_zero, Nat.zero_le, true_implies, false_implies, implies_true, not_true_eq_false, not_false_eq_true, true_or, or_true]
    refine ⟨⟨IW_inR hIW, by omega, by omega⟩, IW_tin hIW q.1 (by omega), fun a => ?_, fun a => ?_⟩
    · rw [dcl_t a, b2i_t] at fin
      rw [x255_31, x255_36]; exact ⟨Or.inr rfl, fin⟩
    · rw [dcl_f a, b2i_f] at fin
      rw [x255_35, x255_36]; exact ⟨Or.inl rfl, fin⟩
  · rw [dcl_f q]
    refine ⟨fun _ => ?_, fun a => absurd rfl a⟩
    simp only [x255_7, x255_12, e176, aft_l, aft_r, optL_s, optL_n, xgo_n, xgo_s, List.cons_append, List.nil_append, List.append_nil, true_and, and_true, Nat.sub_zero, Nat.zero_le, true_implies, false_implies, implies_true, not_true_eq_false, not_false_eq_true, true_or, or_true]
    exact h0 q
/-- led -/
theorem e257 {S : Int → Prop} {a b d : Int} (ha : 0 ≤ a ∧ a < 20) (hb : 0 ≤ b ∧ b < 20) (hd : d = 0 ∨ d = 1) : Call t 257 [vI (iW S), vI a, vI b, vI d] σ Q ↔ Q (.inl (some (vI (iW (fun x => (if d = 0 then S a ∧ x = b else S b ∧ x = a)))))) σ := Call_iff (fun Q hq => by
  have hIW := IW_iW S
  have hir := IW_inR hIW
  have zz : ∀ {T : Int → Prop}, (∀ x, ¬ T x) → (0 : Int) = iW T := fun h => iW_0 (fun t ht k => h t k)
  rw [x257_0]
  rcases hd with e | e
  · subst e
    simp only [if_true] at hq
    refine ⟨⟨by decide, by decide⟩, fun _ => ?_, fun k => absurd rfl k⟩
    rw [x257_9, x257_10, IW_tst hIW ha.1 (by omega)]
    refine ⟨⟨hir, by omega, by omega⟩, IW_tin hIW ha.1 (by omega), fun k => ?_, fun k => ?_⟩
    · rw [x257_17]
      refine ⟨⟨by decide, by decide⟩, fun _ => ?_, fun k => absurd rfl k⟩
      rw [x257_26, x257_27, x257_32, iW_one hb.1 (by omega), show iW (fun t => t = b) = iW (fun x => S a ∧ x = b) from iW_congr (fun x hx => ⟨fun z => ⟨k, z⟩, fun z => z.2⟩)]
      exact ⟨by omega, hq⟩
    · rw [x257_31, x257_32, zz (T := fun x => S a ∧ x = b) (fun x z => k z.1)]; exact hq
  · subst e
    simp only [show ((1 : Int) = 0) = False from eq_false (by decide), if_false] at hq
    refine ⟨⟨by decide, by decide⟩, fun k => absurd k (by decide), fun _ => ?_⟩
    rw [x257_5, x257_10, IW_tst hIW hb.1 (by omega)]
    refine ⟨⟨hir, by omega, by omega⟩, IW_tin hIW hb.1 (by omega), fun k => ?_, fun k => ?_⟩
    · rw [x257_17]
      refine ⟨⟨by decide, by decide⟩, fun k => absurd k (by decide), fun _ => ?_⟩
      rw [x257_22, x257_27, x257_32, iW_one ha.1 (by omega), show iW (fun t => t = a) = iW (fun x => S b ∧ x = a) from iW_congr (fun x hx => ⟨fun z => ⟨k, z⟩, fun z => z.2⟩)]
      exact ⟨by omega, hq⟩
    · rw [x257_31, x257_32, zz (T := fun x => S b ∧ x = a) (fun x z => k z.1)]; exact hq)
/-- what a pass over the flow keeps -/
def FLs (P : Pg) (d v : Int) (S0 S : Int → Prop) (N : Int) : Prop := (∀ t, S0 t → S t) ∧ (S v ∧ ((∀ t, S t → t = v ∨ TC (EFD P d) v t) ∧ ∀ n, 0 ≤ n → n < N → n < tot P → ∀ a b, EFd P d n a b → S0 a → S b))
def Sd (P : Pg) (d n : Int) (S : Int → Prop) : Int → Prop := fun x => S x ∨ ∃ a, EFd P d n a x ∧ S a
theorem FLs_step {d v : Int} {S0 S : Int → Prop} {n : Int} (n0 : 0 ≤ n) (n1 : n < tot P) (h : FLs P d v S0 S n) : FLs P d v S0 (Sd P d n S) (n + 1) := by
  refine ⟨fun x k => Or.inl (h.1 x k), Or.inl h.2.1, fun x k => ?_, fun m m0 m1 m2 a b k k0 => ?_⟩
  · rcases k with k | ⟨a, k1, k2⟩
    · exact h.2.2.1 x k
    · have e : EFD P d a x := ⟨n, n0, n1, k1⟩
      rcases h.2.2.1 a k2 with z | z
      · rw [z] at e; exact Or.inr (TC_base e)
      · exact Or.inr (TC_trans z (TC_base e))
  · by_cases z : m = n
    · rw [z] at k; exact Or.inr ⟨a, k, h.1 a k0⟩
    · exact Or.inl (h.2.2.2 m m0 (by omega) m2 a b k k0)
theorem FLs_in (hP : okP P) {d v : Int} (hv : 0 ≤ v ∧ v < 20) {S : Int → Prop} (h : ∀ t, S t → t = v ∨ TC (EFD P d) v t) (x : Int) (k : S x) : 0 ≤ x ∧ x < 20 := by
  rcases h x k with e | e
  · omega
  · exact TC_sub (S := fun x => 0 ≤ x ∧ x < 20) e (fun y ⟨n, n0, n1, g⟩ => (EFd_rng hP n0 n1 g).2) (fun a b _ ⟨n, n0, n1, g⟩ => (EFd_rng hP n0 n1 g).2)
theorem fl1 (hP : okP P) (hLP : LPr σ P) {d v : Int} (hd : d = 0 ∨ d = 1) {S0 : Int → Prop} {m : Int}
    (hq : ∀ S a5 a6 a7, FLs P d v S0 S (tot P) → wp t 256 138 [some (vR 53), some (vI v), some (vI d), some (vI (iW S)), some (vI m), a5, a6, a7] [] σ Q) :
    ∀ (dd : Nat) (n : Int) (S : Int → Prop) (a6 a7 : Option AV), 0 ≤ n → n + dd = tot P → FLs P d v S0 S n → wp t 256 19 [some (vR 53), some (vI v), some (vI d), some (vI (iW S)), some (vI m), some (vI n), a6, a7] [] σ Q
  | 0, n, S, a6, a7, n0, hdd, h => by
    have ht := tot_rng hP.1
    have e : n = tot P := by omega
    simp only [x256_19, e181 hLP, x256_25, aft_l, aft_r, optL_s, optL_n, xgo_n, xgo_s, List.cons_append, List.nil_append, List.append_nil, true_and, and_true, Nat.sub_zero, Nat.zero_le, true_implies, false_implies, implies_true, not_true_eq_false, not_false_eq_true, true_or, or_true]
    refine ⟨⟨⟨by omega, by omega⟩, ⟨by omega, by omega⟩⟩, fun a => by omega, fun _ => hq S _ _ _ (e ▸ h)⟩
  | dd + 1, n, S, a6, a7, n0, hdd, h => by
    have ht := tot_rng hP.1
    have n1 : n < tot P := by omega
    have hpr := plc_rng hP.1 n0 n1
    obtain ⟨hk, ⟨hv, hw, hn⟩, h5⟩ := hP.2.1 _ n0 n1
    have next : ∀ S' a6 a7, iW S' = iW (Sd P d n S) → wp t 256 132 [some (vR 53), some (vI v), some (vI d), some (vI (iW S')), some (vI m), some (vI n), a6, a7] [] σ Q := fun S' a6 a7 e => by
      rw [x256_132, e]
      exact fl1 hP hLP hd hq dd (n + 1) _ a6 a7 (by omega) (by omega) (FLs_step n0 n1 h)
    simp only [x256_19, e181 hLP, x256_25, aft_l, aft_r, optL_s, optL_n, xgo_n, xgo_s, List.cons_append, List.nil_append, List.append_nil, true_and, and_true, Nat.sub_zero, Nat.zero_le, true_implies, false_implies, implies_true, not_true_eq_false, not_false_eq_true, true_or, or_true]
    refine ⟨⟨⟨by omega, by omega⟩, ⟨by omega, by omega⟩⟩, fun _ => ?_, fun a => by omega⟩
    simp only [x256_28, e182 hLP hP.1 n0 n1, x256_34, LP_kd hLP hP.1 n0 n1, LP_nn hLP hP.1 n0 n1, aft_l, aft_r, optL_s, optL_n, xgo_n, xgo_s, List.cons_append, List.nil_append, List.append_nil, true_and, and_true, Nat.sub_zero, Nat.zero_le, true_implies, false_implies, implies_true, not_true_eq_false, not_false_eq_true, true_or, or_true]
    refine ⟨⟨by omega, by omega⟩, ⟨by omega, by omega⟩, ⟨by omega, by omega⟩, fun a => ?_, fun a => ?_⟩
    · rw [x256_56, LP_ww hLP hP.1 n0 n1, LP_vv hLP hP.1 n0 n1]
      refine ⟨⟨by omega, by omega⟩, ⟨by omega, by omega⟩, ?_⟩
      simp only [e257 (show 0 ≤ ww P n ∧ ww P n < 20 by omega) (show 0 ≤ vv P n ∧ vv P n < 20 by omega) hd, x256_76, iW_or, x256_78, LP_kd hLP hP.1 n0 n1, aft_l, aft_r, optL_s, optL_n, xgo_n, xgo_s, List.cons_append, List.nil_append, List.append_nil, true_and, and_true, Nat.sub_zero, Nat.zero_le, true_implies, false_implies, implies_true, not_true_eq_false, not_false_eq_true, true_or, or_true]
      refine ⟨⟨by omega, by omega⟩, ⟨by omega, by omega⟩, fun b => by omega, fun _ => next _ _ _ (iW_congr (fun x hx => ?_))⟩
      unfold Sd EFd EFn
      rcases hd with e | e
      · subst e
        simp only [if_true]
        constructor
        · rintro (k | ⟨k1, k2⟩)
          · exact Or.inl k
          · exact Or.inr ⟨_, Or.inl ⟨a, rfl, k2⟩, k1⟩
        · rintro (k | ⟨y, ⟨_, k1, k2⟩ | ⟨k0, _⟩, k3⟩)
          · exact Or.inl k
          · rw [k1] at k3; exact Or.inr ⟨k3, k2⟩
          · omega
      · subst e
        simp only [show ((1 : Int) = 0) = False from eq_false (by decide), if_false]
        constructor
        · rintro (k | ⟨k1, k2⟩)
          · exact Or.inl k
          · exact Or.inr ⟨_, Or.inl ⟨a, k2, rfl⟩, k1⟩
        · rintro (k | ⟨y, ⟨_, k1, k2⟩ | ⟨k0, _⟩, k3⟩)
          · exact Or.inl k
          · rw [k2] at k3; exact Or.inr ⟨k3, k1⟩
          · omega
    · rw [x256_78, LP_kd hLP hP.1 n0 n1]
      refine ⟨⟨by omega, by omega⟩, ⟨by omega, by omega⟩, fun b => ?_, fun b => next _ _ _ (iW_congr (fun x hx => ?_))⟩
      · rw [x256_90, LP_ww hLP hP.1 n0 n1]
        refine ⟨⟨by omega, by omega⟩, ?_⟩
        simp only [e257 (show 0 ≤ ww P n ∧ ww P n < 20 by omega) (show 0 ≤ 4 + 4 * nn P n ∧ 4 + 4 * nn P n < 20 by omega) hd, x256_109, LP_vv hLP hP.1 n0 n1, e257 (show 0 ≤ 4 + 4 * nn P n + 1 ∧ 4 + 4 * nn P n + 1 < 20 by omega) (show 0 ≤ vv P n ∧ vv P n < 20 by omega) hd, x256_129, iW_or, aft_l, aft_r, optL_s, optL_n, xgo_n, xgo_s, List.cons_append, List.nil_append, List.append_nil, true_and, and_true, Nat.sub_zero, Nat.zero_le, true_implies, false_implies, implies_true, not_true_eq_false, not_false_eq_true, true_or, or_true]
        refine ⟨⟨by omega, by omega⟩, next _ _ _ (iW_congr (fun x hx => ?_))⟩
        unfold Sd EFd EFn
        rcases hd with e | e
        · subst e
          simp only [if_true]
          constructor
          · rintro (k | ⟨k1, k2⟩ | ⟨k1, k2⟩)
            · exact Or.inl k
            · exact Or.inr ⟨_, Or.inr ⟨b, Or.inl ⟨rfl, k2⟩⟩, k1⟩
            · exact Or.inr ⟨_, Or.inr ⟨b, Or.inr ⟨rfl, k2⟩⟩, k1⟩
          · rintro (k | ⟨y, ⟨k0, _⟩ | ⟨_, ⟨k1, k2⟩ | ⟨k1, k2⟩⟩, k3⟩)
            · exact Or.inl k
            · omega
            · rw [k1] at k3; exact Or.inr (Or.inl ⟨k3, k2⟩)
            · rw [k1] at k3; exact Or.inr (Or.inr ⟨k3, k2⟩)
        · subst e
          simp only [show ((1 : Int) = 0) = False from eq_false (by decide), if_false]
          constructor
          · rintro (k | ⟨k1, k2⟩ | ⟨k1, k2⟩)
            · exact Or.inl k
            · exact Or.inr ⟨_, Or.inr ⟨b, Or.inl ⟨k2, rfl⟩⟩, k1⟩
            · exact Or.inr ⟨_, Or.inr ⟨b, Or.inr ⟨k2, rfl⟩⟩, k1⟩
          · rintro (k | ⟨y, ⟨k0, _⟩ | ⟨_, ⟨k1, k2⟩ | ⟨k1, k2⟩⟩, k3⟩)
            · exact Or.inl k
            · omega
            · rw [k2] at k3; exact Or.inr (Or.inl ⟨k3, k1⟩)
            · rw [k2] at k3; exact Or.inr (Or.inr ⟨k3, k1⟩)
      · unfold Sd EFd EFn
        constructor
        · exact Or.inl
        · rintro (k | ⟨y, k1, k2⟩)
          · exact k
          · split at k1 <;> rcases k1 with ⟨k0, _⟩ | ⟨k0, _⟩ <;> omega
theorem fl0 (hP : okP P) (hLP : LPr σ P) {d v : Int} (hd : d = 0 ∨ d = 1) (hv : 0 ≤ v ∧ v < 20) (hq : Q (.inl (some (vI (iW (fun x => x = v ∨ TC (EFD P d) v x))))) σ) :
    ∀ (dd : Nat) (S0 S : Int → Prop) (a5 a6 a7 : Option AV), 2 * (1048576 - iW S) + (if iW S0 = iW S then 0 else 1) < dd → FLs P d v S0 S (tot P) → wp t 256 7 [some (vR 53), some (vI v), some (vI d), some (vI (iW S)), some (vI (iW S0)), a5, a6, a7] [] σ Q
  | 0, S0, S, a5, a6, a7, hdd, h => by
    have := iW_lt (S := S) 20 (fun x _ k => by have := FLs_in hP hv h.2.2.1 x k; omega)
    split at hdd <;> omega
  | dd + 1, S0, S, a5, a6, a7, hdd, h => by
    have ht := tot_rng hP.1
    have hb := iW_lt (S := S) 20 (fun x _ k => by have := FLs_in hP hv h.2.2.1 x k; omega)
    rw [x256_7]
    refine ⟨⟨IW_inR (IW_iW S0), IW_inR (IW_iW S)⟩, fun e => ?_, fun e => ?_⟩
    · have hcl : iW S = iW (fun x => x = v ∨ TC (EFD P d) v x) := iW_congr (fun x hx => ⟨h.2.2.1 x, fun k => by
        rcases k with k | k
        · rw [k]; exact h.2.1
        · have up : ∀ a b, 0 ≤ a → a < 20 → S a → EFD P d a b → (0 ≤ b ∧ b < 20) ∧ S b := fun a b a0 a1 ka ⟨n, n0, n1, g⟩ => ⟨(EFd_rng hP n0 n1 g).2, h.2.2.2 n n0 n1 n1 a b g ((iW_inj e a0 (by omega)).mpr ka)⟩
          exact (TC_sub (S := fun x => (0 ≤ x ∧ x < 20) ∧ S x) k (fun y g => up v y hv.1 hv.2 h.2.1 g) (fun a b ka g => up a b ka.1.1 ka.1.2 ka.2 g)).2⟩)
      rw [x256_141, hcl]; exact hq
    · rw [if_neg e] at hdd
      rw [x256_13]
      refine fl1 hP hLP hd (fun S1 b5 b6 b7 h1 => ?_) (tot P).toNat 0 S _ _ (by omega) (by omega) ⟨fun _ k => k, h.2.1, h.2.2.1, fun n n0 n1 => by omega⟩
      rw [x256_138]
      have hle := iW_le (fun (x : Nat) (_ : x < 31) (k : S x) => h1.1 x k)
      refine fl0 hP hLP hd hv hq dd S S1 _ _ _ ?_ h1
      split <;> omega
/-- edge -/
theorem e256 (hP : okP P) (hLP : LPr σ P) {d v : Int} (hd : d = 0 ∨ d = 1) (hv : 0 ≤ v ∧ v < 20) : Call t 256 [vR 53, vI v, vI d] σ Q ↔ Q (.inl (some (vI (iW (fun x => x = v ∨ TC (EFD P d) v x))))) σ := Call_iff (fun Q hq => by
  have z := iW_0 (S := fun _ => False) (fun t ht k => k)
  have hb := iW_lt (S := fun t => t = v) 20 (fun x _ k => by omega)
  rw [x256_0, iW_one hv.1 (by omega)]
  have := fl0 (t := t) hP hLP hd hv hq 2097200 (fun _ => False) (fun t => t = v) none none none (by split <;> omega) ⟨fun x k => k.elim, rfl, fun x k => Or.inl k, fun n n0 n1 n2 a b k k0 => k0.elim⟩
  rw [← z] at this
  exact ⟨by omega, this⟩)
theorem EFD_0 {a b : Int} : EFD P 0 a b ↔ EFl P a b := by unfold EFD EFl EFd; simp only [if_true]
theorem EFD_1 {a b : Int} : EFD P 1 a b ↔ EFl P b a := by unfold EFD EFl EFd; simp only [show ((1 : Int) = 0) = False from eq_false (by decide), if_false]
theorem TC_rev {E : Int → Int → Prop} {a b : Int} (h : TC (fun x y => E y x) a b) : TC E b a := h (fun x y => TC E y x) (fun x y e => TC_base e) (fun x y z e1 e2 => TC_trans e2 e1)
/-- who is on a cycle with v -/
def cyS (P : Pg) (v : Int) : Int → Prop := fun x => x = v ∨ (TC (EFl P) v x ∧ TC (EFl P) x v)
/-- cycleOf -/
theorem c258 (hP : okP P) (hLP : LPr σ P) {v : Int} (hv : inR v) (h0 : ¬ (0 ≤ v ∧ v < 20) → Q (.inl (some (vI 0))) (sI σ 53 0 1))
    (h1 : (0 ≤ v ∧ v < 20) → Q (.inl (some (vI (iW (cyS P v))))) (sI σ 53 0 0)) : Call t 258 [vR 53, vI v] σ Q := by
  simp only [x258_0, x258_4, e180 hv, eq_true (b2i_in _), b2i_0, aft_l, aft_r, optL_s, optL_n, xgo_n, xgo_s, List.cons_append, List.nil_append, List.append_nil, true_and, and_true, Nat.sub_zero, Nat.zero_le, true_implies, false_implies, implies_true, not_true_eq_false, not_false_eq_true, true_or, or_true]
  by_cases q : 0 ≤ v ∧ v < 20
  · rw [dcl_t q]
    refine ⟨fun a => (by cases a), fun _ => ?_⟩
    have hL0 := LP_fr hLP (q0 (v := 0)) (fun c j k => by omega)
    have fin := h1 q
    have e1 : EFD P 0 = EFl P := funext fun a => funext fun b => propext EFD_0
    have e2 : EFD P 1 = fun a b => EFl P b a := funext fun a => funext fun b => propext EFD_1
    have ea := iW_of (IW_and (IW_iW (fun x => x = v ∨ TC (EFD P 0) v x)) (IW_iW (fun x => x = v ∨ TC (EFD P 1) v x)))
    have ec : iW (fun x => (x = v ∨ TC (EFD P 0) v x) ∧ (x = v ∨ TC (EFD P 1) v x)) = iW (cyS P v) := iW_congr (fun x hx => by
      rw [e1, e2]
      constructor
      · rintro ⟨k1 | k1, k2⟩
        · exact Or.inl k1
        · rcases k2 with k2 | k2
          · exact Or.inl k2
          · exact Or.inr ⟨k1, TC_rev k2⟩
      · rintro (k | ⟨k1, k2⟩)
        · exact ⟨Or.inl k, Or.inl k⟩
        · exact ⟨Or.inr k1, Or.inr (TC_rev (E := fun a b => EFl P b a) k2)⟩)
    rw [← ec, ← ea] at fin
    simp only [x258_13, e256 hP hL0 (Or.inl rfl) q, x258_24, e256 hP hL0 (Or.inr rfl) q, x258_30, aft_l, aft_r, optL_s, optL_n, xgo_n, xgo_s, List.cons_append, List.nil_append, List.append_nil, true_and, and_true, Nat.sub_zero, Nat.zero_le, true_implies, false_implies, implies_true, not_true_eq_false, not_false_eq_true, true_or, or_true]
    exact fin
  · rw [dcl_f q]
    refine ⟨fun _ => ?_, fun a => absurd rfl a⟩
    simp only [x258_7, x258_12, e175, aft_l, aft_r, optL_s, optL_n, xgo_n, xgo_s, List.cons_append, List.nil_append, List.append_nil, true_and, and_true, Nat.sub_zero, Nat.zero_le, true_implies, false_implies, implies_true, not_true_eq_false, not_false_eq_true, true_or, or_true]
    exact h0 q
end LQ5
