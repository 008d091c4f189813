/-! the program, as the law's cells hold it: P 54 the kinds by place, P 55, P 56, P 57 the operands, P 58 the sizes -/
abbrev Pg : Type := Nat → Int → Int
def tot (P : Pg) : Int := P 58 0 + P 58 1 + P 58 2 + P 58 3
def stt (P : Pg) (f : Int) : Int := if f = 0 then 0 else if f = 1 then P 58 0 else if f = 2 then P 58 0 + P 58 1 else if f = 3 then P 58 0 + P 58 1 + P 58 2 else tot P
def own (P : Pg) (n : Int) : Int := if n < P 58 0 then 0 else if n < P 58 0 + P 58 1 then 1 else if n < P 58 0 + P 58 1 + P 58 2 then 2 else 3
def plc (P : Pg) (n : Int) : Int := 12 * own P n + (n - stt P (own P n))
def num (P : Pg) (p : Int) : Int := stt P (p / 12) + p % 12
def okZ (P : Pg) : Prop := (0 ≤ P 58 0 ∧ P 58 0 ≤ 12) ∧ ((0 ≤ P 58 1 ∧ P 58 1 ≤ 12) ∧ ((0 ≤ P 58 2 ∧ P 58 2 ≤ 12) ∧ (0 ≤ P 58 3 ∧ P 58 3 ≤ 12)))
theorem f4 {f : Int} (h0 : 0 ≤ f) (h1 : f ≤ 3) : f = 0 ∨ f = 1 ∨ f = 2 ∨ f = 3 := by omega
theorem stt0 (P : Pg) : stt P 0 = 0 := rfl
theorem stt1 (P : Pg) : stt P 1 = P 58 0 := rfl
theorem stt2 (P : Pg) : stt P 2 = P 58 0 + P 58 1 := rfl
theorem stt3 (P : Pg) : stt P 3 = P 58 0 + P 58 1 + P 58 2 := rfl
theorem stt4 (P : Pg) : stt P 4 = tot P := rfl
theorem stt_succ (P : Pg) {f : Int} (h0 : 0 ≤ f) (h1 : f ≤ 3) : stt P (f + 1) = stt P f + P 58 f := by
  rcases f4 h0 h1 with rfl | rfl | rfl | rfl
  · rw [stt0, show (0 : Int) + 1 = 1 from rfl, stt1]; omega
  · rw [stt1, show (1 : Int) + 1 = 2 from rfl, stt2]
  · rw [stt2, show (2 : Int) + 1 = 3 from rfl, stt3]
  · rw [stt3, show (3 : Int) + 1 = 4 from rfl, stt4]; rfl
theorem okZ_at {P : Pg} (h : okZ P) {f : Int} (h0 : 0 ≤ f) (h1 : f ≤ 3) : 0 ≤ P 58 f ∧ P 58 f ≤ 12 := by
  rcases f4 h0 h1 with rfl | rfl | rfl | rfl
  · exact h.1
  · exact h.2.1
  · exact h.2.2.1
  · exact h.2.2.2
theorem tot_rng {P : Pg} (h : okZ P) : 0 ≤ tot P ∧ tot P ≤ 48 := by
  obtain ⟨h0, h1, h2, h3⟩ := h
  unfold tot; omega
theorem stt_rng {P : Pg} (h : okZ P) {f : Int} (h0 : 0 ≤ f) (h1 : f ≤ 3) : 0 ≤ stt P f ∧ stt P f + P 58 f ≤ tot P := by
  obtain ⟨g0, g1, g2, g3⟩ := h
  rcases f4 h0 h1 with rfl | rfl | rfl | rfl
  · rw [stt0]; unfold tot; omega
  · rw [stt1]; unfold tot; omega
  · rw [stt2]; unfold tot; omega
  · rw [stt3]; unfold tot; omega
theorem own_of {P : Pg} (h : okZ P) {f k : Int} (h0 : 0 ≤ f) (h1 : f ≤ 3) (k0 : 0 ≤ k) (k1 : k < P 58 f) : own P (stt P f + k) = f := by
  obtain ⟨g0, g1, g2, g3⟩ := h
  rcases f4 h0 h1 with rfl | rfl | rfl | rfl
  · rw [stt0, own, if_pos (by omega)]
  · rw [stt1, own, if_neg (by omega), if_pos (by omega)]
  · rw [stt2, own, if_neg (by omega), if_neg (by omega), if_pos (by omega)]
  · rw [stt3, own, if_neg (by omega), if_neg (by omega), if_neg (by omega)]
theorem plc_of {P : Pg} (h : okZ P) {f k : Int} (h0 : 0 ≤ f) (h1 : f ≤ 3) (k0 : 0 ≤ k) (k1 : k < P 58 f) : plc P (stt P f + k) = 12 * f + k := by
  unfold plc; rw [own_of h h0 h1 k0 k1]; omega
theorem own_spec {P : Pg} (h : okZ P) {n : Int} (h0 : 0 ≤ n) (h1 : n < tot P) : (0 ≤ own P n ∧ own P n ≤ 3) ∧ (stt P (own P n) ≤ n ∧ n < stt P (own P n) + P 58 (own P n)) := by
  obtain ⟨g0, g1, g2, g3⟩ := h
  unfold tot at h1
  unfold own
  by_cases c0 : n < P 58 0
  · simp only [if_pos c0]; rw [stt0]; omega
  · simp only [if_neg c0]
    by_cases c1 : n < P 58 0 + P 58 1
    · simp only [if_pos c1]; rw [stt1]; omega
    · simp only [if_neg c1]
      by_cases c2 : n < P 58 0 + P 58 1 + P 58 2
      · simp only [if_pos c2]; rw [stt2]; omega
      · simp only [if_neg c2]; rw [stt3]; omega
/-- every statement is some function's some statement -/
theorem n_split {P : Pg} (h : okZ P) {n : Int} (h0 : 0 ≤ n) (h1 : n < tot P) : ∃ f k : Int, (0 ≤ f ∧ f ≤ 3) ∧ (0 ≤ k ∧ k < P 58 f) ∧ n = stt P f + k := by
  obtain ⟨h2, h3, h4⟩ := own_spec h h0 h1
  exact ⟨own P n, n - stt P (own P n), h2, ⟨by omega, by omega⟩, by omega⟩
theorem plc_rng {P : Pg} (h : okZ P) {n : Int} (h0 : 0 ≤ n) (h1 : n < tot P) : 0 ≤ plc P n ∧ plc P n < 48 := by
  obtain ⟨h2, h3, h4⟩ := own_spec h h0 h1
  have := okZ_at h h2.1 h2.2
  unfold plc; omega
theorem plc_div {P : Pg} (h : okZ P) {n : Int} (h0 : 0 ≤ n) (h1 : n < tot P) : plc P n / 12 = own P n := by
  obtain ⟨h2, h3, h4⟩ := own_spec h h0 h1
  have := okZ_at h h2.1 h2.2
  unfold plc; omega
theorem num_plc {P : Pg} (h : okZ P) {n : Int} (h0 : 0 ≤ n) (h1 : n < tot P) : num P (plc P n) = n := by
  unfold num
  rw [plc_div h h0 h1]
  obtain ⟨h2, h3, h4⟩ := own_spec h h0 h1
  have := okZ_at h h2.1 h2.2
  have e : plc P n % 12 = n - stt P (own P n) := by unfold plc; omega
  rw [e]; omega
theorem num_of {P : Pg} {f k : Int} (k0 : 0 ≤ k) (k1 : k < 12) : num P (12 * f + k) = stt P f + k := by
  unfold num
  rw [show (12 * f + k) / 12 = f by omega, show (12 * f + k) % 12 = k by omega]
/-- of a statement by its number: kind, operands, site -/
def kd (P : Pg) (n : Int) : Int := P 54 (plc P n)
def vv (P : Pg) (n : Int) : Int := P 55 (plc P n)
def ww (P : Pg) (n : Int) : Int := P 56 (plc P n)
def nn (P : Pg) (n : Int) : Int := P 57 (plc P n)
def sn (P : Pg) (n : Int) : Int := cn (fun m => kd P m == 4) n.toNat
/-- statements of a kind, but those of a function -/
def mny (P : Pg) (q wo : Int) : Int := cn (fun m => (own P m != wo) && (kd P m == q)) (tot P).toNat
def okP (P : Pg) : Prop := okZ P ∧ ((∀ n, 0 ≤ n → n < tot P → (0 ≤ kd P n ∧ kd P n ≤ 6) ∧ ((0 ≤ vv P n ∧ vv P n ≤ 19) ∧ ((0 ≤ ww P n ∧ ww P n ≤ 19) ∧ (0 ≤ nn P n ∧ nn P n ≤ 3))) ∧ (kd P n = 5 → nn P n ≤ 2)) ∧ (mny P 4 (-1) ≤ 8 ∧ mny P 6 (-1) ≤ 5))
theorem sn_succ {P : Pg} {n : Int} (h : 0 ≤ n) : sn P (n + 1) = sn P n + (if kd P n = 4 then 1 else 0) := by
  unfold sn
  rw [show (n + 1).toNat = n.toNat + 1 by omega, cn_succ, show ((n.toNat : Nat) : Int) = n by omega]
  simp only [beq_iff_eq]
theorem sn_rng {P : Pg} {n : Int} (h : 0 ≤ n) : 0 ≤ sn P n ∧ sn P n ≤ n := by
  have := cn_rng (fun m => kd P m == 4) n.toNat
  unfold sn; omega
theorem sn_mono {P : Pg} {m n : Int} (h : m ≤ n) : sn P m ≤ sn P n := cn_mono _ (by omega)
theorem mny_all {P : Pg} (h : okZ P) : mny P 4 (-1) = sn P (tot P) := by
  unfold mny sn
  apply cn_congr
  intro m h0 h1
  have := tot_rng h
  obtain ⟨h2, -⟩ := own_spec h h0 (by omega)
  have : (own P m != -1) = true := by simp; omega
  rw [this, Bool.true_and]

