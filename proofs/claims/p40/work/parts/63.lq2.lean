/-! the law's questions: targets -/
def TSp (P : Pg) (xs : List Int) (lim c : Int) : Int → Prop := fun t => ∃ u, Lf P xs lim c u ∧ cdf xs u = t
theorem fpop_congr {F F' : Int → BitVec 64} (h : ∀ k : Int, 0 ≤ k → k < 456 → F k = F' k) : fpop F = fpop F' := fsum_congr (fun k k0 k1 => h k k0 (by omega))
/-- the number of facts -/
noncomputable def FN (P : Pg) (xs : List Int) (lim : Int) : Int := fpop (fun k => wS (fun t => Lf P xs lim (k / 3) (64 * (k % 3) + t)))
theorem FN_of {P : Pg} (hP : okP P) {xs : List Int} {lim : Int} (hC : isC P lim xs) {g : Nat} {σ : St} (h : ∀ c u, Gc g σ c u ↔ Lf P xs lim c u) : fpop (gL σ g) = FN P xs lim := fpop_congr (fun k k0 k1 => wS_of (fun t ht => by
  rw [← h, Gc_bt (by omega) (by omega), show 3 * (k / 3) + (64 * (k % 3) + (t : Int)) / 64 = k by omega, show ((64 * (k % 3) + (t : Int)) % 64).toNat = t by omega]))
section LQ2
variable {t : Nat} {σ : St} {Q : Res → St → Prop} {P : Pg} {xs : List Int} {lim : Int}
/-- which context a question means: v below 4 with k 0, or a local with k among its contexts -/
def cxq (xs : List Int) (v k : Int) : Prop := (v < 4 ∧ k = 0) ∨ (4 ≤ v ∧ (0 ≤ k ∧ k < nc xs ((v - 4) / 4)))
def cxc (xs : List Int) (v k : Int) : Int := if v < 4 then v else clo v (cbl xs ((v - 4) / 4 * 2353) + k)
theorem m8_rng (hP : okP P) : 0 ≤ mny P 4 (-1) ∧ mny P 4 (-1) ≤ 8 := ⟨(cn_rng _ _).1, hP.2.2.1⟩
theorem bt1 {l : BitVec 64} {j : Nat} (hj : j < 64) : BitVec.toInt (BitVec.sshiftRight l j &&& BitVec.ofNat 64 1) = if l.getLsbD j = true then 1 else 0 := by
  by_cases q : l.getLsbD j = true
  · rw [if_pos q]
    have : BitVec.sshiftRight l j &&& BitVec.ofNat 64 1 = BitVec.ofNat 64 1 := by rw [bb_and1', bb_sar _ hj]; exact q
    rw [this]; decide
  · rw [if_neg q]
    have : BitVec.sshiftRight l j &&& BitVec.ofNat 64 1 = BitVec.ofNat 64 0 := by
      apply BitVec.eq_of_getLsbD_eq
      intro i hi
      rw [BitVec.getLsbD_and]
      by_cases e : i = 0
      · rw [e, bb_sar _ hj]
        cases z : l.getLsbD j with
        | true => exact absurd z q
        | false => simp
      · have : (BitVec.ofNat 64 1).getLsbD i = false := by
          have := bb_one (n := 0) (i := i) (by omega)
          rw [BitVec.shiftLeft_zero] at this
          rw [this, decide_eq_false e]
        rw [this, Bool.and_false]; simp
    rw [this]; decide
/-- mayAlias -/
def alp (P : Pg) (xs : List Int) (lim v w : Int) : Prop := ∃ t : Nat, t < 64 ∧ (im xs (Lf P xs lim) v t ∧ im xs (Lf P xs lim) w t)
end LQ2

