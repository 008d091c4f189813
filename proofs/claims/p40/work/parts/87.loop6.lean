/-! the law's loop: cases 5 -/
noncomputable def FG (A : Fa) : Int → BitVec 64 := fun k => wS (fun t => A (k / 3) (64 * (k % 3) + t))
theorem FG_bt {A : Fa} {c u : Int} (_ : 0 ≤ c) (u0 : 0 ≤ u) (u1 : u < 192) : bt (FG A) c u = true ↔ A c u := by
  unfold bt FG
  rw [SW_wS _ (u % 64).toNat (by omega), show (3 * c + u / 64) / 3 = c by omega, show 64 * ((3 * c + u / 64) % 3) + (((u % 64).toNat : Nat) : Int) = u by omega]
theorem FG_lt {A B : Fa} (h : ∀ c u, A c u → B c u) {c u : Int} (hr : (0 ≤ c ∧ c < 152) ∧ (0 ≤ u ∧ u < 152)) (hb : B c u) (ha : ¬ A c u) : fpop (FG A) < fpop (FG B) := by
  have hle : ∀ c u, 0 ≤ c → c < 152 → 0 ≤ u → u < 192 → bt (FG A) c u = true → bt (FG B) c u = true := fun c u c0 c1 u0 u1 k => (FG_bt c0 u0 u1).mpr (h c u ((FG_bt c0 u0 u1).mp k))
  apply Classical.byContradiction
  intro hno
  have e := fpop_eq hle (by omega) (k := 3 * c + u / 64) (by omega) (by omega)
  have k1 := (FG_bt (A := B) hr.1.1 hr.2.1 (show u < 192 by omega)).mpr hb
  unfold bt at k1
  rw [← e] at k1
  exact ha ((FG_bt (A := A) hr.1.1 hr.2.1 (show u < 192 by omega)).mp k1)
theorem Gr_bd {P : Pg} (hP : okP P) {xs : List Int} {lim : Int} (hC : isC P lim xs) : ∀ j : Nat, (∀ i, i < j → ∃ c u, Gr P xs lim (i + 1) c u ∧ ¬ Gr P xs lim i c u) → (j : Int) ≤ fpop (FG (Gr P xs lim j))
  | 0, _ => fpop_nn _
  | j + 1, h => by
    have ih := Gr_bd hP hC j (fun i hi => h i (by omega))
    obtain ⟨c, u, k1, k2⟩ := h j (by omega)
    have hx := xok_of hP hC
    have hok := Gr_ok hP hC (j + 1) c u k1
    have := FG_lt (A := Gr P xs lim j) (B := Gr P xs lim (j + 1)) (fun c u k => Gr_le (by omega) k) ⟨vld_152 hx hok.1, vld_152 hx hok.2⟩ k1 k2
    omega
theorem Gr_tp {P : Pg} (hP : okP P) {xs : List Int} {lim : Int} (hC : isC P lim xs) (j : Nat) : fpop (FG (Gr P xs lim j)) ≤ 23104 := fpop_bound (fun c u c0 c1 u0 u1 k => (vld_152 (xok_of hP hC) (Gr_ok hP hC j c u ((FG_bt c0 u0 u1).mp k)).2).2)
theorem RDn_rng {P : Pg} (hP : okP P) {xs : List Int} {lim r : Int} (hC : isC P lim xs) (h : RDn P xs lim r) : 0 ≤ r ∧ r ≤ 23104 := by
  obtain ⟨j, e, _, h2⟩ := h
  have := Gr_bd hP hC j h2
  have := Gr_tp hP hC j
  omega
theorem Gr_fix {P : Pg} {xs : List Int} {lim : Int} {i : Nat} (h : ∀ c u, Gr P xs lim (i + 1) c u → Gr P xs lim i c u) : ∀ k, i ≤ k → ∀ c u, Gr P xs lim (k + 1) c u → Gr P xs lim k c u := by
  intro k hk
  induction hk with
  | refl => exact h
  | step _ ih =>
    intro c u g
    rename_i k' _
    have e : Gr P xs lim (k' + 1) = Gr P xs lim k' := funext fun c => funext fun u => propext ⟨ih c u, fun g => Gr_le (by omega) g⟩
    show Gr P xs lim (k' + 1) c u
    rcases g with g | ⟨i, n, g1, g2⟩
    · exact g
    · rw [e] at g2; exact Or.inr ⟨i, n, g1, g2⟩
theorem RKp_rng {P : Pg} (hP : okP P) {xs : List Int} {lim a b r s : Int} (hC : isC P lim xs) (h : RKp P xs lim a b r s) : (1 ≤ r ∧ r ≤ 23105) ∧ (0 ≤ s ∧ s < 48) := by
  obtain ⟨j, i, e, h1, h2, h3⟩ := h
  have ht := tot_rng hP.1
  have hnew : ∃ c u, Gr P xs lim (j + 1) c u ∧ ¬ Gr P xs lim j c u := by
    obtain ⟨c, u, k1, k2⟩ := h3
    refine ⟨c, u, GB_Gr k1, fun k => h2 ⟨c, u, Or.inl k, k2⟩⟩
  have hall : ∀ i, i < j → ∃ c u, Gr P xs lim (i + 1) c u ∧ ¬ Gr P xs lim i c u := fun i hi => by
    apply Classical.byContradiction
    intro hno
    obtain ⟨c, u, k1, k2⟩ := hnew
    exact k2 (Gr_fix (i := i) (fun c u k => Classical.byContradiction (fun k' => hno ⟨c, u, k, k'⟩)) j (by omega) c u k1)
  have k1 := Gr_bd hP hC j hall
  have k2 := Gr_tp hP hC j
  have hs := h1.2.1
  omega
section LO6
variable {t : Nat} {σ : St} {Q : Res → St → Prop} {P PS : Pg} {lim lS : Int} {xs ys : List Int}
end LO6

