/-! characters, bodies, and what was saved -/
theorem iAnd_nn (v : Int) : nR (iAnd v 2147483647) := by
  unfold iAnd
  have k : (BitVec.ofInt 32 2147483647).toNat = 2147483647 := by decide
  have e : (BitVec.ofInt 32 v &&& BitVec.ofInt 32 2147483647).toNat ≤ 2147483647 := by
    rw [BitVec.toNat_and, k]; exact Nat.and_le_right
  rw [BitVec.toInt_eq_toNat_of_lt (by omega)]
  exact ⟨by omega, by omega⟩
theorem pk_rng (v : Int) {n : Int} (hv : inR v) (n0 : 1 ≤ n) (n1 : n ≤ 100) : (nR (iAnd v 2147483647) ∧ nR n ∧ n ≠ 0) ∧ (0 ≤ (iAnd v 2147483647) % n ∧ (iAnd v 2147483647) % n < n) := by
  exact ⟨⟨iAnd_nn v, ⟨by omega, by omega⟩, by omega⟩, Int.emod_nonneg _ (by omega), Int.emod_lt_of_pos _ (by omega)⟩
section LS
variable {t : Nat} {σ : St} {Q : Res → St → Prop} {P : Pg} {lim : Int} {xs : List Int}
def pk (v n : Int) : Int := (iAnd v 2147483647) % n
theorem k209 {v n : Int} (hv : inR v) (n0 : 1 ≤ n) (n1 : n ≤ 100) (hq : (0 ≤ pk v n ∧ pk v n < n) → Q (.inl (some (vI (pk v n)))) σ) : Call t 209 [vI v, vI n] σ Q := by
  have h := pk_rng v hv n0 n1
  rw [x209_0]
  exact ⟨h.1, hq h.2⟩
/-- appendCharacter -/
theorem k178 {B : List Int} (h : CI P lim σ) (hx : TXb σ B) (hl : B.length < 80) {c : Int} (hc : 33 ≤ c ∧ c ≤ 126) (hq : ∀ σ', CI P lim σ' → TXb σ' (B ++ [c]) → fr (fun c j => c = 2 ∨ (c = 1 ∧ j = 1)) σ σ' → Q (.inl (some (vL (BitVec.ofInt 64 (B.length + 1))))) σ') : Call 2 178 [vR 0, vI c] σ Q := by
  obtain ⟨h1, h2, h3, h4⟩ := hx
  rw [x178_0]
  refine ⟨Nat.le_refl _, c121 (Nat.le_refl _) (by omega) ⟨by omega, by omega⟩ (fun k => absurd hc k) (fun _ k => by omega) (fun _ _ => ?_)⟩
  have f1 : fr (fun c j => c = 2 ∨ (c = 1 ∧ j = 1)) σ (sI (sI σ 2 (gI σ 1 1) c) 1 1 (gI σ 1 1 + 1)) := fr_sI (fr_sI fr_refl (Or.inl rfl)) (Or.inr ⟨rfl, rfl⟩)
  show wp _ 178 5 _ [vI _] _ _
  rw [x178_5]
  refine ⟨⟨by omega, by omega⟩, ?_⟩
  rw [h1] at f1 ⊢
  refine hq _ (CI_fr h f1 (fun c j k => by omega)) ⟨?_, ?_, ?_, fun i hi => ?_⟩ f1
  · rw [gI_sI, if_pos ⟨rfl, rfl⟩, List.length_append, List.length_singleton]; omega
  · rw [List.length_append, List.length_singleton]; omega
  · intro x hx
    rw [List.mem_append, List.mem_singleton] at hx
    rcases hx with k | k
    · exact h3 x k
    · rw [k]; exact hc
  · rw [List.length_append, List.length_singleton] at hi
    rw [gI_sI, if_neg (by omega), gI_sI]
    by_cases q : i = B.length
    · rw [if_pos ⟨rfl, by rw [q]⟩, q, List.getD_eq_getElem?_getD, List.getElem?_append_right (Nat.le_refl _), Nat.sub_self]; rfl
    · rw [if_neg (fun k => q (by omega)), h4 i (by omega), List.getD_eq_getElem?_getD, List.getD_eq_getElem?_getD, List.getElem?_append_left (by omega)]
/-- setBody, of a text that the law has made -/
def sbO (σ : St) : Prop := (∀ a, 0 ≤ a → a < 44 → gL σ 49 a = BitVec.ofNat 64 0) ∧ (gI σ 46 9 = 0 ∧ gI σ 46 10 = 0)
theorem k179 (hP : okP P) (h : CI P lim σ) {L : List St4} (hx : TXb σ (bx L)) (ho : ∀ s ∈ L, okr s) {f : Int} (hf : 0 ≤ f ∧ f ≤ 3) (hL : L.length ≤ 12) (h8 : cq 4 L + mny P 4 f ≤ 8) (h5 : cq 6 L + mny P 6 f ≤ 5)
    (hq : ∀ σ', CI (spP P f (L.map (stm (4 + 4 * f)))) lim σ' → TXb σ' [] → sbO σ' → fr sbM2 σ σ' → Q (.inl (some (vL (BitVec.ofInt 64 L.length)))) σ') : Call 3 179 [vR 0, vI f] σ Q := by
  have hr := TX_rT hf hx ho (by omega)
  have h4 := stm_ok (f0 := 4 + 4 * f) (by omega) ho
  have hlen : (L.map (stm (4 + 4 * f))).length = L.length := List.length_map ..
  have c4 := cq_stm 4 (4 + 4 * f) L
  have c6 := cq_stm 6 (4 + 4 * f) L
  rw [x179_0]
  refine ⟨Nat.le_refl _, c122 (Nat.le_refl _) hP h (TX_tx1 hx) ⟨by omega, by omega⟩ (r := -1) (L := L.map (stm (4 + 4 * f))) (fun _ => ⟨hr, ⟨by omega, by omega⟩, by omega, h4⟩) (fun k => absurd (show 0 ≤ f ∧ f < 4 by omega) k) (fun _ k => absurd rfl k) (fun _ _ k => absurd ⟨by omega, by omega, by omega⟩ k) (fun _ _ _ _ _ σ' a b _ d e g i => ?_)⟩
  have hS := spP_ok P f (L.map (stm (4 + 4 * f))) (by omega)
  show wp _ 179 5 _ [vI _] _ _
  rw [x179_5, hlen]
  exact ⟨⟨by omega, by omega⟩, hq σ' (a _ hS (SPr_ok hP hS hf (by omega) h4 (by omega) (by omega))) (TX_0 b) ⟨d, e, g⟩ i⟩
theorem emp_tot {P : Pg} (h : ∀ g, 0 ≤ g → g ≤ 3 → P 58 g = 0) : tot P = 0 := by
  unfold tot
  rw [h 0 (by omega) (by omega), h 1 (by omega) (by omega), h 2 (by omega) (by omega), h 3 (by omega) (by omega)]; rfl
theorem spP_58 {P : Pg} {f : Int} {L : List St4} {g : Int} : spP P f L 58 g = if g = f then (L.length : Int) else P 58 g := by
  unfold spP; rw [if_pos rfl]
/-- saved, behind its emptying of the bodies: P what was saved, P' what stands now -/
theorem k214 {P' : Pg} {v : Int} {ys zs : List Int} {r : Int} {a3 a5 a7 a9 a10 : Option AV} (ht : 10 ≤ t) (hv : inR v) (hP' : okP P') (h0 : tot P' = 0) (h : CI P' (pk v 3) σ) (hO : sbO σ)
    (hP : okP P) (h10 : gI σ 0 10 = 1) (hS : RB 12 σ P ∧ gI σ 12 2 = pk v 3) (hZ : isC P (pk v 3) zs) (hY : isC P 0 ys) (hR : RDn P ys 0 r)
    (hq : ∀ σ', CI P 1 σ' → fr (fun c j => clq c j ∨ fgM c j ∨ (5 ≤ c ∧ c ≤ 11)) σ σ' → Q (.inl (some (vI 1))) σ') :
    wp t 214 84 [some (vR 0), some (vI v), some (vL (BitVec.ofInt 64 (FN P zs (pk v 3)))), a3, some (vL (BitVec.ofInt 64 (tot P))), a5, some (vL (BitVec.ofInt 64 r)), a7, some (vL (BitVec.ofInt 64 (cn (fun t => dcl (ugF P t)) (20 + mny P 4 (-1)).toNat))), a9, a10] [] σ Q := by
  have hp := (pk_rng v hv (n := 3) (by omega) (by omega)).2
  have hl : 0 ≤ pk v 3 ∧ pk v 3 ≤ 2 := ⟨hp.1, by have : pk v 3 < 3 := hp.2; omega⟩
  obtain ⟨xs', hX'⟩ := isC_ex hP' (pk v 3)
  have ez : lCmp (BitVec.ofInt 64 0) (BitVec.ofNat 64 0) = 0 := lCmp_eq.mpr rfl
  obtain ⟨hO1, hO2, hO3⟩ := hO
  -- facts
  rw [x214_84]
  refine k188 hP' hl hX' h FN_in (fun σ1 c1 f1 => ?_)
  show wp _ 214 88 _ [vL _] _ _
  rw [no_FN hP' hX' h0, x214_88]
  refine ⟨lCmp_in, fun _ => ?_, fun k => absurd ez k⟩
  rw [x214_93]
  refine k180 hP' c1 ?_
  show wp _ 214 97 _ [vL _] _ _
  rw [h0, x214_97]
  refine ⟨lCmp_in, fun _ => ?_, fun k => absurd ez k⟩
  have i9 : gI σ1 46 9 = 0 := (fr_I f1 46 9 (by unfold clq; omega)).trans hO2
  have i10 : gI σ1 46 10 = 0 := (fr_I f1 46 10 (by unfold clq; omega)).trans hO3
  have l0 : gL σ1 49 0 = BitVec.ofNat 64 0 := (fr_L f1 49 0 (by unfold clq; omega)).trans (hO1 0 (by omega) (by omega))
  rw [x214_102]
  refine k205 (by rw [i10]; exact ⟨by omega, by omega⟩) ?_
  show wp _ 214 106 _ [vL _] _ _
  rw [i10, x214_106]
  refine ⟨lCmp_in, fun _ => ?_, fun k => absurd ez k⟩
  rw [x214_111]
  refine k204 (by rw [i9]; exact ⟨by omega, by omega⟩) ?_
  show wp _ 214 115 _ [vL _] _ _
  rw [i9, x214_115]
  refine ⟨lCmp_in, fun _ => ?_, fun k => absurd ez k⟩
  rw [x214_120]
  refine ⟨by omega, k202 (by omega) (by omega) ?_⟩
  show wp _ 214 125 _ [vL _] _ _
  rw [l0, x214_125]
  refine ⟨lCmp_in, fun _ => ?_, fun k => absurd (lCmp_eq.mpr rfl) k⟩
  rw [x214_130]
  refine k197 hP' c1 (fun σ2 c2 f2 => ?_)
  show wp _ 214 134 _ [vL _] _ _
  rw [no_cls h0, x214_134]
  refine ⟨lCmp_in, fun _ => ?_, fun k => absurd (lCmp_eq.mpr rfl) k⟩
  rw [x214_141]
  refine ⟨by omega, k184 ⟨by omega, by omega⟩ c2 (by omega) (by omega) (fun c3 => ?_)⟩
  have f3 : fr (fun c j => (c = 5 ∧ j = 2) ∨ (c = 19 ∧ j = 8)) σ2 (sI (sI σ2 5 2 0) 19 8 1) := fr_sI (fr_sI fr_refl (Or.inl ⟨rfl, rfl⟩)) (Or.inr ⟨rfl, rfl⟩)
  have f03 : fr (fun c j => clq c j ∨ (c = 5 ∧ j = 2)) σ (sI (sI σ2 5 2 0) 19 8 1) := fr_trans (fr_mono f1 (fun c j k => Or.inl k)) (fr_trans (fr_mono f2 (fun c j k => Or.inl k)) (fr_mono f3 (fun c j k => by unfold clq; omega)))
  generalize sI (sI σ2 5 2 0) 19 8 1 = σ3 at c3 f03 f3 ⊢
  show wp _ 214 146 _ [vL _] _ _
  rw [x214_146]
  refine k209 hv (by omega) (by omega) (fun _ => ?_)
  show wp _ 214 151 _ [vI _, vL _] _ _
  rw [x214_151]
  refine ⟨⟨by omega, by omega⟩, lCmp_in, fun _ => ?_, fun k => absurd (lCmp_eq.mpr rfl) k⟩
  rw [x214_158]
  have hS3 : RB 12 σ3 P ∧ gI σ3 12 2 = pk v 3 := ⟨RB_fr hS.1 f03 (fun j => by unfold clq; omega) (fun j => by unfold clq; omega), (fr_I f03 12 2 (by unfold clq; omega)).trans hS.2⟩
  refine ⟨by omega, k208 hP c3 ((fr_I f03 0 10 (by unfold clq; omega)).trans h10) hS3 (fun σ4 c4 _ _ j10 f4 => ?_)⟩
  show wp _ 214 162 _ [vL _] _ _
  rw [x214_162]
  refine ⟨lCmp_in, fun _ => ?_, fun k => absurd (lCmp_eq.mpr rfl) k⟩
  rw [x214_167]
  refine k188 hP hl hZ c4 FN_in (fun σ5 c5 f5 => ?_)
  show wp _ 214 171 _ [vL _] _ _
  rw [x214_171]
  refine ⟨lCmp_in, fun _ => ?_, fun k => absurd (lCmp_eq.mpr rfl) k⟩
  rw [x214_176]
  refine k180 hP c5 ?_
  show wp _ 214 180 _ [vL _] _ _
  rw [x214_180]
  refine ⟨lCmp_in, fun _ => ?_, fun k => absurd (lCmp_eq.mpr rfl) k⟩
  rw [x214_186]
  refine k194 hP hY c5 (fun σ6 r' hR' c6 f6 => ?_)
  show wp _ 214 190 _ [vL _] _ _
  rw [RDn_uniq hR' hR, x214_190]
  refine ⟨lCmp_in, fun _ => ?_, fun k => absurd (lCmp_eq.mpr rfl) k⟩
  rw [x214_196]
  refine k197 hP c6 (fun σ7 c7 f7 => ?_)
  show wp _ 214 200 _ [vL _] _ _
  rw [x214_200]
  refine ⟨lCmp_in, fun _ => ?_, fun k => absurd (lCmp_eq.mpr rfl) k⟩
  have j : gI σ7 46 10 = 0 := ((fr_I f7 46 10 (by unfold clq; omega)).trans ((fr_I f6 46 10 (by unfold clq; omega)).trans (fr_I f5 46 10 (by unfold clq; omega)))).trans j10
  rw [x214_206]
  refine k205 (by rw [j]; exact ⟨by omega, by omega⟩) ?_
  show wp _ 214 210 _ [vL _] _ _
  rw [j, x214_210]
  refine ⟨lCmp_in, fun _ => ?_, fun k => absurd ez k⟩
  rw [x214_215]
  refine ⟨by omega, k184 ⟨by omega, by omega⟩ c7 (by omega) (by omega) (fun c8 => ?_)⟩
  have f8 : fr (fun c j => (c = 5 ∧ j = 2) ∨ (c = 19 ∧ j = 8)) σ7 (sI (sI σ7 5 2 1) 19 8 1) := fr_sI (fr_sI fr_refl (Or.inl ⟨rfl, rfl⟩)) (Or.inr ⟨rfl, rfl⟩)
  generalize sI (sI σ7 5 2 1) 19 8 1 = σ8 at c8 f8 ⊢
  show wp _ 214 220 _ [vL _] _ _
  rw [x214_220]
  refine k209 hv (by omega) (by omega) (fun _ => ?_)
  show wp _ 214 225 _ [vI _, vL _] _ _
  rw [x214_225]
  refine ⟨⟨by omega, by omega⟩, lCmp_in, fun _ => ?_, fun k => absurd (lCmp_eq.mpr rfl) k⟩
  rw [x214_230, x214_235]
  refine ⟨Or.inr rfl, hq σ8 c8 ?_⟩
  refine fr_trans (fr_mono f03 (fun c j k => ?_)) (fr_trans (fr_mono f4 (fun c j k => Or.inr k)) (fr_trans (fr_mono f5 (fun c j k => Or.inl k)) (fr_trans (fr_mono f6 (fun c j k => Or.inl k)) (fr_trans (fr_mono f7 (fun c j k => Or.inl k)) (fr_mono f8 (fun c j k => ?_))))))
  · rcases k with k | k
    · exact Or.inl k
    · exact Or.inr (Or.inr (by omega))
  · rcases k with k | k
    · exact Or.inr (Or.inr (by omega))
    · exact Or.inl (by unfold clq; omega)
end LS
