/-! both sides together -/
theorem isC_ex {P : Pg} (hP : okP P) (lim : Int) : ∃ xs, isC P lim xs := by
  refine ⟨((List.range 9412).map (fun n : Nat => (n : Int))).filter (fun e => dcl (RS P lim e)), ?_, fun e => ?_⟩
  · refine List.Pairwise.filter _ ?_
    rw [List.pairwise_map]
    exact List.Pairwise.imp (fun h => Int.ofNat_lt.mpr h) List.pairwise_lt_range
  · rw [List.mem_filter, dcl_iff]
    constructor
    · exact fun h => h.2
    · intro h
      have hr := RS_rng hP h
      exact ⟨List.mem_map.mpr ⟨e.toNat, List.mem_range.mpr (by omega), by omega⟩, h⟩
def FJ (σ : St) : Prop := gI σ 0 9 = gI σ 53 10 ∧ (-1 ≤ gI σ 53 10 ∧ gI σ 53 10 ≤ 80)
def SJ (PS : Pg) (lS : Int) (σ : St) : Prop := (gI σ 0 10 = gI σ 53 42 ∧ (gI σ 53 42 = 0 ∨ gI σ 53 42 = 1)) ∧ (gI σ 53 42 = 1 → RB 12 σ PS ∧ (gI σ 12 2 = lS ∧ SV PS lS σ))
def MJ (σ : St) : Prop := (∀ a, 0 ≤ a → a < 44 → gL σ 49 a = gL σ 75 a) ∧ ((gI σ 46 9 = gI σ 53 39 ∧ (0 ≤ gI σ 53 39 ∧ gI σ 53 39 ≤ 200)) ∧ (gI σ 46 10 = gI σ 53 38 ∧ (0 ≤ gI σ 53 38 ∧ gI σ 53 38 ≤ 200)))
def jM : Nat → Int → Prop := fun c j => clq c j ∨ qM c j ∨ c = 77 ∨ c = 78
theorem SV_fr {M : Nat → Int → Prop} {P : Pg} {lim : Int} {σ σ' : St} (h : SV P lim σ) (g : fr M σ σ') (hM : ∀ j, ¬ M 76 j) : SV P lim σ' := fun i i0 i1 => (fr_I g _ _ (hM i)).trans (h i i0 i1)
section LS
variable {t : Nat} {σ : St} {Q : Res → St → Prop} {P : Pg} {xs : List Int} {lim : Int}
theorem e174 : Call t 174 [vR 53] σ Q ↔ Q (.inl (some (vI (gI σ 53 0)))) σ := by rw [x174_0]
theorem LP_0 {v : Int} (h : LPr σ P) : LPr (sI σ 53 0 v) P := LP_fr h (q0 (v := v)) (fun c j k => by omega)
end LS

