/-! both sides together -/
theorem isC_ex {P : Pg} (hP : okP P) (lim : Int) : ∃ xs, isC P lim xs := by
  refine ⟨((List.range 9412).map (fun n : Nat => (n : Int))).filter (fun e => dcl (RS P lim e)), ?_, fun e => ?_⟩
  · refine List.Pairwise.filter _ ?_
    rw [List.pairwise_map]
    exact List.Pairwise.imp (fun h => Int.ofNat_lt.mpr h) List.pairwise_lt_range
  · rw [List.mem_filter, dcl_iff]
    constructor
    · exact fun h => h.2
    · intro h
      have hr := RS_rng hP h
      exact ⟨List.mem_map.mpr ⟨e.toNat, List.mem_range.mpr (by omega), by omega⟩, h⟩
section LS
variable {t : Nat} {σ : St} {Q : Res → St → Prop} {P : Pg} {xs : List Int} {lim : Int}
end LS

