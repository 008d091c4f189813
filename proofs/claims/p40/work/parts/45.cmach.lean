/-! the class's machine -/
section CM
variable {t : Nat} {σ : St} {Q : Res → St → Prop} {P : Pg}
theorem e73 {a : Int} (a0 : 0 ≤ a) (a1 : a < 809) : Call t 73 [vR 46, vI a] σ Q ↔ Q (.inl (some (vI (gI σ 47 a)))) σ := by
  simp only [x73_0, x73_8, k96 (show lc 47 = 101 from rfl), rdI_in (σ := σ) (r := 47) (i := a) (n := 809) rfl a0 a1, aft_l, aft_r, optL_s, optL_n, xgo_n, xgo_s, List.cons_append, List.nil_append, List.append_nil, true_and, and_true, Nat.sub_zero, Nat.zero_le, true_implies, false_implies, implies_true, not_true_eq_false, not_false_eq_true, true_or, or_true]
  exact w_true ⟨by omega, by omega⟩
theorem e72 {v : Int} (v0 : 0 ≤ v) (v1 : v ≤ 19) (h0 : 0 < gI σ 46 6) (h1 : gI σ 46 6 ≤ 6) : Call t 72 [vR 46, vI v] σ Q ↔ Q (.inl (some (vI (madr v σ)))) σ := Call_iff (fun Q hq => by
  have r : rdI σ 52 (gI σ 46 6 - 1) = gI σ 52 (gI σ 46 6 - 1) := rdI_in (n := 6) rfl (by omega) (by omega)
  unfold madr at hq
  rw [x72_0]
  refine ⟨⟨by omega, by omega⟩, fun e => ?_, fun e => ?_⟩
  · rw [if_pos e] at hq
    rw [x72_5]; exact hq
  · rw [if_neg e] at hq
    simp only [x72_9, x72_22, k96 (show lc 52 = 101 from rfl), r, aft_l, aft_r, optL_s, optL_n, xgo_n, xgo_s, List.cons_append, List.nil_append, List.append_nil, true_and, and_true, Nat.sub_zero, Nat.zero_le, true_implies, false_implies, implies_true, not_true_eq_false, not_false_eq_true, true_or, or_true]
    exact ⟨⟨by omega, by omega⟩, ⟨by omega, by omega⟩, hq⟩)
theorem e74 {a p : Int} (ha : 0 ≤ a ∧ a < 809) (hp : 0 ≤ p ∧ p < 809) (hc : 0 ≤ gI σ 48 a ∧ gI σ 48 a < 44) : Call t 74 [vR 46, vI a, vI p] σ Q ↔ Q (.inl none) (mwr a p σ) := Call_iff (fun Q hq => by
  have w : ∀ v, wrI σ 47 a v = sI σ 47 a v := fun v => wrI_in (n := 809) rfl ha.1 ha.2
  have r1 : rdI (sI σ 47 a p) 48 a = gI σ 48 a := by rw [rdI_in (n := 809) rfl ha.1 ha.2, gI_sI, if_neg (by omega)]
  have r2 : rdI (sI σ 47 a p) 48 p = gI σ 48 p := by rw [rdI_in (n := 809) rfl hp.1 hp.2, gI_sI, if_neg (by omega)]
  have w2 : ∀ l, wrO (sI σ 47 a p) 49 (gI σ 48 a) l = sL (sI σ 47 a p) 49 (gI σ 48 a) (gL σ 49 (gI σ 48 a) ||| l) := fun l => wrO_in (n := 44) rfl hc.1 hc.2
  unfold mwr at hq
  simp only [x74_0, k98 (show lc 47 = 101 from rfl), w, x74_9, aft_l, aft_r, optL_s, optL_n, xgo_n, xgo_s, List.cons_append, List.nil_append, List.append_nil, true_and, and_true, Nat.sub_zero, Nat.zero_le, true_implies, false_implies, implies_true, not_true_eq_false, not_false_eq_true, true_or, or_true]
  refine ⟨⟨by omega, by omega⟩, ⟨by omega, by omega⟩, fun e => ?_, fun e => ?_⟩
  · rw [if_pos e] at hq
    rw [x74_38]; exact hq
  · rw [if_neg e] at hq
    simp only [x74_13, x74_25, x74_34, x74_38, k96 (show lc 48 = 101 from rfl), k99 (show lc 49 = 102 from rfl), r1, r2, w2, aft_l, aft_r, optL_s, optL_n, xgo_n, xgo_s, List.cons_append, List.nil_append, List.append_nil, true_and, and_true, Nat.sub_zero, Nat.zero_le, true_implies, false_implies, implies_true, not_true_eq_false, not_false_eq_true, true_or, or_true]
    exact ⟨⟨by omega, by omega⟩, ⟨by omega, by omega⟩, ⟨by omega, by omega⟩, hq⟩)
theorem tkl {c n u : Int} (hu : 0 ≤ u ∧ u + n ≤ 809) : ∀ (d : Nat) (i : Int) (σ1 : St), 0 ≤ i → i + d = n → gI σ1 46 7 = u → Q (.inl (some (vI u))) (sI (upI (upI σ1 47 (fun j => if u + i ≤ j ∧ j < u + n then 0 else gI σ1 47 j)) 48 (fun j => if u + i ≤ j ∧ j < u + n then c + (j - u) else gI σ1 48 j)) 46 7 (u + n)) → wp t 64 8 [some (vR 46), some (vI c), some (vI n), some (vI u), some (vI i)] [] σ1 Q
  | 0, i, σ1, i0, hd, h7, hq => by
    rw [x64_8]
    refine ⟨⟨⟨by omega, by omega⟩, ⟨by omega, by omega⟩⟩, fun h => by omega, fun _ => ?_⟩
    rw [x64_47, h7]
    have e : upI (upI σ1 47 (fun j => if u + i ≤ j ∧ j < u + n then 0 else gI σ1 47 j)) 48 (fun j => if u + i ≤ j ∧ j < u + n then c + (j - u) else gI σ1 48 j) = σ1 := st_ext (fun d j => by
      rw [gI_upI, gI_upI]
      by_cases q : d = 48
      · rw [if_pos q, if_neg (by omega), q]
      · rw [if_neg q]
        by_cases q2 : d = 47
        · rw [if_pos q2, if_neg (by omega), q2]
        · rw [if_neg q2]) (fun _ _ => rfl) (fun _ _ => rfl)
    rw [e] at hq; exact hq
  | d + 1, i, σ1, i0, hd, h7, hq => by
    have w1 : ∀ τ v, wrI τ 47 (u + i) v = sI τ 47 (u + i) v := fun τ v => wrI_in (n := 809) rfl (by omega) (by omega)
    have w2 : ∀ τ v, wrI τ 48 (u + i) v = sI τ 48 (u + i) v := fun τ v => wrI_in (n := 809) rfl (by omega) (by omega)
    rw [x64_8]
    refine ⟨⟨⟨by omega, by omega⟩, ⟨by omega, by omega⟩⟩, fun _ => ?_, fun h => by omega⟩
    simp only [x64_14, x64_26, x64_41, k98 (show lc 47 = 101 from rfl), k98 (show lc 48 = 101 from rfl), w1, w2, aft_l, aft_r, optL_s, optL_n, xgo_n, xgo_s, List.cons_append, List.nil_append, List.append_nil, true_and, and_true, Nat.sub_zero, Nat.zero_le, true_implies, false_implies, implies_true, not_true_eq_false, not_false_eq_true, true_or, or_true]
    refine ⟨⟨by omega, by omega⟩, ⟨by omega, by omega⟩, tkl hu d (i + 1) _ (by omega) (by omega) ?_ ?_⟩
    · rw [gI_sI, if_neg (by omega), gI_sI, if_neg (by omega)]; exact h7
    · have e47 : gI (sI (sI σ1 47 (u + i) 0) 48 (u + i) (c + i)) 47 = fun j => if j = u + i then 0 else gI σ1 47 j := by rw [gI_rne (by decide), gI_row]
      have e48 : gI (sI (sI σ1 47 (u + i) 0) 48 (u + i) (c + i)) 48 = fun j => if j = u + i then c + i else gI σ1 48 j := by rw [gI_row, gI_rne (by decide)]
      have e : upI (upI (sI (sI σ1 47 (u + i) 0) 48 (u + i) (c + i)) 47 (fun j => if u + (i + 1) ≤ j ∧ j < u + n then 0 else gI (sI (sI σ1 47 (u + i) 0) 48 (u + i) (c + i)) 47 j)) 48 (fun j => if u + (i + 1) ≤ j ∧ j < u + n then c + (j - u) else gI (sI (sI σ1 47 (u + i) 0) 48 (u + i) (c + i)) 48 j) = upI (upI σ1 47 (fun j => if u + i ≤ j ∧ j < u + n then 0 else gI σ1 47 j)) 48 (fun j => if u + i ≤ j ∧ j < u + n then c + (j - u) else gI σ1 48 j) := st_ext (fun d j => by
        rw [gI_upI, gI_upI, gI_upI, gI_upI]
        by_cases q : d = 48
        · rw [if_pos q, if_pos q, e48]
          show (if u + (i + 1) ≤ j ∧ j < u + n then c + (j - u) else (if j = u + i then c + i else gI σ1 48 j)) = (if u + i ≤ j ∧ j < u + n then c + (j - u) else gI σ1 48 j)
          by_cases q1 : u + (i + 1) ≤ j ∧ j < u + n
          · rw [if_pos q1, if_pos (by omega)]
          · rw [if_neg q1]
            by_cases q2 : j = u + i
            · rw [if_pos q2, if_pos (by omega)]; omega
            · rw [if_neg q2, if_neg (by omega)]
        · rw [if_neg q, if_neg q]
          by_cases q3 : d = 47
          · rw [if_pos q3, if_pos q3, e47]
            show (if u + (i + 1) ≤ j ∧ j < u + n then 0 else (if j = u + i then 0 else gI σ1 47 j)) = (if u + i ≤ j ∧ j < u + n then 0 else gI σ1 47 j)
            by_cases q1 : u + (i + 1) ≤ j ∧ j < u + n
            · rw [if_pos q1, if_pos (by omega)]
            · rw [if_neg q1]
              by_cases q2 : j = u + i
              · rw [if_pos q2, if_pos (by omega)]
              · rw [if_neg q2, if_neg (by omega)]
          · rw [if_neg q3, if_neg q3, gI_sI, if_neg (fun k => q k.1), gI_sI, if_neg (fun k => q3 k.1)]) (fun _ _ => rfl) (fun _ _ => rfl)
      rw [e]; exact hq
/-- Machine.takeCells -/
theorem e64 {c n : Int} (hn : 0 ≤ n) (hu : 0 ≤ gI σ 46 7 ∧ gI σ 46 7 + n ≤ 809) : Call t 64 [vR 46, vI c, vI n] σ Q ↔ Q (.inl (some (vI (gI σ 46 7)))) (mtk c n σ) := Call_iff (fun Q hq => by
  rw [x64_0]
  refine tkl hu n.toNat 0 σ (by omega) (by omega) rfl ?_
  simp only [Int.add_zero]
  exact hq)
/-- Machine.open -/
theorem e65 (hz : okZ P) (hN : RN 5 σ P) {f : Int} (f0 : 0 ≤ f) (f1 : f ≤ 3) (h0 : 0 ≤ gI σ 46 6) (h1 : gI σ 46 6 < 6) (hu : 0 ≤ gI σ 46 7 ∧ gI σ 46 7 + 4 ≤ 809) : Call t 65 [vR 46, vR 5, vI f] σ Q ↔ Q (.inl none) (mop P f σ) := Call_iff (fun Q hq => by
  have hs := stt_rng hz f0 f1
  have w50 : ∀ v, wrI σ 50 (gI σ 46 6) v = sI σ 50 (gI σ 46 6) v := fun v => wrI_in (n := 6) rfl h0 h1
  have w51 : ∀ τ v, wrI τ 51 (gI σ 46 6) v = sI τ 51 (gI σ 46 6) v := fun τ v => wrI_in (n := 6) rfl h0 h1
  have w52 : ∀ τ v, wrI τ 52 (gI σ 46 6) v = sI τ 52 (gI σ 46 6) v := fun τ v => wrI_in (n := 6) rfl h0 h1
  have hN1 : RN 5 (sI σ 50 (gI σ 46 6) f) P := RN_fr (M := fun c _ => c = 50) hN (fr_sI fr_refl rfl) (fun j => by omega) (fun j => by omega) (fun j => by omega) (fun j => by omega) (by omega)
  have g6 : ∀ v, gI (sI σ 50 (gI σ 46 6) v) 46 6 = gI σ 46 6 := fun v => by rw [gI_sI, if_neg (by omega)]
  have g6' : ∀ v w, gI (sI (sI σ 50 (gI σ 46 6) v) 51 (gI σ 46 6) w) 46 6 = gI σ 46 6 := fun v w => by rw [gI_sI, if_neg (by omega), gI_sI, if_neg (by omega)]
  have g7' : ∀ v w, gI (sI (sI σ 50 (gI σ 46 6) v) 51 (gI σ 46 6) w) 46 7 = gI σ 46 7 := fun v w => by rw [gI_sI, if_neg (by omega), gI_sI, if_neg (by omega)]
  have e64' := fun Q => e64 (t := 0) (Q := Q) (σ := sI (sI σ 50 (gI σ 46 6) f) 51 (gI σ 46 6) (stt P f)) (c := 4 + 4 * f) (n := 4) (by omega) (by rw [g7']; exact hu)
  rw [g7'] at e64'
  have g8 : gI (sI (mtk (4 + 4 * f) 4 (sI (sI σ 50 (gI σ 46 6) f) 51 (gI σ 46 6) (stt P f))) 52 (gI σ 46 6) (gI σ 46 7)) 46 6 = gI σ 46 6 := by
    rw [gI_sI, if_neg (by omega), mtk_46, if_neg (by omega), g6']
  simp only [x65_0, k98 (show lc 50 = 101 from rfl), w50, x65_12, g6, e88 hN1 f0 (show f ≤ 4 by omega), x65_25, k98 (show lc 51 = 101 from rfl), w51, x65_28, g6', k168, x65_41, e64', x65_45, k98 (show lc 52 = 101 from rfl), w52, x65_48, g8, aft_l, aft_r, optL_s, optL_n, xgo_n, xgo_s, List.cons_append, List.nil_append, List.append_nil, true_and, and_true, Nat.sub_zero, Nat.zero_le, true_implies, false_implies, implies_true, not_true_eq_false, not_false_eq_true, true_or, or_true]
  exact ⟨⟨by omega, by omega⟩, ⟨by omega, by omega⟩, ⟨by omega, by omega⟩, hq⟩)
theorem WU (h : WFM P σ) : (5 ≤ gI σ 46 7 ∧ gI σ 46 7 ≤ 809) ∧ (0 ≤ gI σ 46 6 ∧ gI σ 46 6 ≤ 6) := by
  have h1 := h.1
  have h2 := h.2.1
  have h3 := h.2.2.1
  omega
/-- a write in a state that is kept -/
theorem eWr (h : WFM P σ) {a p : Int} (ha : 1 ≤ a ∧ a < gI σ 46 7) (hp : 0 ≤ p ∧ p < gI σ 46 7) : Call t 74 [vR 46, vI a, vI p] σ Q ↔ Q (.inl none) (mwr a p σ) := by
  have hu := WU h
  exact e74 ⟨by omega, by omega⟩ ⟨by omega, by omega⟩ (h.2.2.2.2.1 a ha.1 ha.2).2
theorem eRd (h : WFM P σ) {a : Int} (ha : 1 ≤ a ∧ a < gI σ 46 7) : Call t 73 [vR 46, vI a] σ Q ↔ Q (.inl (some (vI (gI σ 47 a)))) σ := by
  have hu := WU h
  exact e73 (by omega) (by omega)
/-- Machine.close -/
theorem e66 (hP : okP P) (hN : RN 5 σ P) (h : WFM P σ) (hD : 0 < gI σ 46 6) : Call t 66 [vR 46, vR 5] σ Q ↔ Q (.inl none) (mcl P σ) := Call_iff (fun Q hq => by
  have hu := WU h
  have hs := h.2.2.2.2.2.2.1 (gI σ 46 6 - 1) (by omega) (by omega)
  have r50 : rdI σ 50 (gI σ 46 6 - 1) = gI σ 50 (gI σ 46 6 - 1) := rdI_in (n := 6) rfl (by omega) (by omega)
  have ha := madr_rng h hD (v := 4 + 4 * gI σ 50 (gI σ 46 6 - 1) + 1) (by omega)
  have g6 : gI (sI σ 46 6 (gI σ 46 6 - 1)) 46 6 = gI σ 46 6 - 1 := by rw [gI_sI, if_pos ⟨rfl, rfl⟩]
  unfold mcl at hq
  simp only [x66_0, k96 (show lc 50 = 101 from rfl), r50, x66_15, k169, x66_18, e72 (σ := σ) (v := 4 + 4 * gI σ 50 (gI σ 46 6 - 1) + 1) (by omega) (by omega) hD hu.2.2, x66_21, eRd h ha, x66_24, g6, aft_l, aft_r, optL_s, optL_n, xgo_n, xgo_s, List.cons_append, List.nil_append, List.append_nil, true_and, and_true, Nat.sub_zero, Nat.zero_le, true_implies, false_implies, implies_true, not_true_eq_false, not_false_eq_true, true_or, or_true]
  refine ⟨⟨by omega, by omega⟩, ⟨by omega, by omega⟩, fun q => ?_, fun q => ?_⟩
  · rw [if_pos q] at hq
    have w1 : WFM P (sI σ 46 6 (gI σ 46 6 - 1)) := WF_pop h hD
    have hN1 : RN 5 (sI σ 46 6 (gI σ 46 6 - 1)) P := RN_fr (M := fun c _ => c = 46) hN (fr_sI fr_refl rfl) (fun j => by omega) (fun j => by omega) (fun j => by omega) (fun j => by omega) (by omega)
    have r51 : rdI (sI σ 46 6 (gI σ 46 6 - 1)) 51 (gI σ 46 6 - 1 - 1) = gI σ 51 (gI σ 46 6 - 1 - 1) := by rw [rdI_in (n := 6) rfl (by omega) (by omega), gI_sI, if_neg (by omega)]
    have hs2 := h.2.2.2.2.2.2.1 (gI σ 46 6 - 1 - 1) (by omega) (by omega)
    have hs3 := h.2.2.2.2.2.2.2 (gI σ 46 6 - 1 - 1) (by omega) (by omega)
    have hst := stt_rng hP.1 hs2.1.1 hs2.1.2
    have hss := stt_succ P hs2.1.1 hs2.1.2
    have ht := tot_rng hP.1
    have n0 : 0 ≤ gI σ 51 (gI σ 46 6 - 1 - 1) - 1 := by omega
    have n1 : gI σ 51 (gI σ 46 6 - 1 - 1) - 1 < tot P := by omega
    have hv := (hP.2.1 _ n0 n1).2.1.1
    have ha2 := madr_rng w1 (v := vv P (gI σ 51 (gI σ 46 6 - 1 - 1) - 1)) (by rw [g6]; exact q) hv.1
    have hm := (h.2.2.2.2.1 _ ha.1 ha.2).1
    simp only [x66_42, g6, k96 (show lc 51 = 101 from rfl), r51, x66_55, e91 hP hN1 n0 n1, x66_65, e72 (σ := sI σ 46 6 (gI σ 46 6 - 1)) (v := vv P (gI σ 51 (gI σ 46 6 - 1 - 1) - 1)) hv.1 hv.2 (by rw [g6]; exact q) (by rw [g6]; omega), x66_68, eWr w1 ha2 hm, x66_72, aft_l, aft_r, optL_s, optL_n, xgo_n, xgo_s, List.cons_append, List.nil_append, List.append_nil, true_and, and_true, Nat.sub_zero, Nat.zero_le, true_implies, false_implies, implies_true, not_true_eq_false, not_false_eq_true, true_or, or_true]
    exact ⟨⟨by omega, by omega⟩, hq⟩
  · rw [if_neg q] at hq
    rw [x66_72]; exact hq)
/-- Machine.execute -/
theorem e67 (hP : okP P) (hN : RN 5 σ P) (h : WFM P σ) (hg : mgo σ) {n : Int} (n0 : 0 ≤ n) (n1 : n < tot P) (hn : stt P (gI σ 50 (gI σ 46 6 - 1)) < gI σ 51 (gI σ 46 6 - 1)) : Call t 67 [vR 46, vR 5, vI n] σ Q ↔ Q (.inl none) (mex P n σ) := Call_iff (fun Q hq => by
  obtain ⟨hk, ⟨hv, hw, hnn⟩, h5⟩ := hP.2.1 n n0 n1
  have hD := hg.1
  have hX := hg.2
  have hu := WU h
  have h4 := h.2.2.2.1
  have h3 := h.2.2.1
  have h2 := h.2.1
  have ht := tot_rng hP.1
  have al := madr_rng h (v := vv P n) hD hv.1
  have ar := madr_rng h (v := ww P n) hD hw.1
  have w1 := W_X h hX
  have hN1 : RN 5 (sI σ 46 8 (gI σ 46 8 + 1)) P := RN_fr (M := fun c _ => c = 46) hN (fr_sI fr_refl rfl) (fun j => by omega) (fun j => by omega) (fun j => by omega) (fun j => by omega) (by omega)
  have g8 : gI (sI σ 46 8 (gI σ 46 8 + 1)) 46 8 = gI σ 46 8 + 1 := by rw [gI_sI, if_pos ⟨rfl, rfl⟩]
  unfold mex at hq
  simp only [x67_0, e91 hP hN n0 n1, x67_6, e72 (σ := σ) hv.1 hv.2 hD hu.2.2, x67_9, e92 hP hN n0 n1, x67_16, e72 (σ := σ) hw.1 hw.2 hD hu.2.2, x67_19, e90 hP hN1 n0 n1, x67_36, aft_l, aft_r, optL_s, optL_n, xgo_n, xgo_s, List.cons_append, List.nil_append, List.append_nil, true_and, and_true, Nat.sub_zero, Nat.zero_le, true_implies, false_implies, implies_true, not_true_eq_false, not_false_eq_true, true_or, or_true]
  generalize hl : madr (vv P n) σ = l at al hq ⊢
  generalize hr : madr (ww P n) σ = r at ar hq ⊢
  have u1 : gI (sI σ 46 8 (gI σ 46 8 + 1)) 46 7 = gI σ 46 7 := by rw [gI_sI, if_neg (by omega)]
  have d1 : gI (sI σ 46 8 (gI σ 46 8 + 1)) 46 6 = gI σ 46 6 := by rw [gI_sI, if_neg (by omega)]
  have o1 : gI (sI σ 46 8 (gI σ 46 8 + 1)) 46 10 = gI σ 46 10 := by rw [gI_sI, if_neg (by omega)]
  have s50 : gI (sI σ 46 8 (gI σ 46 8 + 1)) 50 = gI σ 50 := gI_rne (by decide)
  have s51 : gI (sI σ 46 8 (gI σ 46 8 + 1)) 51 = gI σ 51 := gI_rne (by decide)
  generalize hs1 : sI σ 46 8 (gI σ 46 8 + 1) = s1 at *
  rw [← u1] at al ar
  have mr := (w1.2.2.2.2.1 r ar.1 ar.2).1
  have ml := (w1.2.2.2.2.1 l al.1 al.2).1
  have cr := (w1.2.2.2.2.1 r ar.1 ar.2).2
  unfold mex1 at hq
  rcases (show kd P n = 0 ∨ kd P n = 1 ∨ kd P n = 2 ∨ kd P n = 3 ∨ kd P n = 4 ∨ kd P n = 5 ∨ kd P n = 6 by omega) with e | e | e | e | e | e | e
  · refine ⟨⟨by omega, by omega⟩, fun _ => ?_, fun h => by omega⟩
    rw [if_pos e] at hq
    rw [e]
    show wp t 67 76 _ _ _ _
    simp only [x67_76, eWr w1 al (show 0 ≤ r ∧ r < gI s1 46 7 by omega), x67_83, x67_199, aft_l, aft_r, optL_s, optL_n, xgo_n, xgo_s, List.cons_append, List.nil_append, List.append_nil, true_and, and_true, Nat.sub_zero, Nat.zero_le, true_implies, false_implies, implies_true, not_true_eq_false, not_false_eq_true, true_or, or_true]
    exact hq
  · refine ⟨⟨by omega, by omega⟩, fun _ => ?_, fun h => by omega⟩
    rw [if_neg (by omega), if_pos e] at hq
    rw [e]
    show wp t 67 86 _ _ _ _
    simp only [x67_86, eRd w1 ar, x67_94, eWr w1 al mr, x67_97, x67_199, aft_l, aft_r, optL_s, optL_n, xgo_n, xgo_s, List.cons_append, List.nil_append, List.append_nil, true_and, and_true, Nat.sub_zero, Nat.zero_le, true_implies, false_implies, implies_true, not_true_eq_false, not_false_eq_true, true_or, or_true]
    exact hq
  · refine ⟨⟨by omega, by omega⟩, fun _ => ?_, fun h => by omega⟩
    rw [if_neg (by omega), if_neg (by omega), if_pos e] at hq
    rw [e]
    show wp t 67 100 _ _ _ _
    simp only [x67_100, eRd w1 ar, x67_108, x68_0, aft_l, aft_r, optL_s, optL_n, xgo_n, xgo_s, List.cons_append, List.nil_append, List.append_nil, true_and, and_true, Nat.sub_zero, Nat.zero_le, true_implies, false_implies, implies_true, not_true_eq_false, not_false_eq_true, true_or, or_true]
    refine ⟨⟨by omega, by omega⟩, fun q => ?_, fun q => ?_⟩
    · rw [if_pos q] at hq
      simp only [x68_4, x68_27, x67_111, x67_199, aft_l, aft_r, optL_s, optL_n, xgo_n, xgo_s, List.cons_append, List.nil_append, List.append_nil, true_and, and_true, Nat.sub_zero, Nat.zero_le, true_implies, false_implies, implies_true, not_true_eq_false, not_false_eq_true, true_or, or_true]
      exact hq
    · rw [if_neg q] at hq
      have mm := (w1.2.2.2.2.1 (gI s1 47 r) (by omega) mr.2).1
      simp only [x68_17, eRd w1 (show 1 ≤ gI s1 47 r ∧ gI s1 47 r < gI s1 46 7 by omega), x68_24, eWr w1 al mm, x68_27, x67_111, x67_199, aft_l, aft_r, optL_s, optL_n, xgo_n, xgo_s, List.cons_append, List.nil_append, List.append_nil, true_and, and_true, Nat.sub_zero, Nat.zero_le, true_implies, false_implies, implies_true, not_true_eq_false, not_false_eq_true, true_or, or_true]
      exact hq
  · refine ⟨⟨by omega, by omega⟩, fun _ => ?_, fun h => by omega⟩
    rw [if_neg (by omega), if_neg (by omega), if_neg (by omega), if_pos e] at hq
    rw [e]
    show wp t 67 114 _ _ _ _
    simp only [x67_114, eRd w1 al, x67_120, eRd w1 ar, x67_126, x69_0, aft_l, aft_r, optL_s, optL_n, xgo_n, xgo_s, List.cons_append, List.nil_append, List.append_nil, true_and, and_true, Nat.sub_zero, Nat.zero_le, true_implies, false_implies, implies_true, not_true_eq_false, not_false_eq_true, true_or, or_true]
    refine ⟨⟨by omega, by omega⟩, fun q => ?_, fun q => ?_⟩
    · rw [if_pos q] at hq
      simp only [x69_4, x69_23, x67_129, x67_199, aft_l, aft_r, optL_s, optL_n, xgo_n, xgo_s, List.cons_append, List.nil_append, List.append_nil, true_and, and_true, Nat.sub_zero, Nat.zero_le, true_implies, false_implies, implies_true, not_true_eq_false, not_false_eq_true, true_or, or_true]
      exact hq
    · rw [if_neg q] at hq
      simp only [x69_17, eWr w1 (show 1 ≤ gI s1 47 l ∧ gI s1 47 l < gI s1 46 7 by omega) mr, x69_23, x67_129, x67_199, aft_l, aft_r, optL_s, optL_n, xgo_n, xgo_s, List.cons_append, List.nil_append, List.append_nil, true_and, and_true, Nat.sub_zero, Nat.zero_le, true_implies, false_implies, implies_true, not_true_eq_false, not_false_eq_true, true_or, or_true]
      exact hq
  · refine ⟨⟨by omega, by omega⟩, fun _ => ?_, fun h => by omega⟩
    rw [if_neg (by omega), if_neg (by omega), if_neg (by omega), if_neg (by omega), if_pos e] at hq
    have hsn := sn_lt hP n0 n1 e
    have w2 : WFM P (sI s1 46 10 (gI s1 46 10 + 1)) := WF_ob (ob' := gI s1 46 10 + 1) w1 (by show 0 ≤ gI s1 46 10 + 1 ∧ gI s1 46 10 + 1 ≤ gI s1 46 8; omega)
    have hN2 : RN 5 (sI s1 46 10 (gI s1 46 10 + 1)) P := RN_fr (M := fun c _ => c = 46) hN1 (fr_sI fr_refl rfl) (fun j => by omega) (fun j => by omega) (fun j => by omega) (fun j => by omega) (by omega)
    have u2 : gI (sI s1 46 10 (gI s1 46 10 + 1)) 46 7 = gI s1 46 7 := by rw [gI_sI, if_neg (by omega)]
    have x2 : gI (sI s1 46 10 (gI s1 46 10 + 1)) 46 8 = gI s1 46 8 := by rw [gI_sI, if_neg (by omega)]
    have w3 := W_tk (k := 3) (c0 := 20 + 3 * sn P n + 0) w2 (by rw [u2, x2]; omega) (by omega) (Or.inr ⟨rfl, by omega, by omega⟩)
    have e64' := fun Q => e64 (t := 0) (Q := Q) (σ := sI s1 46 10 (gI s1 46 10 + 1)) (c := 20 + 3 * sn P n + 0) (n := 3) (by omega) (by rw [u2]; omega)
    rw [u2] at e64'
    have u3 : gI (mtk (20 + 3 * sn P n + 0) 3 (sI s1 46 10 (gI s1 46 10 + 1))) 46 7 = gI s1 46 7 + 3 := by rw [mtk_U, u2]
    rw [e]
    show wp t 67 132 _ _ _ _
    simp only [x67_132, e95 hP.1 hN2 n0 n1, x67_150, k171, x67_154, e64', x67_158, eWr w3 (a := l) (p := gI s1 46 7) (by rw [u3]; omega) (by rw [u3]; omega), x67_161, x67_199, aft_l, aft_r, optL_s, optL_n, xgo_n, xgo_s, List.cons_append, List.nil_append, List.append_nil, true_and, and_true, Nat.sub_zero, Nat.zero_le, true_implies, false_implies, implies_true, not_true_eq_false, not_false_eq_true, true_or, or_true]
    exact hq
  · refine ⟨⟨by omega, by omega⟩, fun _ => ?_, fun h => by omega⟩
    rw [if_neg (by omega), if_neg (by omega), if_neg (by omega), if_neg (by omega), if_neg (by omega), if_pos e] at hq
    rw [e]
    show wp t 67 164 _ _ _ _
    simp only [x67_164, eRd w1 ar, x67_172, e93 hP hN1 n0 n1, x67_177, x70_0, aft_l, aft_r, optL_s, optL_n, xgo_n, xgo_s, List.cons_append, List.nil_append, List.append_nil, true_and, and_true, Nat.sub_zero, Nat.zero_le, true_implies, false_implies, implies_true, not_true_eq_false, not_false_eq_true, true_or, or_true]
    refine ⟨⟨by omega, by omega⟩, fun q => ?_, fun q => ?_⟩
    · rw [if_pos (Or.inl q)] at hq
      simp only [x70_8, eWr w1 al mr, x70_14, x67_180, x67_199, aft_l, aft_r, optL_s, optL_n, xgo_n, xgo_s, List.cons_append, List.nil_append, List.append_nil, true_and, and_true, Nat.sub_zero, Nat.zero_le, true_implies, false_implies, implies_true, not_true_eq_false, not_false_eq_true, true_or, or_true]
      exact hq
    · rw [x70_4]
      refine ⟨⟨by omega, by omega⟩, fun q2 => ?_, fun q2 => ?_⟩
      · rw [if_pos (Or.inr q2)] at hq
        simp only [x70_8, eWr w1 al mr, x70_14, x67_180, x67_199, aft_l, aft_r, optL_s, optL_n, xgo_n, xgo_s, List.cons_append, List.nil_append, List.append_nil, true_and, and_true, Nat.sub_zero, Nat.zero_le, true_implies, false_implies, implies_true, not_true_eq_false, not_false_eq_true, true_or, or_true]
        exact hq
      · rw [if_neg (fun k => k.elim q q2)] at hq
        have cm := (w1.2.2.2.2.1 (gI s1 47 r) (by omega) mr.2).2
        have r48 : rdI s1 48 (gI s1 47 r) = gI s1 48 (gI s1 47 r) := rdI_in (n := 809) rfl (by omega) (by omega)
        simp only [x70_15, k96 (show lc 48 = 101 from rfl), r48, x70_23, aft_l, aft_r, optL_s, optL_n, xgo_n, xgo_s, List.cons_append, List.nil_append, List.append_nil, true_and, and_true, Nat.sub_zero, Nat.zero_le, true_implies, false_implies, implies_true, not_true_eq_false, not_false_eq_true, true_or, or_true]
        refine ⟨⟨by omega, by omega⟩, ⟨by omega, by omega⟩, fun q3 => ?_, fun q3 => ?_⟩
        · rw [if_pos (Or.inl q3)] at hq
          simp only [x70_43, x70_64, x67_180, x67_199, aft_l, aft_r, optL_s, optL_n, xgo_n, xgo_s, List.cons_append, List.nil_append, List.append_nil, true_and, and_true, Nat.sub_zero, Nat.zero_le, true_implies, false_implies, implies_true, not_true_eq_false, not_false_eq_true, true_or, or_true]
          exact hq
        · rw [x70_33]
          refine ⟨⟨by omega, by omega⟩, ⟨by omega, by omega⟩, fun q4 => ?_, fun q4 => ?_⟩
          · rw [if_neg (fun k => k.elim q3 (fun k => k q4))] at hq
            have := (w1.2.2.2.2.2.1 (gI s1 47 r) (nn P n) (by omega) mr.2 (by omega) hnn.1 (by omega)).1
            simp only [x70_56, eWr w1 al (show 0 ≤ gI s1 47 r + nn P n ∧ gI s1 47 r + nn P n < gI s1 46 7 by omega), x70_64, x67_180, x67_199, aft_l, aft_r, optL_s, optL_n, xgo_n, xgo_s, List.cons_append, List.nil_append, List.append_nil, true_and, and_true, Nat.sub_zero, Nat.zero_le, true_implies, false_implies, implies_true, not_true_eq_false, not_false_eq_true, true_or, or_true]
            exact hq
          · rw [if_pos (Or.inr q4)] at hq
            simp only [x70_43, x70_64, x67_180, x67_199, aft_l, aft_r, optL_s, optL_n, xgo_n, xgo_s, List.cons_append, List.nil_append, List.append_nil, true_and, and_true, Nat.sub_zero, Nat.zero_le, true_implies, false_implies, implies_true, not_true_eq_false, not_false_eq_true, true_or, or_true]
            exact hq
  · refine ⟨⟨by omega, by omega⟩, fun h => by omega, fun _ => ?_⟩
    rw [if_neg (by omega), if_neg (by omega), if_neg (by omega), if_neg (by omega), if_neg (by omega), if_neg (by omega)] at hq
    simp only [x67_183, e93 hP hN1 n0 n1, x67_190, eRd w1 ar, x67_196, x71_0, aft_l, aft_r, optL_s, optL_n, xgo_n, xgo_s, List.cons_append, List.nil_append, List.append_nil, true_and, and_true, Nat.sub_zero, Nat.zero_le, true_implies, false_implies, implies_true, not_true_eq_false, not_false_eq_true, true_or, or_true]
    refine ⟨⟨by omega, by omega⟩, fun q => ?_, fun q => ?_⟩
    · rw [x71_9]
      refine ⟨⟨by omega, by omega⟩, fun q2 => ?_, fun q2 => ?_⟩
      · rw [if_pos ⟨q, q2⟩] at hq
        have w2 := W_op hP.1 (g := nn P n) w1 q hnn (fun _ => by rw [s50, s51, d1]; exact hn) (by omega)
        have dm : gI (mop P (nn P n) s1) 46 6 = gI s1 46 6 + 1 := by rw [mop_46, if_pos rfl]
        have um : gI (mop P (nn P n) s1) 46 7 = gI s1 46 7 + 4 := by rw [mop_46, if_neg (by decide), if_pos rfl]
        have am := madr_rng w2 (v := 4 + 4 * nn P n) (by rw [dm]; omega) (by omega)
        simp only [x71_19, e65 hP.1 hN1 hnn.1 hnn.2 (show 0 ≤ gI s1 46 6 by omega) q (show 0 ≤ gI s1 46 7 ∧ gI s1 46 7 + 4 ≤ 809 by omega), x71_25, k168, x71_31, e72 (σ := mop P (nn P n) s1) (v := 4 + 4 * nn P n) (by omega) (by omega) (by rw [dm]; omega) (by rw [dm]; omega), x71_34, eWr w2 am (p := gI s1 47 r) (by rw [um]; omega), x71_38, x67_199, aft_l, aft_r, optL_s, optL_n, xgo_n, xgo_s, List.cons_append, List.nil_append, List.append_nil, true_and, and_true, Nat.sub_zero, Nat.zero_le, true_implies, false_implies, implies_true, not_true_eq_false, not_false_eq_true, true_or, or_true]
        exact hq
      · rw [if_neg (fun k => q2 k.2)] at hq
        simp only [x71_38, x67_199, aft_l, aft_r, optL_s, optL_n, xgo_n, xgo_s, List.cons_append, List.nil_append, List.append_nil, true_and, and_true, Nat.sub_zero, Nat.zero_le, true_implies, false_implies, implies_true, not_true_eq_false, not_false_eq_true, true_or, or_true]
        exact hq
    · rw [if_neg (fun k => q k.1)] at hq
      simp only [x71_38, x67_199, aft_l, aft_r, optL_s, optL_n, xgo_n, xgo_s, List.cons_append, List.nil_append, List.append_nil, true_and, and_true, Nat.sub_zero, Nat.zero_le, true_implies, false_implies, implies_true, not_true_eq_false, not_false_eq_true, true_or, or_true]
      exact hq)
end CM

