abbrev HRow : Type := Nat × (Nat × (Nat × (Nat × (Nat × (Nat × (Nat × (Nat × (Nat × Nat))))))))
def hxT : List HRow := [(178, 0, 6, 1, 8, 2, 7, 13, 398, 406), (178, 0, 6, 2, 13, 2, 12, 19, 399, 481), (179, 0, 6, 3, 8, 2, 7, 26, 507, 541), (179, 0, 6, 1, 13, 2, 12, 13, 398, 406), (179, 0, 6, 2, 18, 2, 17, 19, 399, 481), (181, 0, 6, 3, 8, 2, 7, 26, 507, 541), (182, 0, 6, 3, 8, 2, 7, 26, 507, 541), (184, 0, 6, 1, 8, 2, 7, 13, 398, 406), (185, 0, 6, 3, 8, 2, 7, 26, 507, 541), (186, 0, 5, 3, 7, 2, 6, 26, 507, 541), (187, 0, 6, 3, 8, 3, 7, 26, 507, 541), (189, 0, 14, 3, 16, 3, 15, 26, 507, 541), (190, 0, 5, 3, 7, 2, 6, 26, 507, 541), (192, 0, 7, 3, 9, 3, 8, 26, 507, 541), (192, 0, 7, 4, 14, 3, 13, 87, 1435, 1448), (193, 0, 7, 3, 9, 3, 8, 26, 507, 541), (193, 0, 7, 4, 14, 3, 13, 87, 1435, 1448), (195, 0, 5, 3, 7, 2, 6, 26, 507, 541), (196, 0, 14, 3, 16, 3, 15, 26, 507, 541), (198, 0, 5, 3, 7, 2, 6, 26, 507, 541), (199, 0, 13, 3, 15, 2, 14, 26, 507, 541), (200, 0, 6, 3, 8, 2, 7, 26, 507, 541), (202, 0, 5, 3, 7, 2, 6, 26, 507, 541), (203, 0, 6, 3, 8, 3, 7, 26, 507, 541), (206, 0, 7, 5, 9, 1, 8, 142, 1382, 1394), (208, 0, 5, 2, 7, 1, 6, 19, 399, 481)]
abbrev hPr (e : HRow) : Nat × (Nat × (Nat × (Nat × (Nat × Nat)))) := (e.1, e.2.1, e.2.2.1, e.2.2.2.1, e.2.2.2.2.1, e.2.2.2.2.2.1)
theorem hx_1 : hdT = hxT.map hPr := by decide +kernel
def HX (mi : Nat) : List HRow := hxT.filter (fun e => Nat.beq e.1 mi)
theorem hx_2 : (List.range 215).all (fun mi => decide (mH mi = (HX mi).map (fun e => (e.2.1, e.2.2.1, e.2.2.2.2.2.2.1, e.2.2.2.2.2.2.2.1)))) = true := by decide +kernel
def okHX (e : HRow) : Bool := decide (lw_tbl[e.2.2.2.2.2.2.2.2.1]? = some (.classLink (cN 12) e.2.2.2.2.2.2.2.1 (xN e.2.2.2.1))) && (decide (lw_tbl[e.2.2.2.2.2.2.2.2.2]? = some (.castable (xN e.2.2.2.1) (xN e.2.2.2.1))) && (decide (mC e.1 = 12) && (decide (e.2.2.2.2.2.2.2.1 ≠ 0) && (ltN e.2.2.2.2.2.1 (mL e.1) && (ltN e.2.2.2.1 6 && (ltN 0 e.2.2.2.1 && ((decide (decode (mB e.1) e.2.2.2.2.2.2.1 = .ok (.astore e.2.2.2.2.2.1, 2)) && eqN e.2.2.2.2.1 (e.2.2.2.2.2.2.1 + 2)) || (match e.2.2.2.2.2.1 with | 2 => decide (decode (mB e.1) e.2.2.2.2.2.2.1 = .ok (.astore_n 2, 1)) | 3 => decide (decode (mB e.1) e.2.2.2.2.2.2.1 = .ok (.astore_n 3, 1)) | 1 => decide (decode (mB e.1) e.2.2.2.2.2.2.1 = .ok (.astore_n 1, 1)) | _ => false) && eqN e.2.2.2.2.1 (e.2.2.2.2.2.2.1 + 1))))))))
theorem hx_3 : hxT.all okHX = true := by decide +kernel
def okTH (e : Nat × (Nat × (Nat × (Nat × (Nat × (Nat × (Nat × (Nat × String)))))))) : Bool := decide (decode (mB e.1) (e.2.1 + 3) = .ok (.dup, 1)) && ((if e.2.2.2.2.2.2.1 = 0 then decide (decode (mB e.1) (e.2.1 + 4) = .ok (.ldc e.2.2.2.2.1, 2)) && (decide (decode (mB e.1) (e.2.1 + 6) = .ok (.invokespecial e.2.2.2.2.2.1, 3)) && decide (decode (mB e.1) (e.2.1 + 9) = .ok (.athrow, 1))) else decide (decode (mB e.1) (e.2.1 + 4) = .ok (.ldc_w e.2.2.2.2.1, 3)) && (decide (decode (mB e.1) (e.2.1 + 7) = .ok (.invokespecial e.2.2.2.2.2.1, 3)) && decide (decode (mB e.1) (e.2.1 + 10) = .ok (.athrow, 1)))) && (decide (mC e.1 = 8) && ((mH e.1).isEmpty && (decide (7 ≤ mFr e.1) && decide (90 ≤ mLo e.1)))))
theorem th_ok : THS.all okTH = true := by decide +kernel
theorem th_cb : THS.all (fun e => (eqN e.2.2.1 1 && (eqN e.2.2.2.1 72 && eqN e.2.2.2.2.2.1 76)) || (eqN e.2.2.1 2 && (eqN e.2.2.2.1 83 && eqN e.2.2.2.2.2.1 87)) || (eqN e.2.2.1 5 && (eqN e.2.2.2.1 268 && eqN e.2.2.2.2.2.1 272)) || (eqN e.2.2.1 3 && (eqN e.2.2.2.1 167 && eqN e.2.2.2.2.2.1 171)) || (eqN e.2.2.1 4 && (eqN e.2.2.2.1 317 && eqN e.2.2.2.2.2.1 321))) = true := by decide +kernel
/-- all that a throw wants of the words, by the row's kind -/
def ThW (own : String) (ik ic : Nat) (X : String) : Prop := ∃ (ix : Nat) (rx : ByteArray), decode rx 0 = .ok (.aload_n 0, 1) ∧ decode rx 1 = .ok (.aload_n 1, 1) ∧ decode rx 2 = .ok (.invokespecial ix, 3) ∧ decode rx 5 = .ok (.return_, 1) ∧ Bundle.fit X = true ∧
  ∀ w ∈ Cond.classLink own ik X :: Cond.initialized X :: (px_at own ic X ix rx "java/lang/RuntimeException" ["java/lang/Exception"]).filter vx_no, w ∈ TS
theorem thw_0 : ThW "PointerAnalyzer" 72 76 "java/lang/IllegalArgumentException" := by
  refine ⟨7, prog_24_method_2_code, ax_0.1, ax_0.2.1, ax_0.2.2.1, ax_0.2.2.2, by decide +kernel, fun w hw => ?_⟩
  have h1 := List.all_eq_true.mp ao_0 w hw
  rcases List.mem_cons.mp hw with rfl | hw
  · exact ts_mem ai_0.1 h1
  · rcases List.mem_cons.mp hw with rfl | hw
    · exact ts_mem ai_0.2 h1
    · have hw : w ∈ pa_0 := hw
      rw [at_0] at hw
      obtain ⟨i, -, hi⟩ := List.mem_filterMap.mp hw
      exact ts_mem hi h1
theorem thw_1 : ThW "PointerAnalyzer" 83 87 "java/lang/IllegalStateException" := by
  refine ⟨7, prog_25_method_2_code, ax_1.1, ax_1.2.1, ax_1.2.2.1, ax_1.2.2.2, by decide +kernel, fun w hw => ?_⟩
  have h1 := List.all_eq_true.mp ao_1 w hw
  rcases List.mem_cons.mp hw with rfl | hw
  · exact ts_mem ai_1.1 h1
  · rcases List.mem_cons.mp hw with rfl | hw
    · exact ts_mem ai_1.2 h1
    · have hw : w ∈ pa_1 := hw
      rw [at_1] at hw
      obtain ⟨i, -, hi⟩ := List.mem_filterMap.mp hw
      exact ts_mem hi h1
theorem thw_2 : ThW "PointerAnalyzer" 268 272 "java/lang/ArithmeticException" := by
  refine ⟨7, prog_17_method_2_code, ax_2.1, ax_2.2.1, ax_2.2.2.1, ax_2.2.2.2, by decide +kernel, fun w hw => ?_⟩
  have h1 := List.all_eq_true.mp ao_2 w hw
  rcases List.mem_cons.mp hw with rfl | hw
  · exact ts_mem ai_2.1 h1
  · rcases List.mem_cons.mp hw with rfl | hw
    · exact ts_mem ai_2.2 h1
    · have hw : w ∈ pa_2 := hw
      rw [at_2] at hw
      obtain ⟨i, -, hi⟩ := List.mem_filterMap.mp hw
      exact ts_mem hi h1
theorem thw_3 : ThW "PointerAnalyzer" 167 171 "java/lang/IndexOutOfBoundsException" := by
  refine ⟨7, prog_26_method_2_code, ax_3.1, ax_3.2.1, ax_3.2.2.1, ax_3.2.2.2, by decide +kernel, fun w hw => ?_⟩
  have h1 := List.all_eq_true.mp ao_3 w hw
  rcases List.mem_cons.mp hw with rfl | hw
  · exact ts_mem ai_3.1 h1
  · rcases List.mem_cons.mp hw with rfl | hw
    · exact ts_mem ai_3.2 h1
    · have hw : w ∈ pa_3 := hw
      rw [at_3] at hw
      obtain ⟨i, -, hi⟩ := List.mem_filterMap.mp hw
      exact ts_mem hi h1
theorem thw_4 : ThW "PointerAnalyzer" 317 321 "java/util/NoSuchElementException" := by
  refine ⟨13, prog_41_method_4_code, ax_4.1, ax_4.2.1, ax_4.2.2.1, ax_4.2.2.2, by decide +kernel, fun w hw => ?_⟩
  have h1 := List.all_eq_true.mp ao_4 w hw
  rcases List.mem_cons.mp hw with rfl | hw
  · exact ts_mem ai_4.1 h1
  · rcases List.mem_cons.mp hw with rfl | hw
    · exact ts_mem ai_4.2 h1
    · have hw : w ∈ pa_4 := hw
      rw [at_4] at hw
      obtain ⟨i, -, hi⟩ := List.mem_filterMap.mp hw
      exact ts_mem hi h1
theorem thw {e : Nat × (Nat × (Nat × (Nat × (Nat × (Nat × (Nat × (Nat × String)))))))} (he : e ∈ THS) : ThW (cN 8) e.2.2.2.1 e.2.2.2.2.2.1 (xN e.2.2.1) := by
  have h := List.all_eq_true.mp th_cb e he
  simp only [Bool.or_eq_true, Bool.and_eq_true] at h
  rcases h with (((h | h) | h) | h) | h
  · rw [Nat.eq_of_beq_eq_true h.1, Nat.eq_of_beq_eq_true h.2.1, Nat.eq_of_beq_eq_true h.2.2]; exact thw_0
  · rw [Nat.eq_of_beq_eq_true h.1, Nat.eq_of_beq_eq_true h.2.1, Nat.eq_of_beq_eq_true h.2.2]; exact thw_1
  · rw [Nat.eq_of_beq_eq_true h.1, Nat.eq_of_beq_eq_true h.2.1, Nat.eq_of_beq_eq_true h.2.2]; exact thw_2
  · rw [Nat.eq_of_beq_eq_true h.1, Nat.eq_of_beq_eq_true h.2.1, Nat.eq_of_beq_eq_true h.2.2]; exact thw_3
  · rw [Nat.eq_of_beq_eq_true h.1, Nat.eq_of_beq_eq_true h.2.1, Nat.eq_of_beq_eq_true h.2.2]; exact thw_4
theorem m_all : (List.range 215).all (fun x => plainName (mY x).cls && (decide ((mY x).cls ≠ "java/lang/invoke/MethodHandle") && (decide ((mY x).cls ≠ "java/lang/invoke/VarHandle") && decide ((mY x).cls = cN (mC x))))) = true := by decide +kernel
theorem m_at {x : Nat} (h : x < 215) : plainName (mY x).cls = true ∧ (mY x).cls ≠ "java/lang/invoke/MethodHandle" ∧ (mY x).cls ≠ "java/lang/invoke/VarHandle" ∧ (mY x).cls = cN (mC x) := by
  have h1 := List.all_eq_true.mp m_all x (List.mem_range.mpr h)
  simp only [Bool.and_eq_true, decide_eq_true_eq] at h1
  exact h1
theorem hx_at {mi : Nat} (h : mi < 215) : mH mi = (HX mi).map (fun e => (e.2.1, e.2.2.1, e.2.2.2.2.2.2.1, e.2.2.2.2.2.2.2.1)) := of_decide_eq_true (List.all_eq_true.mp hx_2 mi (List.mem_range.mpr h))
theorem hdF_some : ∀ (l : List HRow) (mi pc X : Nat) (q : Nat × Nat), hdF (l.map hPr) mi pc X = some q → ∃ pre e suf, l.filter (fun e => Nat.beq e.1 mi) = pre ++ e :: suf ∧ (∀ z ∈ pre, ¬ (z.2.1 ≤ pc ∧ pc < z.2.2.1) ∨ z.2.2.2.1 ≠ X) ∧ (e.2.1 ≤ pc ∧ pc < e.2.2.1) ∧ e.2.2.2.1 = X ∧ q = (e.2.2.2.2.1, e.2.2.2.2.2.1) ∧ e.1 = mi
  | [], _, _, _, _, h => by cases h
  | e :: r, mi, pc, X, q, h => by
    have h : (bif Nat.beq e.1 mi && (Nat.ble e.2.1 pc && (Nat.blt pc e.2.2.1 && Nat.beq e.2.2.2.1 X)) then some (e.2.2.2.2.1, e.2.2.2.2.2.1) else hdF (r.map hPr) mi pc X) = some q := h
    cases h1 : Nat.beq e.1 mi with
    | false =>
      rw [h1] at h
      obtain ⟨pre, e2, suf, g1, g2⟩ := hdF_some r mi pc X q h
      exact ⟨pre, e2, suf, by rw [List.filter_cons_of_neg (p := fun e : HRow => Nat.beq e.1 mi) (show ¬ Nat.beq e.1 mi = true from by rw [h1]; decide)]; exact g1, g2⟩
    | true =>
      cases h2 : (Nat.ble e.2.1 pc && (Nat.blt pc e.2.2.1 && Nat.beq e.2.2.2.1 X)) with
      | true =>
        rw [h1, h2] at h
        simp only [Bool.and_eq_true] at h2
        refine ⟨[], e, r.filter (fun e => Nat.beq e.1 mi), by rw [List.filter_cons_of_pos (p := fun e : HRow => Nat.beq e.1 mi) h1]; rfl, fun _ hz => (by cases hz), ⟨Nat.le_of_ble_eq_true h2.1, by simpa [Nat.blt_eq] using h2.2.1⟩, Nat.eq_of_beq_eq_true h2.2.2, ?_, Nat.eq_of_beq_eq_true h1⟩
        exact (Option.some.inj h).symm
      | false =>
        rw [h1, h2] at h
        obtain ⟨pre, e2, suf, g1, g2, g3⟩ := hdF_some r mi pc X q h
        refine ⟨e :: pre, e2, suf, by rw [List.filter_cons_of_pos (p := fun e : HRow => Nat.beq e.1 mi) h1, g1]; rfl, ?_, g3⟩
        intro z hz
        rcases List.mem_cons.mp hz with rfl | hz
        · by_cases hc : z.2.1 ≤ pc ∧ pc < z.2.2.1
          · right
            rintro rfl
            have e1 : Nat.ble z.2.1 pc = true := Nat.ble_eq_true_of_le hc.1
            have e2 : Nat.blt pc z.2.2.1 = true := by simpa [Nat.blt_eq] using hc.2
            rw [e1, e2] at h2
            simp at h2
          · exact Or.inl hc
        · exact g2 z hz
theorem hdF_none : ∀ (l : List HRow) (mi pc X : Nat), hdF (l.map hPr) mi pc X = none → ∀ z ∈ l.filter (fun e => Nat.beq e.1 mi), ¬ (z.2.1 ≤ pc ∧ pc < z.2.2.1) ∨ z.2.2.2.1 ≠ X
  | [], _, _, _, _, _, hz => by cases hz
  | e :: r, mi, pc, X, h, z, hz => by
    have h : (bif Nat.beq e.1 mi && (Nat.ble e.2.1 pc && (Nat.blt pc e.2.2.1 && Nat.beq e.2.2.2.1 X)) then some (e.2.2.2.2.1, e.2.2.2.2.2.1) else hdF (r.map hPr) mi pc X) = none := h
    cases h0 : (Nat.beq e.1 mi && (Nat.ble e.2.1 pc && (Nat.blt pc e.2.2.1 && Nat.beq e.2.2.2.1 X))) with
    | true => rw [h0] at h; cases h
    | false =>
      rw [h0] at h
      cases h1 : Nat.beq e.1 mi with
      | false =>
        rw [List.filter_cons_of_neg (p := fun e : HRow => Nat.beq e.1 mi) (show ¬ Nat.beq e.1 mi = true from by rw [h1]; decide)] at hz
        exact hdF_none r mi pc X h z hz
      | true =>
        rw [List.filter_cons_of_pos (p := fun e : HRow => Nat.beq e.1 mi) h1] at hz
        rcases List.mem_cons.mp hz with rfl | hz
        · by_cases hc : z.2.1 ≤ pc ∧ pc < z.2.2.1
          · right
            rintro rfl
            have e1 : Nat.ble z.2.1 pc = true := Nat.ble_eq_true_of_le hc.1
            have e2 : Nat.blt pc z.2.2.1 = true := by simpa [Nat.blt_eq] using hc.2
            rw [h1, e1, e2] at h0
            simp at h0
          · exact Or.inl hc
        · exact hdF_none r mi pc X h z hz
/-- the cells that a method may write: the layout's, and new ones -/
def AA (ix : (Int → Int) × (Nat → Prop)) (α : Nat → Nat) (n : Nat) : Nat → Prop := fun q => (∃ c, c < 54 ∧ q = α c) ∨ (n ≤ q ∨ ix.2 q)
theorem AA.mono {ix : (Int → Int) × (Nat → Prop)} {α : Nat → Nat} {n k : Nat} (h : n ≤ k) : ∀ q, AA ix α k q → AA ix α n q := fun _ hq => hq.elim Or.inl (fun g => Or.inr (g.elim (fun g => Or.inl (Nat.le_trans h g)) Or.inr))
/-- what the tables say at a state -/
def CX (κ : Nat → ClassId) (D : va_G) (s : State) : Prop := va_K D clA [(κ 0, .int), (κ 1, .long)] s ∧ (∀ w ∈ TS, va_Nw w s) ∧ (∀ a b, 0 < a → a < 6 → 0 < b → b < 6 → a ≠ b → va_Nc (xN a) (xN b) s) ∧ (∀ e ∈ THS, ∃ sa, vk_R (cN 8) e.2.2.2.2.1 e.2.2.2.2.2.2.2.2 sa s)
theorem nw_warm {w : Cond} (hw : okw w = true) {s U : State} (hW : s.WarmedH U.vm) (h : va_Nw w s) : va_Nw w U := by
  unfold okw at hw
  simp only [Bool.and_eq_true, Bool.or_eq_true] at hw
  rcases hw.2 with hk | hn
  · exact word_at hW (Or.inl (by rw [hw.1, hk]; rfl)) h
  · cases w <;> first
      | exact va_Nw.warmM hW h
      | exact va_Nw.warmC hW h
      | exact va_tabs rfl (rfl : (s.setVm U.vm).vm = U.vm) (by rw [Cond.declares_setVm hW.alike]; exact h)
      | exact nomatch hn
      | (simp [isN] at hn; done)
theorem CX.moved {κ : Nat → ClassId} {D : va_G} {s U : State} (hW : s.WarmedH U.vm) (h : CX κ D s) : CX κ D U :=
  ⟨va_K.moved hW.alike h.1, fun w hw => nw_warm (List.mem_filter.mp hw).2 hW (h.2.1 w hw), fun a b a0 a1 b0 b1 hn => va_Nc.moved hW.alike (h.2.2.1 a b a0 a1 b0 b1 hn), fun e he => (h.2.2.2 e he).elim fun sa hs => ⟨sa, vk_R.warm hW hs⟩⟩
theorem CX.words {κ : Nat → ClassId} {D : va_G} {s : State} {args : Array Value} (h : CX κ D s) : ∀ w ∈ TS, w.before args s = true := fun w hw => by
  have h2 := (List.mem_filter.mp hw).2
  unfold okw at h2
  rw [Bool.and_eq_true] at h2
  exact va_Nw.use h2.1 (h.2.1 w hw)
/-- what the heap holds beside the layout -/
def HF (α : Nat → Nat) (ix : (Int → Int) × (Nat → Prop)) (n : Nat) (U : State) : Prop := vx_Zq Bundle.tN "UNASSIGNED_STACK" Bundle.steD (AA ix α n) U U.heap ∧ vx_Zq Bundle.tN "SUPPRESSED_SENTINEL" Bundle.listD (AA ix α n) U U.heap
def SF (α : Nat → Nat) (ix : (Int → Int) × (Nat → Prop)) : Prop := (∀ i j, i < 54 → j < 54 → α i = α j → i = j) ∧ 0 ≤ ix.1 (-1) ∧ ix.1 (-1) < 2147483648
theorem HF.moved {α : Nat → Nat} {ix : (Int → Int) × (Nat → Prop)} {s U : State} {H : Heap} {locs : List Loc} (h : HF α ix s.heap.size s) (hf : SF α ix) (hS : va_S (AA ix α s.heap.size) s.heap H locs) (hU : U.heap = H) (hW : s.WarmedH U.vm) : HF α ix H.size U := by
  obtain ⟨h1, h2⟩ := h
  refine ⟨?_, ?_⟩
  · rw [hU]; exact vx_Zq.narrow (vx_Zq.moved hW.alike (h1.kept hS.2.1)) (AA.mono hS.1)
  · rw [hU]; exact vx_Zq.narrow (vx_Zq.moved hW.alike (h2.kept hS.2.1)) (AA.mono hS.1)
theorem wd_D {κ : Nat → ClassId} {α : Nat → Nat} {ix : (Int → Int) × (Nat → Prop)} (h : SF α ix) (n : Nat) (σ : St) : va_D (AA ix α n) (wd κ α σ) := by
  have key : ∀ (k : Nat) (q : Nat × va_E), (wd κ α σ)[k]? = some q → k < 54 ∧ q.1 = α k := by
    intro k q hk
    by_cases hl : k < nX (gI σ 53 (-1))
    · rw [wd_getX hl] at hk
      cases hk
      exact ⟨Nat.lt_of_lt_of_le hl (nX_ge _).2, rfl⟩
    · rw [List.getElem?_eq_none (by rw [wd_len]; omega)] at hk
      cases hk
  refine ⟨fun i j x y hi hj hxy => ?_, fun k q hk => ?_⟩
  · obtain ⟨h1, h2⟩ := key i x hi
    obtain ⟨h3, h4⟩ := key j y hj
    exact h.1 i j h1 h3 (by rw [← h2, ← h4, hxy])
  · obtain ⟨h1, h2⟩ := key k q hk
    exact Or.inl ⟨k, h1, h2⟩
def rmX (x : Nat) : Room := { frames := mFr x, cells := mBu x, slots := 6 * mBu x, locals := mLo x }
def WDX (κ : Nat → ClassId) (D : va_G) (α : Nat → Nat) (ix : (Int → Int) × (Nat → Prop)) (σ : St) (H : Heap) : Prop := va_P D clA (wd κ α σ) H ∧ ∀ j, gI σ 53 j = ix.1 j
def PcX (κ : Nat → ClassId) (D : va_G) (α : Nat → Nat) (ix : (Int → Int) × (Nat → Prop)) (as : List AV) (σ : St) (n : Nat) : Array Value → State → Prop := fun v U => v = (as.map (cv α)).toArray ∧ U.heap.size = n ∧ CX κ D U ∧ HF α ix n U ∧ WDX κ D α ix σ U.heap
def QcX (κ : Nat → ClassId) (D : va_G) (α : Nat → Nat) (ix : (Int → Int) × (Nat → Prop)) (r : Res × St) (n : Nat) : Array Value → State → Outcome → State → Prop := fun _ st o t => (∃ v σ1, r = (.inl v, σ1) ∧ o = .returned (v.map (cv α)) ∧ WDX κ D α ix σ1 t.heap) ∧ va_F (AA ix α n) st t
def XcX (κ : Nat → ClassId) (D : va_G) (α : Nat → Nat) (ix : (Int → Int) × (Nat → Prop)) (r : Res × St) (n : Nat) : String → State → State → Prop := fun E st t => (∃ X σ1, r = (.inr X, σ1) ∧ 0 < X ∧ X < 6 ∧ E = xN X ∧ WDX κ D α ix σ1 t.heap) ∧ va_F (AA ix α n) st t
def MetX (l : Launch) (κ : Nat → ClassId) (D : va_G) (α : Nat → Nat) (ix : (Int → Int) × (Nat → Prop)) (x : Nat) (as : List AV) (σ : St) (r : Res × St) (n : Nat) : Prop :=
  vx_Met l (mY x) [cdW x] (rmX x) (PcX κ D α ix as σ n) (QcX κ D α ix r n) (XcX κ D α ix r n) (mBu x) (6 * mBu x) (AA ix α n)
theorem PcX.blind {κ : Nat → ClassId} {D : va_G} {α : Nat → Nat} {ix : (Int → Int) × (Nat → Prop)} {as : List AV} {σ : St} {n : Nat} : FrameBlind (PcX κ D α ix as σ n) := by
  intro a U g mk ⟨h1, h2, h3, h4, h5⟩
  refine ⟨h1, h2, CX.moved (U := U.calling g mk a) (State.WarmedH.refl U) h3, ?_, h5⟩
  obtain ⟨a1, a2⟩ := h4
  exact ⟨vx_Zq.moved (Vm.Alike.refl U.vm) a1, vx_Zq.moved (Vm.Alike.refl U.vm) a2⟩
/-- a frame of method mi -/
def Ctx (κ : Nat → ClassId) (D : va_G) (α : Nat → Nat) (ix : (Int → Int) × (Nat → Prop)) (l : Launch) (p : Program) (s : State) (m : MethodId) (meth : Method) (c : Code) (mi : Nat) : Prop :=
  p.tables.exec = Jvm.exec ∧ c.code = mB mi ∧ c.maxLocals = mL mi ∧ mi < 215 ∧ s.vm.findClass (cN (mC mi)) = some m.cls ∧ meth.locks = false ∧ l.stackTraces = false ∧ c.exceptionTable.toList = tableOf (mH mi) ∧ CX κ D s ∧ HF α ix s.heap.size s ∧ SF α ix
def retI (i : Jvm.ClassFile.Instr) (x : Nat) (v : Option AV) (st : List AV) : Prop :=
  (i = .ireturn ∧ ∃ z, v = some (vI z) ∧ st = [vI z] ∧ (x = 1 → (z = 0 ∨ z = 1))) ∨ (i = .lreturn ∧ ∃ z, v = some (vL z) ∧ st = [vL z]) ∨ (i = .freturn ∧ ∃ z, v = some (vF z) ∧ st = [vF z]) ∨ (i = .dreturn ∧ ∃ z, v = some (vD z) ∧ st = [vD z]) ∨ (i = .areturn ∧ ∃ z, v = some (vR z) ∧ st = [vR z]) ∨ (i = .return_ ∧ v = none ∧ st = [])
section MAIN
variable {p : Program} {l : Launch} {e : Env} {R : Room} {s : State} {m : MethodId} {args : Array Value} {below : List Frame} {meth : Method} {c : Code} {H : Heap} {locs : List Loc} {cells slots : Nat} {Q : State → Prop}
variable {κ : Nat → ClassId} {D : va_G} {α : Nat → Nat} {ix : (Int → Int) × (Nat → Prop)}
theorem run_go {mc ms pc : Nat} {ls : Array Slot} {st0 rest : List Value} {Qa : State → Outcome → State → Prop} {XC : String → State → State → Prop} {free : Addr → Prop} (hr : vx_Run p l e R s m args below meth c H locs cells slots mc ms (F0 m pc ls st0) rest Qa XC free)
    (kk : ∀ (v : Option Value) (st₀ t : State) (L : List Loc), st₀.heap = H → (∀ q ∈ L, free q.base) → Qa st₀ (.returned v) t → W p l e R s m args below meth c t.heap (locs ++ L) (cells + mc) (slots + ms) Q (F0 m (pc + 3) ls (v.toList ++ rest)))
    (kx : ∀ (q : Addr) (st₀ t : State) (L : List Loc) (E : String) (ce : Cell), st₀.heap = H → (∀ z ∈ L, free z.base) → XC E st₀ t → t.heap[q]? = some ce → ce.vm = .none → s.vm.findClass E = some ce.cls → vx_W p l e R s m args below meth c t.heap (locs ++ L) (cells + mc) (slots + ms) Q (F0 m pc ls rest) q) :
    W p l e R s m args below meth c H locs cells slots Q (F0 m pc ls st0) := by
  intro T hT X
  rcases hr T hT X with ⟨v, st₀, t, T', L, h0, X', hL, e1, e2, hq, st⟩ | ⟨q, st₀, t, T', L, E, ce, h0, X', hL, e1, e2, hxc, hce, hcv, hcl, st⟩
  · obtain ⟨t2, a1, b1⟩ := kk v st₀ t L h0 hL hq T' e1 X'
    exact ⟨t2, st t2 a1, b1⟩
  · obtain ⟨t2, a1, b1⟩ := kx q st₀ t L E ce h0 hL hxc hce hcv hcl T' e1 X'
    exact ⟨t2, st.trans a1, b1⟩
def EndR (κ : Nat → ClassId) (D : va_G) (α : Nat → Nat) (ix : (Int → Int) × (Nat → Prop)) (p : Program) (l : Launch) (e : Env) (R : Room) (s : State) (m : MethodId) (args : Array Value) (below : List Frame) (meth : Method) (c : Code) (mi : Nat) (Q : State → Prop) (r : Res × St) : Prop :=
  ∀ (pc : Nat) (en : Ent) (v : Option AV) (σ1 : St) (st1 : List AV) (H1 : Heap) (locs1 : List Loc) (cells1 slots1 : Nat) (ls1 : Array Slot), r = (.inl v, σ1) → cd mi pc = some en → retI en.1 en.2.2.1 v st1 → WDX κ D α ix σ1 H1 → va_S (AA ix α s.heap.size) s.heap H1 locs1 → cells1 ≤ R.cells → slots1 ≤ R.slots → W p l e R s m args below meth c H1 locs1 cells1 slots1 Q (F0 m pc ls1 (st1.map (cv α)))
def EndT (κ : Nat → ClassId) (D : va_G) (α : Nat → Nat) (ix : (Int → Int) × (Nat → Prop)) (p : Program) (l : Launch) (e : Env) (R : Room) (s : State) (m : MethodId) (args : Array Value) (below : List Frame) (meth : Method) (c : Code) (mi : Nat) (Q : State → Prop) (r : Res × St) : Prop :=
  ∀ (pc i n x : Nat) (y : Nat × Int) (σ1 : St) (H1 : Heap) (locs1 : List Loc) (cells1 slots1 : Nat) (ls1 : Array Slot), r = (.inr x, σ1) → cd mi pc = some (.new i, n, x, 1, y) → WDX κ D α ix σ1 H1 → va_S (AA ix α s.heap.size) s.heap H1 locs1 → cells1 + 1 ≤ R.cells → slots1 + 6 ≤ R.slots → ls1.size = mL mi → W p l e R s m args below meth c H1 locs1 cells1 slots1 Q (F0 m pc ls1 [])
def EndX (κ : Nat → ClassId) (D : va_G) (α : Nat → Nat) (ix : (Int → Int) × (Nat → Prop)) (p : Program) (l : Launch) (e : Env) (R : Room) (s : State) (m : MethodId) (args : Array Value) (below : List Frame) (meth : Method) (c : Code) (mi : Nat) (Q : State → Prop) (r : Res × St) : Prop :=
  ∀ (pc X q : Nat) (ce : Cell) (σ1 : St) (rest : List Value) (H1 : Heap) (locs1 : List Loc) (cells1 slots1 : Nat) (ls1 : Array Slot), r = (.inr X, σ1) → hd mi pc X = none → 0 < X → X < 6 → WDX κ D α ix σ1 H1 → va_S (AA ix α s.heap.size) s.heap H1 locs1 → cells1 ≤ R.cells → slots1 ≤ R.slots → H1[q]? = some ce → ce.vm = .none → s.vm.findClass (xN X) = some ce.cls → vx_W p l e R s m args below meth c H1 locs1 cells1 slots1 Q (F0 m pc ls1 rest) q
end MAIN
def FRAME (n : Nat) : Prop := ∀ (κ : Nat → ClassId) (D : va_G) (α : Nat → Nat) (ix : (Int → Int) × (Nat → Prop)) (p : Program) (l : Launch) (e : Env) (R : Room) (s : State) (m : MethodId) (args : Array Value) (below : List Frame) (meth : Method) (c : Code) (mi t pc : Nat) (L : Lo) (st : List AV) (σ : St) (r : Res × St) (H : Heap) (locs : List Loc) (cells slots : Nat) (ls : Array Slot) (Q : State → Prop),
  Ctx κ D α ix l p s m meth c mi → mFr mi ≤ R.frames → mLo mi ≤ R.locals → cells + t ≤ R.cells → slots + 6 * t ≤ R.slots →
  EndR κ D α ix p l e R s m args below meth c mi Q r → EndT κ D α ix p l e R s m args below meth c mi Q r → EndX κ D α ix p l e R s m args below meth c mi Q r →
  lv_has ls (mL mi) (lvs α 0 L) → WDX κ D α ix σ H → va_S (AA ix α s.heap.size) s.heap H locs → ex n t mi pc L st σ = some r → W p l e R s m args below meth c H locs cells slots Q (F0 m pc ls (st.map (cv α)))
def METS (n : Nat) : Prop := ∀ (κ : Nat → ClassId) (D : va_G) (α : Nat → Nat) (ix : (Int → Int) × (Nat → Prop)) (l : Launch) (x : Nat) (as : List AV) (σ : St) (r : Res × St) (k : Nat), l.stackTraces = false → SF α ix → x < 215 → wt as ≤ mL x → ex n (mBu x) x 0 (entry (mL x) as) [] σ = some r → MetX l κ D α ix x as σ r k
theorem wt_nil : wt [] = 0 := rfl
theorem wt_cons (v : AV) (r : List AV) : wt (v :: r) = (if c2 v then 2 else 1) + wt r := rfl
theorem lg_len (α : Nat → Nat) : ∀ as : List AV, (lg_sl (as.map (cv α))).length = wt as
  | [] => rfl
  | v :: r => by
    rw [wt_cons, ← lg_len α r]
    rcases v with z | z | z | z | z <;> simp [lg_sl, cv, c2, Value.category] <;> omega
theorem ent_sub (α : Nat → Nat) : ∀ (as : List AV) (i n : Nat) (q : Nat × Value), q ∈ lvs α i (entL as ++ List.replicate n none) → q ∈ lv_args i (as.map (cv α))
  | [], i, n, q, h => by
    exfalso
    have key : ∀ (n i : Nat), q ∉ lvs α i (List.replicate n none) := by
      intro n
      induction n with
      | zero => intro i hq; cases hq
      | succ n ih => intro i hq; exact ih (i + 1) hq
    exact key n i h
  | v :: r, i, n, q, h => by
    have h : q ∈ lvs α i (some v :: ((if c2 v then none :: entL r else entL r) ++ List.replicate n none)) := h
    show q ∈ (i, cv α v) :: lv_args (if (cv α v).category = 2 then i + 2 else i + 1) (r.map (cv α))
    rcases List.mem_cons.mp h with rfl | h
    · exact List.mem_cons_self
    · refine List.mem_cons_of_mem _ ?_
      rw [cv_cat]
      cases hc : c2 v with
      | true =>
        rw [hc] at h
        exact ent_sub α r (i + 2) n q h
      | false =>
        rw [hc] at h
        exact ent_sub α r (i + 1) n q h
theorem lw_at {x : Nat} (h : inLW x = true) : cdW x ∈ TS ∧ goodWord (cdW x) = true ∧ Cond.initialized (mY x).cls ∈ TS ∧ (mS x = true → Cond.static (mY x) ∈ TS) ∧ (mS x = false → Cond.instanceMethod (mY x) ∈ TS ∧ Cond.selects (mY x).cls (mY x) (mY x) ∈ TS) := by
  obtain ⟨e, he, h2⟩ := List.any_eq_true.mp h
  have e1 := Nat.eq_of_beq_eq_true h2
  subst e1
  have h3 := LW_ok e he
  unfold okLW at h3
  simp only [Bool.and_eq_true, decide_eq_true_eq] at h3
  obtain ⟨h4, h5, h6, h7⟩ := h3
  refine ⟨ts_mem h4 ?_, h5, ts_mem h6 rfl, fun hs => ?_, fun hs => ?_⟩
  · unfold cdW; split <;> rfl
  · rw [hs] at h7
    simp only [if_true, decide_eq_true_eq] at h7
    exact ts_mem h7 rfl
  · rw [hs] at h7
    simp only [Bool.and_eq_true, decide_eq_true_eq, Bool.false_eq_true, if_false] at h7
    exact ⟨ts_mem h7.1 rfl, ts_mem h7.2 rfl⟩
theorem cdW_t {x : Nat} (h : (mH x).isEmpty = true) : cdW x = .code (mY x) (mB x) (mL x) (mR x) := if_pos h
theorem cdW_f {x : Nat} (h : (mH x).isEmpty = false) : cdW x = .codeWith (mY x) (mB x) (mL x) (mR x) (mH x) := if_neg (by rw [h]; decide)
theorem cd_dec {mi pc : Nat} {en : Ent} (hm : mi < 215) (h : cd mi pc = some en) : decode (mB mi) pc = .ok (en.1, en.2.1) ∧ (eqN en.2.1 (lenI en.1) || eqN (lenI en.1) 0) = true ∧ okI mi pc en.1 en.2.2 = true := by
  have ok := cd_ok hm h
  unfold okB at ok
  rw [Bool.and_eq_true, Bool.and_eq_true] at ok
  exact ⟨of_decide_eq_true ok.1, ok.2.1, ok.2.2⟩
section MAIN2
variable {p : Program} {l : Launch} {e : Env} {R : Room} {s : State} {m : MethodId} {args : Array Value} {below : List Frame} {meth : Method} {c : Code}
variable {κ : Nat → ClassId} {D : va_G} {α : Nat → Nat} {ix : (Int → Int) × (Nat → Prop)}
set_option maxHeartbeats 4000000 in
/-- the ends of a method that is called by contract -/
theorem ends_R {mi nn : Nat} {r : Res × St} (C0 : Ctx κ D α ix l p s m meth c mi) (hn : s.heap.size = nn) (hr : meth.sig.returnType = mR mi) : EndR κ D α ix p l e (rmX mi) s m args below meth c mi (vx_MQ below (QcX κ D α ix r nn) (XcX κ D α ix r nn) args s (mBu mi) (6 * mBu mi) (AA ix α nn)) r := by
  intro pc en v σ1 st1 H1 locs1 cells1 slots1 ls1 hrr hcd hret hW hS hc hs
  obtain ⟨hx, hb, hml, hm, hown, hlocks, hl, htab, hC, hH, hSF⟩ := C0
  subst hn
  obtain ⟨hdec, hlen, hok⟩ := cd_dec hm hcd
  have hq : ∀ t : State, t.heap = H1 → QcX κ D α ix r s.heap.size args s (.returned (v.map (cv α))) t := fun t ht => ⟨⟨v, σ1, hrr, rfl, by rw [ht]; exact hW⟩, hS.F ht⟩
  obtain ⟨i, n, x, y⟩ := en
  dsimp only at hdec hlen hok hret
  rcases hret with ⟨rfl, z, rfl, rfl, hz⟩ | ⟨rfl, z, rfl, rfl⟩ | ⟨rfl, z, rfl, rfl⟩ | ⟨rfl, z, rfl, rfl⟩ | ⟨rfl, z, rfl, rfl⟩ | ⟨rfl, rfl, rfl⟩
  · have e1 : n = 1 := len_ok hlen rfl
    subst e1
    rcases of_decide_eq_true hok with h1 | ⟨h1, h2⟩
    · exact vx_ret (W.widen hc hs (W.iret hx hb (hr.trans h1) (fun t ht _ => hq t ht) hS.2.2 hdec hlocks))
    · exact vx_ret (W.widen hc hs (W.zret hx hb (hr.trans h1) (int_bool (hz h2)).1 (fun t ht _ => hq t ht) hS.2.2 hdec hlocks))
  · have e1 : n = 1 := len_ok hlen rfl
    subst e1
    exact vx_ret (W.widen hc hs (W.lret hx hb (hr.trans (of_decide_eq_true hok)) (fun t ht _ => hq t ht) hS.2.2 hdec hlocks))
  · have e1 : n = 1 := len_ok hlen rfl
    subst e1
    exact vx_ret (W.widen hc hs (W.fret hx hb (hr.trans (of_decide_eq_true hok)) (fun t ht _ => hq t ht) hS.2.2 hdec hlocks))
  · have e1 : n = 1 := len_ok hlen rfl
    subst e1
    exact vx_ret (W.widen hc hs (W.dret hx hb (hr.trans (of_decide_eq_true hok)) (fun t ht _ => hq t ht) hS.2.2 hdec hlocks))
  · have e1 : n = 1 := len_ok hlen rfl
    subst e1
    exact vx_ret (W.widen hc hs (W.aret hx hb (hr.trans (of_decide_eq_true hok)) (Or.inl ⟨_, rfl⟩) (Or.inr ⟨_, rfl⟩) (fun t ht _ => hq t ht) hS.2.2 hdec hlocks))
  · have e1 : n = 1 := len_ok hlen rfl
    subst e1
    exact vx_ret (W.widen hc hs (W.vret hx hb (hr.trans (of_decide_eq_true hok)) (fun t ht _ => hq t ht) hS.2.2 hdec hlocks))
set_option maxHeartbeats 4000000 in
theorem ends_T {mi nn : Nat} {r : Res × St} (C0 : Ctx κ D α ix l p s m meth c mi) (hn : s.heap.size = nn) : EndT κ D α ix p l e (rmX mi) s m args below meth c mi (vx_MQ below (QcX κ D α ix r nn) (XcX κ D α ix r nn) args s (mBu mi) (6 * mBu mi) (AA ix α nn)) r := by
  intro pc i n x y σ1 H1 locs1 cells1 slots1 ls1 hrr hcd hW hS hc hs hsz
  obtain ⟨hx, hb, hml, hm, hown, hlocks, hl, htab, hC, hH, hSF⟩ := C0
  subst hn
  obtain ⟨hdec, hlen, hok⟩ := cd_dec hm hcd
  dsimp only at hdec hlen
  have hok : inTH mi pc i x = true := hok
  obtain ⟨f, hf, h2⟩ := List.any_eq_true.mp hok
  simp only [Bool.and_eq_true] at h2
  have e1 := Nat.eq_of_beq_eq_true h2.1
  have e2 := Nat.eq_of_beq_eq_true h2.2.1
  have e3 := Nat.eq_of_beq_eq_true h2.2.2.1
  have e4 := Nat.eq_of_beq_eq_true h2.2.2.2
  have hth := List.all_eq_true.mp th_ok f hf
  obtain ⟨ix9, rx, x0, x1, x2, x5, hfit, hws⟩ := thw hf
  obtain ⟨sa, hstr⟩ := hC.2.2.2 f hf
  obtain ⟨f1, f2, f3, f4, f5, f6, f7, f8, f9⟩ := f
  dsimp only at e1 e2 e3 e4 hws hstr hth hfit
  subst e1; subst e2; subst e3; subst e4
  unfold okTH at hth
  simp only [Bool.and_eq_true, decide_eq_true_eq] at hth
  obtain ⟨d3, hd, hmC, hemp, hfr, hlo⟩ := hth
  rw [hmC] at hown
  have hn3 : n = 3 := len_ok hlen rfl
  subst hn3
  have hcw := hC.words (args := args)
  have hk := hcw _ (hws _ List.mem_cons_self)
  have hini := hcw _ (hws _ (List.mem_cons_of_mem _ List.mem_cons_self))
  have hat := fun w hw => hcw w (hws w (List.mem_cons_of_mem _ (List.mem_cons_of_mem _ hw)))
  have hgood : ∀ w ∈ Cond.classLink (cN 8) f4 (xN f3) :: Cond.initialized (xN f3) :: (px_at (cN 8) f6 (xN f3) ix9 rx "java/lang/RuntimeException" ["java/lang/Exception"]).filter vx_no, vx_ot w = true := fun w hw => by
    have h2 := (List.mem_filter.mp (hws w hw)).2
    unfold okw at h2
    rw [Bool.and_eq_true] at h2
    unfold vx_ot
    rw [h2.1]; rfl
  have hout : ∀ q9 : Nat, ∀ z ∈ c.exceptionTable.toList, covers z q9 = false := fun q9 z hz => by
    rw [htab, List.isEmpty_iff.mp hemp] at hz
    cases hz
  have hX : ∀ t : State, s.vm.Alike t.vm → H1.size ≤ t.heap.size → (∀ q : Nat, q < H1.size → t.heap[q]? = H1[q]?) → XcX κ D α ix r s.heap.size (xN f3) s t := by
    intro t _ h1 h2
    refine ⟨⟨f3, σ1, hrr, ?_, ?_, rfl, hW.1.kept (fun k q hk => h2 q.1 (hW.1 k q hk).lt), hW.2⟩, Nat.le_trans hS.1 h1, fun q g1 g2 => ?_⟩
    · have := List.all_eq_true.mp th_cb _ hf
      simp only [Bool.or_eq_true, Bool.and_eq_true] at this
      rcases this with (((h | h) | h) | h) | h <;> rw [Nat.eq_of_beq_eq_true h.1] <;> decide
    · have := List.all_eq_true.mp th_cb _ hf
      simp only [Bool.or_eq_true, Bool.and_eq_true] at this
      rcases this with (((h | h) | h) | h) | h <;> rw [Nat.eq_of_beq_eq_true h.1] <;> decide
    · rw [h2 q (Nat.lt_of_lt_of_le g1 hS.1)]
      exact hS.2.1 q g1 g2
  by_cases hw : f7 = 0
  · rw [if_pos hw] at hd
    simp only [Bool.and_eq_true, decide_eq_true_eq] at hd
    exact pv_throwS hx hb hl x0 x1 x2 x5 hown hfit (by decide +kernel) (fun n hn => by rw [List.mem_singleton.mp hn]; decide +kernel) hk hini hstr hat hgood hH.1 hH.2 hS (by rw [hsz, hml]) hdec d3 hd.1 hd.2.1 hd.2.2 (hout _) (by show 1 + 1 + 3 < mFr f1; omega) (by show 0 + (13 * (1 + 1 + 1) + 43) ≤ mLo f1; omega) hc hs hlocks hX hS.2.2 hc hs
  · rw [if_neg hw] at hd
    simp only [Bool.and_eq_true, decide_eq_true_eq] at hd
    exact pv_throwSW hx hb hl x0 x1 x2 x5 hown hfit (by decide +kernel) (fun n hn => by rw [List.mem_singleton.mp hn]; decide +kernel) hk hini hstr hat hgood hH.1 hH.2 hS (by rw [hsz, hml]) hdec d3 hd.1 hd.2.1 hd.2.2 (hout _) (by show 1 + 1 + 3 < mFr f1; omega) (by show 0 + (13 * (1 + 1 + 1) + 43) ≤ mLo f1; omega) hc hs hlocks hX hS.2.2 hc hs
theorem hx_link {z : HRow} (hz : z ∈ hxT) : Cond.classLink (cN 12) z.2.2.2.2.2.2.2.1 (xN z.2.2.2.1) ∈ TS ∧ Cond.castable (xN z.2.2.2.1) (xN z.2.2.2.1) ∈ TS ∧ mC z.1 = 12 ∧ z.2.2.2.2.2.2.2.1 ≠ 0 ∧ z.2.2.2.2.2.1 < mL z.1 ∧ z.2.2.2.1 < 6 ∧ 0 < z.2.2.2.1 := by
  have h := List.all_eq_true.mp hx_3 z hz
  unfold okHX at h
  simp only [Bool.and_eq_true] at h
  obtain ⟨h1, h2, h3, h4, h5, h6, h7, -⟩ := h
  exact ⟨ts_mem (of_decide_eq_true h1) rfl, ts_mem (of_decide_eq_true h2) rfl, of_decide_eq_true h3, of_decide_eq_true h4, lt_ok h5, lt_ok h6, lt_ok h7⟩
set_option maxHeartbeats 4000000 in
theorem ends_X {mi nn : Nat} {r : Res × St} (C0 : Ctx κ D α ix l p s m meth c mi) (hn : s.heap.size = nn) : EndX κ D α ix p l e (rmX mi) s m args below meth c mi (vx_MQ below (QcX κ D α ix r nn) (XcX κ D α ix r nn) args s (mBu mi) (6 * mBu mi) (AA ix α nn)) r := by
  intro pc X q ce σ1 rest H1 locs1 cells1 slots1 ls1 hrr hhd h0 h6 hW hS hc hs hce hcv hcl
  obtain ⟨hx, hb, hml, hm, hown, hlocks, hl, htab, hC, hH, hSF⟩ := C0
  subst hn
  unfold hd at hhd
  rw [hx_1] at hhd
  have hno := hdF_none _ _ _ _ hhd
  refine vx_outP (own := cN (mC mi)) hown hlocks (fun z hz => ?_) hce hcv hcl (fun t ht _ => ⟨⟨X, σ1, hrr, h0, h6, rfl, by rw [ht]; exact hW⟩, hS.F ht⟩) hS.2.2 hc hs
  rw [htab, hx_at hm] at hz
  unfold tableOf at hz
  rw [List.map_map] at hz
  obtain ⟨f, hf, rfl⟩ := List.mem_map.mp hz
  have hft := List.mem_filter.mp hf
  obtain ⟨g1, g2, g3, g4, g5, g6, g7⟩ := hx_link hft.1
  have e1 := Nat.eq_of_beq_eq_true hft.2
  rcases hno f hf with h | h
  · left
    show (decide _ && decide _) = false
    rw [Bool.and_eq_false_iff, decide_eq_false_iff_not, decide_eq_false_iff_not]
    by_cases h1 : f.2.1 ≤ pc
    · exact Or.inr fun h2 => h ⟨h1, h2⟩
    · exact Or.inl h1
  · right
    refine ⟨g4, xN f.2.2.2.1, ?_, hC.2.2.1 X f.2.2.2.1 h0 h6 g7 g6 (fun e => h e.symm)⟩
    rw [show mC mi = 12 by rw [← e1]; exact g3]
    exact hC.words _ g1
set_option maxHeartbeats 4000000 in
theorem met_of {n : Nat} (fr : FRAME n) : METS n := by
  intro κ D α ix l x as σ r k hl hSF hx6 hwt hex
  have hpn := m_at hx6
  cases hh : (mH x).isEmpty with
  | true =>
    refine vx_ofW (cc := mB x) (maxL := mL x) (ret := mR x) (ws' := []) hpn.1 (by rw [cdW_t hh]) ?_
    intro p e s m args below meth c s₁ B hml ht hPc
    obtain ⟨rfl, hsz, hC, hH, hW⟩ := hPc
    have hown : s.vm.findClass (cN (mC x)) = some m.cls := by rw [← hpn.2.2.2]; exact findClass_of_methodNamed B.named
    have C0 : Ctx κ D α ix l p s m meth c x := ⟨B.exec, B.bytes, hml, hx6, hown, B.notSynchronized, hl, by
      rw [List.isEmpty_iff.mp hh]
      rcases hct : c.exceptionTable.toList with _ | ⟨z, zs⟩
      · rfl
      · exact (ht z (by rw [hct]; exact List.mem_cons_self)).elim, hC, by rw [hsz]; exact hH, hSF⟩
    have hl9 := lv_entry (as.map (cv α)) (n := mL x) (by rw [lg_len]; exact hwt)
    rw [lg_entry_eq]
    have hl2 : lv_has ((lg_sl (as.map (cv α)) ++ List.replicate (mL x - (lg_sl (as.map (cv α))).length) Slot.unset).toArray) (mL x) (lvs α 0 (entry (mL x) as)) := ⟨hl9.1, hl9.2.1, fun q hq => hl9.2.2 q (ent_sub α as 0 _ q hq)⟩
    exact fr κ D α ix p l e (rmX x) s m _ below meth c x (mBu x) 0 (entry (mL x) as) [] σ r s.heap [] 0 0 _ _ C0 (Nat.le_refl _) (Nat.le_refl _) (by show 0 + mBu x ≤ mBu x; omega) (by show 0 + 6 * mBu x ≤ 6 * mBu x; omega) (ends_R C0 hsz B.returns) (ends_T C0 hsz) (ends_X C0 hsz) hl2 hW va_S.rf hex
  | false =>
    refine vx_ofWH (cc := mB x) (maxL := mL x) (ret := mR x) (hh := mH x) (ws' := []) hpn.1 (by rw [cdW_f hh]) ?_
    intro p e s m args below meth c s₁ B hml hPc
    have hcw : (Cond.codeWith (mY x) (mB x) (mL x) (mR x) (mH x)).before args s = true := by
      have := atoms_spec (ws := [cdW x]) B.pre (cdW x) List.mem_cons_self
      rwa [cdW_f hh] at this
    have htab := vx_table (x := mY x) B hcw
    obtain ⟨rfl, hsz, hC, hH, hW⟩ := hPc
    have hown : s.vm.findClass (cN (mC x)) = some m.cls := by rw [← hpn.2.2.2]; exact findClass_of_methodNamed B.named
    have C0 : Ctx κ D α ix l p s m meth c x := ⟨B.exec, B.bytes, hml, hx6, hown, B.notSynchronized, hl, htab, hC, by rw [hsz]; exact hH, hSF⟩
    have hl9 := lv_entry (as.map (cv α)) (n := mL x) (by rw [lg_len]; exact hwt)
    rw [lg_entry_eq]
    have hl2 : lv_has ((lg_sl (as.map (cv α)) ++ List.replicate (mL x - (lg_sl (as.map (cv α))).length) Slot.unset).toArray) (mL x) (lvs α 0 (entry (mL x) as)) := ⟨hl9.1, hl9.2.1, fun q hq => hl9.2.2 q (ent_sub α as 0 _ q hq)⟩
    exact fr κ D α ix p l e (rmX x) s m _ below meth c x (mBu x) 0 (entry (mL x) as) [] σ r s.heap [] 0 0 _ _ C0 (Nat.le_refl _) (Nat.le_refl _) (by show 0 + mBu x ≤ mBu x; omega) (by show 0 + 6 * mBu x ≤ 6 * mBu x; omega) (ends_R C0 hsz B.returns) (ends_T C0 hsz) (ends_X C0 hsz) hl2 hW va_S.rf hex
end MAIN2
theorem wt_sum (α : Nat → Nat) : ∀ st : List AV, ((st.map (cv α)).map fun v => v.category).sum = wt st
  | [] => rfl
  | v :: r => by
    rw [wt_cons, ← wt_sum α r]
    simp only [List.map_cons, List.sum_cons, cv_cat]
theorem wt_rev (st : List AV) : wt st.reverse = wt st := by
  unfold wt
  rw [List.map_reverse, List.sum_reverse]
section MAIN3
variable {p : Program} {l : Launch} {e : Env} {R : Room} {s : State} {m : MethodId} {args : Array Value} {below : List Frame} {meth : Method} {c : Code} {H : Heap} {locs : List Loc} {cells slots : Nat}
variable {κ : Nat → ClassId} {D : va_G} {α : Nat → Nat} {ix : (Int → Int) × (Nat → Prop)}
theorem stk_map (α : Nat → Nat) (st : List AV) (k : Nat) : st.map (cv α) = ((st.take k).reverse.map (cv α)).reverse ++ (st.drop k).map (cv α) := by
  rw [← List.map_reverse, List.reverse_reverse, ← List.map_append, List.take_append_drop]
theorem room_z (m : MethodId) (pc : Nat) (ls : Array Slot) (st : List Value) {st2 : List AV} (h : wt st2 ≤ 8) : 2 * (F0 m pc ls st).monitorRoom + ((st2.map (cv α)).map fun v => v.category).sum ≤ 8 := by
  rw [wt_sum]
  show 2 * 0 + wt st2 ≤ 8
  omega
theorem pre_S {as : List AV} {σ : St} {mi : Nat} (C0 : Ctx κ D α ix l p s m meth c mi) (hW : WDX κ D α ix σ H) (hS : va_S (AA ix α s.heap.size) s.heap H locs) : ∀ U : State, U.heap = H → s.WarmedH U.vm → PcX κ D α ix as σ H.size (as.map (cv α)).toArray U := by
  obtain ⟨hx, hb, hml, hm, hown, hlocks, hl, htab, hC, hH, hSF⟩ := C0
  intro U hU hWm
  exact ⟨rfl, by rw [hU], hC.moved hWm, hH.moved hSF hS hU hWm, by rw [hU]; exact hW⟩
theorem good_w {x : Nat} (h : goodWord (cdW x) = true) : ∀ w ∈ [cdW x], ∀ (a' : Array Value) (U : State), s.WarmedH U.vm → w.before args s = true → w.before a' U = true := by
  intro w hw a' U hWm hb
  rw [List.mem_singleton.mp hw] at hb ⊢
  exact word_at hWm (good_of_word h) hb
set_option maxHeartbeats 4000000 in
theorem run_S {mi pc i n x y w : Nat} {z : Int} {st : List AV} {σ : St} {rr : Res × St} {ls : Array Slot} (C0 : Ctx κ D α ix l p s m meth c mi) (hf : mFr mi ≤ R.frames) (hlo : mLo mi ≤ R.locals) (hcd : cd mi pc = some (.invokestatic i, n, x, y, w, z))
    (hk : y ≤ st.length ∧ wt (st.drop y) ≤ 8 ∧ wt (st.take y) ≤ mL x) (hlsz : ls.size = mL mi) (hc : cells + mBu x ≤ R.cells ∧ slots + 6 * mBu x ≤ R.slots)
    (hW : WDX κ D α ix σ H) (hS : va_S (AA ix α s.heap.size) s.heap H locs) (hM : MetX l κ D α ix x (st.take y).reverse σ rr H.size)
    (hok : (okC mi (x, y, w, z) && (mS x && (decide ((parseMethodDescriptor (mY x).desc).map (fun d => d.parameters.length) = some y) && (inLM (mC mi) i x || (inLN (mC mi) i x && (mH x).isEmpty))))) = true) :
    vx_Run p l e R s m args below meth c H locs cells slots (mBu x) (6 * mBu x) (F0 m pc ls (st.map (cv α))) ((st.drop y).map (cv α)) (QcX κ D α ix rr H.size ((st.take y).reverse.map (cv α)).toArray) (XcX κ D α ix rr H.size) (AA ix α H.size) := by
  have C1 := C0
  obtain ⟨hx, hb, hml, hm, hown, hlocks, hl, htab, hC, hH, hSF⟩ := C0
  obtain ⟨hdec, hlen, -⟩ := cd_dec hm hcd
  dsimp only at hdec hlen
  have hn : n = 3 := len_ok hlen rfl
  subst hn
  simp only [Bool.and_eq_true, okC, decide_eq_true_eq] at hok
  obtain ⟨⟨k1, k2, k3, k4⟩, k5, k6, k7⟩ := hok
  have k3 := Nat.le_of_ble_eq_true k3
  have k4 := Nat.le_of_ble_eq_true k4
  obtain ⟨w1, w2, w3, w4, -⟩ := lw_at k1
  have hcw := hC.words (args := args)
  have hx6 : x < 215 := by
    rcases Nat.lt_or_ge x 215 with h | h
    · exact h
    · exfalso
      have hL : mT.length = 215 := by decide +kernel
      have : mrw x = mr_0 := by
        unfold mrw
        rw [List.getD_eq_getElem?_getD, List.getElem?_eq_none (by omega)]
        rfl
      have h2 : mS x = false := by show (mrw x).2.2.2.2.1 = false; rw [this]; rfl
      rw [h2] at k5; cases k5
  have hpn := m_at hx6
  have hlen2 : ((st.take y).reverse.map (cv α)).length = y := by simp; omega
  have hpar : ∀ sig, parseMethodDescriptor (mY x).desc = some sig → y = sig.parameters.length := fun sig hs => by
    rw [hs] at k6
    exact (Option.some.inj k6).symm
  have hws : ∀ w ∈ [cdW x], ∀ (a' : Array Value) (U : State), s.WarmedH U.vm → w.before a' U = true := fun w hw a' U hWm => good_w (args := args) w2 w hw a' U hWm (by rw [List.mem_singleton.mp hw]; exact hcw _ w1)
  rcases Bool.or_eq_true _ _ |>.mp k7 with k7 | k7
  · cases hh : (mH x).isEmpty with
    | true =>
      have hcode := hcw _ w1
      rw [cdW_t hh] at hcode
      exact vx_runS (Ts := TS) (cc := mB mi) (nL := mL mi) (n := y) (own := cN (mC mi)) (index := i) (bytes := mB x) (maxL := mL x) (ret := mR x) ⟨hx, hb, hml, hown, hcw⟩ hM
        ⟨⟨rfl, rfl, Nat.le_trans k3 hf, Nat.le_trans k4 hlo, hws, by rw [cdW_t hh]; exact List.mem_singleton.mpr rfl, hcode, hcw _ w3, ⟨hpn.2.1, hpn.2.2.1⟩, hpar, hcw _ (inLM_ok k7)⟩, hcw _ (w4 k5)⟩
        ⟨PcX.blind, pre_S C1 hW hS⟩ rfl hlen2 hlsz (stk_map α st y) (room_z m pc ls _ hk.2.1) hdec hc
    | false =>
      have hcode := hcw _ w1
      rw [cdW_f hh] at hcode
      exact vx_runSX (Ts := TS) (cc := mB mi) (nL := mL mi) (n := y) (own := cN (mC mi)) (index := i) (bytes := mB x) (maxL := mL x) (ret := mR x) (hh := mH x) ⟨hx, hb, hml, hown, hcw⟩ hM
        ⟨⟨rfl, rfl, Nat.le_trans k3 hf, Nat.le_trans k4 hlo, hws, by rw [cdW_f hh]; exact List.mem_singleton.mpr rfl⟩, hcode, hcw _ w3, ⟨hpn.2.1, hpn.2.2.1⟩, hpar, hcw _ (inLM_ok k7), hcw _ (w4 k5)⟩
        ⟨PcX.blind, pre_S C1 hW hS⟩ rfl hlen2 hlsz (stk_map α st y) (room_z m pc ls _ hk.2.1) hdec hc
  · rw [Bool.and_eq_true] at k7
    obtain ⟨k7, hh⟩ := k7
    have hcode := hcw _ w1
    rw [cdW_t hh] at hcode
    exact vx_runSN (Ts := TS) (cc := mB mi) (nL := mL mi) (n := y) (own := cN (mC mi)) (index := i) (host := hostN) (bytes := mB x) (maxL := mL x) (ret := mR x) ⟨hx, hb, hml, hown, hcw⟩ hM
      ⟨⟨⟨rfl, rfl, Nat.le_trans k3 hf, Nat.le_trans k4 hlo, hws, by rw [cdW_t hh]; exact List.mem_singleton.mpr rfl⟩, hcode, hcw _ w3, ⟨hpn.2.1, hpn.2.2.1⟩, hpar, hcw _ (inLN_ok k7)⟩, hcw _ (w4 k5), trivial⟩
      ⟨PcX.blind, pre_S C1 hW hS⟩ rfl hlen2 hlsz (stk_map α st y) (room_z m pc ls _ hk.2.1) hdec hc
theorem rcv_ok {as : List AV} {ci : Nat} (h : rcv as ci = true) : ∃ o r, as.reverse = vR o :: r ∧ lc o = ci := by
  unfold rcv at h
  cases hg : as.getLast? with
  | none => rw [hg] at h; cases h
  | some v =>
    rw [hg] at h
    rcases v with z | z | z | z | o
    · cases h
    · cases h
    · cases h
    · cases h
    · have h : (lc o == ci) = true := h
      rw [← List.head?_reverse] at hg
      cases hr : as.reverse with
      | nil => rw [hr] at hg; cases hg
      | cons a r =>
        rw [hr] at hg
        cases hg
        exact ⟨o, r, rfl, by simpa using h⟩
set_option maxHeartbeats 4000000 in
theorem run_V {mi pc i n x y w : Nat} {z : Int} {st : List AV} {σ : St} {rr : Res × St} {ls : Array Slot} (C0 : Ctx κ D α ix l p s m meth c mi) (hf : mFr mi ≤ R.frames) (hlo : mLo mi ≤ R.locals) (hcd : cd mi pc = some (.invokevirtual i, n, x, y, w, z)) (hr : rcv (st.take y) w = true)
    (hk : y ≤ st.length ∧ wt (st.drop y) ≤ 8 ∧ wt (st.take y) ≤ mL x) (hlsz : ls.size = mL mi) (hc : cells + mBu x ≤ R.cells ∧ slots + 6 * mBu x ≤ R.slots)
    (hW : WDX κ D α ix σ H) (hS : va_S (AA ix α s.heap.size) s.heap H locs) (hM : MetX l κ D α ix x (st.take y).reverse σ rr H.size) :
    vx_Run p l e R s m args below meth c H locs cells slots (mBu x) (6 * mBu x) (F0 m pc ls (st.map (cv α))) ((st.drop y).map (cv α)) (QcX κ D α ix rr H.size ((st.take y).reverse.map (cv α)).toArray) (XcX κ D α ix rr H.size) (AA ix α H.size) := by
  have C1 := C0
  obtain ⟨hx, hb, hml, hm, hown, hlocks, hl, htab, hC, hH, hSF⟩ := C0
  obtain ⟨hdec, hlen, hok⟩ := cd_dec hm hcd
  dsimp only at hdec hlen
  have hn : n = 3 := len_ok hlen rfl
  subst hn
  have hok : (okC mi (x, y, w, z) && (!mS x && (decide ((parseMethodDescriptor (mY x).desc).map (fun d => d.parameters.length + 1) = some y) && (inLM (mC mi) i x && ((mH x).isEmpty && (eqN w (mC x) && ltN (mC x) 9)))))) = true := hok
  simp only [Bool.and_eq_true, okC, decide_eq_true_eq] at hok
  obtain ⟨⟨k1, k2, k3, k4⟩, k5, k6, k7, hh, k8, k9⟩ := hok
  have k3 := Nat.le_of_ble_eq_true k3
  have k4 := Nat.le_of_ble_eq_true k4
  have k5 : mS x = false := by simpa using k5
  have k8 := Nat.eq_of_beq_eq_true k8
  have k9 := lt_ok k9
  obtain ⟨w1, w2, w3, -, w4⟩ := lw_at k1
  obtain ⟨w4, w5⟩ := w4 k5
  have hcw := hC.words (args := args)
  have hx6 : x < 215 := by
    rcases Nat.lt_or_ge x 215 with h | h
    · exact h
    · exfalso
      have : LW.all (fun e => decide (e.1 < 215)) = true := by decide +kernel
      obtain ⟨e, he, h2⟩ := List.any_eq_true.mp k1
      have h3 := of_decide_eq_true (List.all_eq_true.mp this e he)
      have := Nat.eq_of_beq_eq_true h2
      omega
  have hpn := m_at hx6
  obtain ⟨o, r, ho, hlc⟩ := rcv_ok hr
  have hlen1 : (st.take y).reverse.length = y := by simp; omega
  have hlen2 : (r.map (cv α)).length = y - 1 := by
    rw [ho] at hlen1
    simp only [List.length_cons] at hlen1
    simp; omega
  have hpar : ∀ sig, parseMethodDescriptor (mY x).desc = some sig → y - 1 = sig.parameters.length := fun sig hs => by
    rw [hs] at k6
    have := Option.some.inj k6
    dsimp only at this
    omega
  have hws : ∀ w ∈ [cdW x], ∀ (a' : Array Value) (U : State), s.WarmedH U.vm → w.before a' U = true := fun w hw a' U hWm => good_w (args := args) w2 w hw a' U hWm (by rw [List.mem_singleton.mp hw]; exact hcw _ w1)
  have hcode := hcw _ w1
  rw [cdW_t hh] at hcode
  have ho79 : o < 53 := lc_lt (by omega)
  have hg := wd_get (κ := κ) (α := α) (σ := σ) ho79
  rw [cE_obj (by omega), hlc, k8] at hg
  have hrec := va_recv hC.1 hW.1 (clA_get k9) hg
  have hst : st.map (cv α) = (r.map (cv α)).reverse ++ Value.ref (α o) :: (st.drop y).map (cv α) := by
    rw [stk_map α st y, ho]
    simp [cv_vR]
  have hM2 := hM
  rw [ho] at hM2 ⊢
  exact vx_runV (Ts := TS) (cc := mB mi) (nL := mL mi) (n := y - 1) (own := cN (mC mi)) (C := (mY x).cls) (index := i) (bytes := mB x) (maxL := mL x) (ret := mR x) (b := α o) (As := r.map (cv α)) ⟨hx, hb, hml, hown, hcw⟩ hM2
    ⟨⟨rfl, rfl, Nat.le_trans k3 hf, Nat.le_trans k4 hlo, hws, by rw [cdW_t hh]; exact List.mem_singleton.mpr rfl, hcode, hcw _ w3, ⟨hpn.2.1, hpn.2.2.1⟩, hpar, hcw _ (inLM_ok k7)⟩, hcw _ w4, hcw _ w5⟩
    ⟨PcX.blind, by rw [hpn.2.2.2]; exact hrec, pre_S C1 hW hS⟩ rfl hlen2 hlsz hst (room_z m pc ls _ hk.2.1) hdec hc
set_option maxHeartbeats 4000000 in
/-- behind a call: back, or with an exception to this frame's handler or out -/
theorem go_call {k mi pc x y t : Nat} {L : Lo} {st : List AV} {rr r : Res × St} {ls : Array Slot} {Q : State → Prop} {σ : St} (fr : FRAME k) (C0 : Ctx κ D α ix l p s m meth c mi) (hf : mFr mi ≤ R.frames) (hlo : mLo mi ≤ R.locals) (hb : mBu x ≤ t) (hcs : cells + t ≤ R.cells) (hss : slots + 6 * t ≤ R.slots)
    (ER : EndR κ D α ix p l e R s m args below meth c mi Q r) (ET : EndT κ D α ix p l e R s m args below meth c mi Q r) (EX : EndX κ D α ix p l e R s m args below meth c mi Q r)
    (hl : lv_has ls (mL mi) (lvs α 0 L)) (hW : WDX κ D α ix σ H) (hS : va_S (AA ix α s.heap.size) s.heap H locs)
    (hrun : vx_Run p l e R s m args below meth c H locs cells slots (mBu x) (6 * mBu x) (F0 m pc ls (st.map (cv α))) ((st.drop y).map (cv α)) (QcX κ D α ix rr H.size ((st.take y).reverse.map (cv α)).toArray) (XcX κ D α ix rr H.size) (AA ix α H.size))
    (hgo : (match some rr with
      | none => none
      | some (.inl v, σ1) => ex k (t - mBu x) mi (pc + 3) L (optL v ++ st.drop y) σ1
      | some (.inr X, σ1) => (match hd mi pc X with
        | none => some (.inr X, σ1)
        | some q => ex k (t - mBu x) mi q.1 (lkill L q.2) [] σ1)) = some r) : W p l e R s m args below meth c H locs cells slots Q (F0 m pc ls (st.map (cv α))) := by
  have hAm : ∀ q, q < H.size → AA ix α H.size q → AA ix α s.heap.size q := fun q _ h => AA.mono hS.1 q h
  have hAf : ∀ q, AA ix α H.size q → AA ix α s.heap.size q := fun q h => AA.mono hS.1 q h
  refine run_go hrun (fun v st₀ t1 L1 h0 hL hq => ?_) (fun q st₀ t1 L1 E ce h0 hL hxc hce hcv hcl => ?_)
  · obtain ⟨⟨v1, σ1, hrr, hv, hw1⟩, hF⟩ := hq
    subst hrr
    have hv := Outcome.returned.inj hv
    subst hv
    obtain ⟨-, -, hS1⟩ := vx_keep h0 rfl hS hAm hAf hL hF
    have hgo : ex k (t - mBu x) mi (pc + 3) L (optL v1 ++ st.drop y) σ1 = some r := hgo
    have := fr κ D α ix p l e R s m args below meth c mi (t - mBu x) (pc + 3) L (optL v1 ++ st.drop y) σ1 r t1.heap (locs ++ L1) (cells + mBu x) (slots + 6 * mBu x) ls Q C0 hf hlo (by omega) (by omega) ER ET EX hl hw1 hS1 hgo
    rw [show (v1.map (cv α)).toList ++ (st.drop y).map (cv α) = (optL v1 ++ st.drop y).map (cv α) by cases v1 <;> rfl]
    exact this
  · obtain ⟨⟨X, σ1, hrr, x0, x6, hE, hw1⟩, hF⟩ := hxc
    subst hrr
    subst hE
    obtain ⟨-, -, hS1⟩ := vx_keep h0 rfl hS hAm hAf hL hF
    have C1 := C0
    obtain ⟨hx, hb0, hml, hm, hown, hlocks, hlt, htab, hC, hH, hSF⟩ := C0
    have hgo : (match hd mi pc X with
        | none => some (.inr X, σ1)
        | some q => ex k (t - mBu x) mi q.1 (lkill L q.2) [] σ1) = some r := hgo
    cases hhd : hd mi pc X with
    | none =>
      rw [hhd] at hgo
      exact EX pc X q ce σ1 _ t1.heap _ _ _ ls (Option.some.inj hgo).symm hhd x0 x6 hw1 hS1 (by omega) (by omega) hce hcv hcl
    | some q9 =>
      rw [hhd] at hgo
      have hgo : ex k (t - mBu x) mi q9.1 (lkill L q9.2) [] σ1 = some r := hgo
      unfold hd at hhd
      rw [hx_1] at hhd
      obtain ⟨pre, f, suf, g1, g2, g3, g4, g5, g6⟩ := hdF_some _ _ _ _ _ hhd
      have hfm : f ∈ hxT := (List.mem_filter.mp (show f ∈ HX mi by unfold HX; rw [g1]; simp)).1
      obtain ⟨f1, f2, f3, f4, f5, f6, f7⟩ := hx_link hfm
      subst g5
      have htab2 : c.exceptionTable.toList = (pre.map (fun e => (e.2.1, e.2.2.1, e.2.2.2.2.2.2.1, e.2.2.2.2.2.2.2.1))).map (fun q => (⟨q.1, q.2.1, q.2.2.1, q.2.2.2⟩ : ExceptionTableEntry)) ++ (⟨f.2.1, f.2.2.1, f.2.2.2.2.2.2.1, f.2.2.2.2.2.2.2.1⟩ : ExceptionTableEntry) :: (suf.map (fun e => (e.2.1, e.2.2.1, e.2.2.2.2.2.2.1, e.2.2.2.2.2.2.2.1))).map (fun q => (⟨q.1, q.2.1, q.2.2.1, q.2.2.2⟩ : ExceptionTableEntry)) := by
        rw [htab, hx_at hm]
        unfold tableOf HX
        rw [g1]
        simp
      have hmC : mC mi = 12 := by rw [← g6]; exact f3
      rw [hmC] at hown
      have hcw := hC.words (args := args)
      refine vx_catch (own := cN 12) (name := xN f.2.2.2.1) hown _ _ _ htab2 (fun z hz => ?_) (by show (decide _ && decide _) = true; rw [decide_eq_true g3.1, decide_eq_true g3.2]; rfl) f4 (hcw _ f1) (by rw [← g4]; exact hcw _ f2) hce hcv hcl ?_
      · rw [List.map_map] at hz
        obtain ⟨z, hz2, rfl⟩ := List.mem_map.mp hz
        have hzm : z ∈ hxT := (List.mem_filter.mp (show z ∈ HX mi by unfold HX; rw [g1]; exact List.mem_append_left _ hz2)).1
        obtain ⟨z1, z2, z3, z4, z5, z6, z7⟩ := hx_link hzm
        rcases g2 z hz2 with h | h
        · left
          show (decide _ && decide _) = false
          rw [Bool.and_eq_false_iff, decide_eq_false_iff_not, decide_eq_false_iff_not]
          by_cases h1 : z.2.1 ≤ pc
          · exact Or.inr fun h2 => h ⟨h1, h2⟩
          · exact Or.inl h1
        · exact Or.inr ⟨z4, xN z.2.2.2.1, hcw _ z1, hC.2.2.1 X z.2.2.2.1 x0 x6 z7 z6 (fun e => h e.symm)⟩
      · have key : ∀ ls1 : Array Slot, lv_has ls1 (mL mi) (lvs α 0 (lkill L f.2.2.2.2.2.1)) → W p l e R s m args below meth c t1.heap (locs ++ L1) (cells + mBu x) (slots + 6 * mBu x) Q (F0 m f.2.2.2.2.1 ls1 []) := fun ls1 hl1 =>
          fr κ D α ix p l e R s m args below meth c mi (t - mBu x) f.2.2.2.2.1 (lkill L f.2.2.2.2.2.1) [] σ1 r t1.heap (locs ++ L1) (cells + mBu x) (slots + 6 * mBu x) ls1 Q C1 hf hlo (by omega) (by omega) ER ET EX hl1 hw1 hS1 hgo
        have hkill : ∀ ls1 : Array Slot, lv_has ls1 (mL mi) ((f.2.2.2.2.2.1, Value.ref q) :: (lvs α 0 L).filter (fun q9 => !(q9.1 == f.2.2.2.2.2.1) && !(q9.1 + 1 == f.2.2.2.2.2.1 && q9.2.category == 2))) → lv_has ls1 (mL mi) (lvs α 0 (lkill L f.2.2.2.2.2.1)) := by
          intro ls1 h
          refine ⟨h.1, h.2.1, fun q9 hq9 => h.2.2 q9 (List.mem_cons_of_mem _ (List.mem_filter.mpr ?_))⟩
          obtain ⟨h1, h2, h4⟩ := lkill_sub L f.2.2.2.2.2.1 0 q9 hq9
          refine ⟨h1, ?_⟩
          rw [Nat.zero_add] at h2 h4
          simp only [Bool.and_eq_true, Bool.not_eq_true', beq_eq_false_iff_ne, ne_eq, Bool.and_eq_false_iff]
          refine ⟨h2, ?_⟩
          by_cases e : q9.1 + 1 = f.2.2.2.2.2.1
          · exact Or.inr fun e2 => h4 ⟨e, e2⟩
          · exact Or.inl e
        have h3 := List.all_eq_true.mp hx_3 f hfm
        unfold okHX at h3
        simp only [Bool.and_eq_true] at h3
        obtain ⟨-, -, -, -, -, -, -, h3⟩ := h3
        rw [g6] at h3 f5
        rcases Bool.or_eq_true _ _ |>.mp h3 with h3 | h3
        · rw [Bool.and_eq_true] at h3
          have e2 := Nat.eq_of_beq_eq_true h3.2
          refine lv_astore hx hb0 (of_decide_eq_true h3.1) hl f5 rfl (fun ls1 hl1 => ?_)
          have := key ls1 (hkill ls1 hl1)
          rw [e2] at this
          exact this
        · rw [Bool.and_eq_true] at h3
          have e2 := Nat.eq_of_beq_eq_true h3.2
          have key2 : ∀ ls1 : Array Slot, lv_has ls1 (mL mi) ((f.2.2.2.2.2.1, Value.ref q) :: (lvs α 0 L).filter (fun q9 => !(q9.1 == f.2.2.2.2.2.1) && !(q9.1 + 1 == f.2.2.2.2.2.1 && q9.2.category == 2))) → W p l e R s m args below meth c t1.heap (locs ++ L1) (cells + mBu x) (slots + 6 * mBu x) Q (F0 m (f.2.2.2.2.2.2.1 + 1) ls1 []) := fun ls1 hl1 => by
            have := key ls1 (hkill ls1 hl1)
            rw [e2] at this
            exact this
          generalize hsl : f.2.2.2.2.2.1 = sl at h3 f5 key2
          have h4 := h3.1
          match sl, h4 with
          | 2, h4 => exact lv_astore_n (k := 2) (i := 2) hx hb0 (of_decide_eq_true h4) rfl hl f5 rfl key2
          | 3, h4 => exact lv_astore_n (k := 3) (i := 3) hx hb0 (of_decide_eq_true h4) rfl hl f5 rfl key2
          | 1, h4 => exact lv_astore_n (k := 1) (i := 1) hx hb0 (of_decide_eq_true h4) rfl hl f5 rfl key2
          | 0, h4 => cases h4
          | n + 4, h4 => cases h4
end MAIN3
theorem nat_words {args : Array Value} {s : State} (h : ∀ w ∈ TS, w.before args s = true) : (Cond.native (natN 1000)).before args s = true ∧ (Cond.native (natN 1001)).before args s = true ∧ (Cond.static (natN 1000)).before args s = true ∧ (Cond.static (natN 1001)).before args s = true ∧ (Cond.initialized "java/lang/Double").before args s = true ∧ (Cond.static (natN 1002)).before args s = true ∧ (Cond.code Lib.MathLoose.min_long.x Lib.MathLoose.min_long.code 4 (some .long)).before args s = true ∧ (Cond.initialized "java/lang/Math").before args s = true := by
  have e := nat_w
  simp only [List.map_cons, List.map_nil, List.cons.injEq, and_true] at e
  exact ⟨h _ (ts_mem e.1 rfl), h _ (ts_mem e.2.1 rfl), h _ (ts_mem e.2.2.1 rfl), h _ (ts_mem e.2.2.2.1 rfl), h _ (ts_mem e.2.2.2.2.1 rfl), h _ (ts_mem e.2.2.2.2.2.1 rfl), h _ (ts_mem e.2.2.2.2.2.2.1 rfl), h _ (ts_mem e.2.2.2.2.2.2.2 rfl)⟩
theorem snl_of {b : BitVec 64} (h : n64 (UInt64.ofBitVec b)) : vn_snl2d (Int64.ofBitVec b) = false := by
  unfold vn_snl2d
  have h2 : ¬ ((Int64.ofBitVec b).toUInt64 &&& 0x7fffffffffffffff > 0x7ff0000000000000) := UInt64.not_lt.mpr h
  rw [decide_eq_false h2, Bool.false_and]
theorem bu_eq {mi x : Nat} {y : Nat × (Nat × Int)} (h : okC mi (x, y) = true) : y.2.2.toNat = mBu x := by
  unfold okC at h
  simp only [Bool.and_eq_true, decide_eq_true_eq] at h
  have := h.2.1
  rw [this]
  rfl
theorem bcall_some {i : Jvm.ClassFile.Instr} {n x y w t mi pc : Nat} {z : Int} {L : Lo} {st : List AV} {σ : St} {E : EF} {r : Res × St} (h : bcall (i, n, x, y, w, z) t mi pc L st σ E = some r) : (y ≤ st.length ∧ wt (st.drop y) ≤ 8 ∧ wt (st.take y) ≤ mL x ∧ z.toNat ≤ t) ∧ (match E z.toNat x 0 (entry (mL x) (st.take y).reverse) [] σ with
    | none => none
    | some (.inl v, σ') => E (t - z.toNat) mi (pc + 3) L (optL v ++ st.drop y) σ'
    | some (.inr X, σ') => (match hd mi pc X with
      | none => some (.inr X, σ')
      | some q => E (t - z.toNat) mi q.1 (lkill L q.2) [] σ')) = some r := by
  unfold bcall at h
  exact if_some h
set_option maxHeartbeats 8000000 in
theorem frame_succ {k : Nat} (fr : FRAME k) : FRAME (k + 1) := by
  intro κ D α ix p l e R s m args below meth c mi t pc L st σ r H locs cells slots ls Q C0 hf hlo hc hs ER ET EX hl hW hS hex
  have C1 := C0
  obtain ⟨hx, hb, hml, hm, hown, hlocks, hlt, htab, hC, hH, hSF⟩ := C0
  rw [ex_succ] at hex
  cases hcd : cd mi pc with
  | none => rw [hcd] at hex; cases hex
  | some en =>
    rw [hcd] at hex
    have hex : bod en t mi pc L st σ (ex k) = some r := hex
    by_cases hiS : isS en.1 = true
    · rw [bod_ss hiS] at hex
      have e1 := hW.2
      refine snd_ss (A := AA ix α s.heap.size) (H0 := s.heap) hx hb hm hown hC.words hC.1 (wd_D hSF _) (by rw [e1]; exact hSF.2) hcd hl hW.1 hS hex ?_
      · intro pc1 L1 st1 σ1 H1 locs1 ls1 hk hg hl1 hP1 hS1
        exact fr κ D α ix p l e R s m args below meth c mi t pc1 L1 st1 σ1 r H1 locs1 cells slots ls1 Q C1 hf hlo hc hs ER ET EX hl1 ⟨hP1, fun j => by rw [hg, e1]⟩ hS1 hk
    · obtain ⟨i, n, x, y, w, z⟩ := en
      have hcr : cells ≤ R.cells := by omega
      have hsr : slots ≤ R.slots := by omega
      cases i <;> first | exact absurd rfl hiS | skip
      case ireturn =>
        obtain ⟨v, r1, rfl, h⟩ := eP_some hex
        cases r1 with
        | cons a b => cases h
        | nil =>
          obtain ⟨a, rfl, h⟩ := eI_some h
          obtain ⟨h1, h⟩ := if_some h
          cases h
          exact ER pc _ (some (vI a)) σ [vI a] H locs cells slots ls rfl hcd (Or.inl ⟨rfl, a, rfl, rfl, h1⟩) hW hS hcr hsr
      case lreturn =>
        obtain ⟨v, r1, rfl, h⟩ := eP_some hex
        cases r1 with
        | cons a b => cases h
        | nil =>
          obtain ⟨a, rfl, h⟩ := eL_some h
          cases h
          exact ER pc _ (some (vL a)) σ [vL a] H locs cells slots ls rfl hcd (Or.inr (Or.inl ⟨rfl, a, rfl, rfl⟩)) hW hS hcr hsr
      case freturn =>
        obtain ⟨v, r1, rfl, h⟩ := eP_some hex
        cases r1 with
        | cons a b => cases h
        | nil =>
          obtain ⟨a, rfl, h⟩ := eF_some h
          cases h
          exact ER pc _ (some (vF a)) σ [vF a] H locs cells slots ls rfl hcd (Or.inr (Or.inr (Or.inl ⟨rfl, a, rfl, rfl⟩))) hW hS hcr hsr
      case dreturn =>
        obtain ⟨v, r1, rfl, h⟩ := eP_some hex
        cases r1 with
        | cons a b => cases h
        | nil =>
          obtain ⟨a, rfl, h⟩ := eD_some h
          cases h
          exact ER pc _ (some (vD a)) σ [vD a] H locs cells slots ls rfl hcd (Or.inr (Or.inr (Or.inr (Or.inl ⟨rfl, a, rfl, rfl⟩)))) hW hS hcr hsr
      case areturn =>
        obtain ⟨v, r1, rfl, h⟩ := eP_some hex
        cases r1 with
        | cons a b => cases h
        | nil =>
          obtain ⟨a, rfl, h⟩ := eR_some h
          cases h
          exact ER pc _ (some (vR a)) σ [vR a] H locs cells slots ls rfl hcd (Or.inr (Or.inr (Or.inr (Or.inr (Or.inl ⟨rfl, a, rfl, rfl⟩))))) hW hS hcr hsr
      case return_ =>
        cases st with
        | cons a b => cases hex
        | nil =>
          cases hex
          exact ER pc _ none σ [] H locs cells slots ls rfl hcd (Or.inr (Or.inr (Or.inr (Or.inr (Or.inr ⟨rfl, rfl, rfl⟩))))) hW hS hcr hsr
      case new i9 hx9 =>
        obtain ⟨⟨h1, h2, h3⟩, h⟩ := if_some hex
        dsimp only at h1 h
        subst h1
        subst h3
        cases h
        exact ET pc _ _ _ _ σ H locs cells slots ls rfl hcd hW hS (by omega) (by omega) hl.1
      case invokestatic i9 hx9 =>
        have hex : nbod (.invokestatic i9, n, x, y, w, z) t mi pc L st σ (ex k) = some r := hex
        unfold nbod at hex
        dsimp only at hex
        obtain ⟨hdc, hln, hok0⟩ := cd_dec hm hcd
        dsimp only at hdc hln
        have hn9 : n = 3 := len_ok hln rfl
        have hok0 : (if Nat.ble 1000 x then (inLNa (mC mi) i9 x && (decide (2 ≤ mFr mi) && decide (23 ≤ mLo mi))) else okC mi (x, y, w, z) && (mS x && (decide ((parseMethodDescriptor (mY x).desc).map (fun d => d.parameters.length) = some y) && (inLM (mC mi) i9 x || (inLN (mC mi) i9 x && (mH x).isEmpty))))) = true := hok0
        by_cases q0 : x = 1000
        · rw [if_pos q0] at hex
          subst q0
          obtain ⟨v, r1, rfl, h⟩ := eP_some hex
          obtain ⟨d, rfl, h⟩ := eD_some h
          obtain ⟨h8, h⟩ := if_some h
          have hok0 : (inLNa (mC mi) i9 1000 && (decide (2 ≤ mFr mi) && decide (23 ≤ mLo mi))) = true := hok0
          simp only [Bool.and_eq_true, decide_eq_true_eq] at hok0
          have hw := nat_words hC.words (args := args)
          rw [hn9] at hdc
          refine vn_d2l hx hb (by rw [hml]; exact hl.1.symm) hown (hC.words _ (inLNa_ok hok0.1)) hw.1 hw.2.2.1 hw.2.2.2.2.1 (by omega) ?_ hdc ?_
          · have := wt_sum α r1; omega
          · exact fr κ D α ix p l e R s m args below meth c mi t (pc + 3) L (vL d.toBitVec :: r1) σ r H locs cells slots ls Q C1 hf hlo hc hs ER ET EX hl hW hS h
        rw [if_neg q0] at hex
        by_cases q1 : x = 1001
        · rw [if_pos q1] at hex
          subst q1
          obtain ⟨v, r1, rfl, h⟩ := eP_some hex
          obtain ⟨d, rfl, h⟩ := eL_some h
          obtain ⟨⟨h9, h8⟩, h⟩ := if_some h
          have hok0 : (inLNa (mC mi) i9 1001 && (decide (2 ≤ mFr mi) && decide (23 ≤ mLo mi))) = true := hok0
          simp only [Bool.and_eq_true, decide_eq_true_eq] at hok0
          have hw := nat_words hC.words (args := args)
          rw [hn9] at hdc
          refine vn_l2d hx hb (by rw [hml]; exact hl.1.symm) hown (hC.words _ (inLNa_ok hok0.1)) hw.2.1 hw.2.2.2.1 hw.2.2.2.2.1 (snl_of h9) (by omega) ?_ hdc ?_
          · have := wt_sum α r1; omega
          · exact fr κ D α ix p l e R s m args below meth c mi t (pc + 3) L (vD (UInt64.ofBitVec d) :: r1) σ r H locs cells slots ls Q C1 hf hlo hc hs ER ET EX hl hW hS h
        rw [if_neg q1] at hex
        by_cases q2 : x = 1002
        · rw [if_pos q2] at hex
          subst q2
          obtain ⟨v, r1, rfl, h⟩ := eP_some hex
          obtain ⟨v2, r2, rfl, h⟩ := eP_some h
          obtain ⟨b, rfl, h⟩ := eL_some h
          obtain ⟨a, rfl, h⟩ := eL_some h
          obtain ⟨h8, h⟩ := if_some h
          have hok0 : (inLNa (mC mi) i9 1002 && (decide (2 ≤ mFr mi) && decide (23 ≤ mLo mi))) = true := hok0
          simp only [Bool.and_eq_true, decide_eq_true_eq] at hok0
          have hw := nat_words hC.words (args := args)
          rw [hn9] at hdc
          refine va_mmin_long hx hb (by rw [hml]; exact hl.1.symm) hown (hC.words _ (inLNa_ok hok0.1)) hw.2.2.2.2.2.1 hw.2.2.2.2.2.2.2 hw.2.2.2.2.2.2.1 (by omega) ?_ hcr hsr hdc ?_
          · have := wt_sum α r2; omega
          · have k1 := fr κ D α ix p l e R s m args below meth c mi t (pc + 3) L (vL (lMin a b) :: r2) σ r H locs cells slots ls Q C1 hf hlo hc hs ER ET EX hl hW hS h
            have e9 : (if Int64.ofBitVec b < Int64.ofBitVec a then Int64.ofBitVec b else Int64.ofBitVec a) = Int64.ofBitVec (lMin a b) := by
              unfold lMin
              by_cases q : b.slt a = true
              · rw [if_pos q, if_pos (show Int64.ofBitVec b < Int64.ofBitVec a from q)]
              · rw [if_neg q, if_neg (show ¬ Int64.ofBitVec b < Int64.ofBitVec a from q)]
            rw [e9]; exact k1
        rw [if_neg q2] at hex
        have hx9 : Nat.ble 1000 x = false := by
          cases h9 : Nat.ble 1000 x with
          | false => rfl
          | true =>
            exfalso
            rw [h9, if_pos rfl] at hok0
            have h7 := (Bool.and_eq_true _ _ |>.mp hok0).1
            have : LNa.all (fun e => decide (e.2.2.1 = 1000 ∨ e.2.2.1 = 1001 ∨ e.2.2.1 = 1002)) = true := by decide +kernel
            obtain ⟨e9, he9, h6⟩ := List.any_eq_true.mp h7
            have h5 := of_decide_eq_true (List.all_eq_true.mp this e9 he9)
            simp only [Bool.and_eq_true] at h6
            have := Nat.eq_of_beq_eq_true h6.2.2
            omega
        rw [hx9, if_neg (by decide)] at hok0
        obtain ⟨⟨h1, h2, h3, h4⟩, h⟩ := bcall_some hex
        have hoc : okC mi (x, y, w, z) = true := (Bool.and_eq_true _ _ |>.mp hok0).1
        have hbu := bu_eq hoc
        dsimp only at hbu
        rw [hbu] at h h4
        cases hcl : ex k (mBu x) x 0 (entry (mL x) (st.take y).reverse) [] σ with
        | none => rw [hcl] at h; cases h
        | some rr =>
          rw [hcl] at h
          have hM := fun hx6 => met_of fr κ D α ix l x (st.take y).reverse σ rr H.size hlt hSF hx6 (by rw [wt_rev]; exact h3) hcl
          have hx6 : x < 215 := by
            have h5 := (Bool.and_eq_true _ _ |>.mp (show (inLW x && _) = true from hoc)).1
            have : LW.all (fun e => decide (e.1 < 215)) = true := by decide +kernel
            obtain ⟨e9, he9, h6⟩ := List.any_eq_true.mp h5
            have h7 := of_decide_eq_true (List.all_eq_true.mp this e9 he9)
            have := Nat.eq_of_beq_eq_true h6
            omega
          exact go_call fr C1 hf hlo h4 hc hs ER ET EX hl hW hS (run_S C1 hf hlo hcd ⟨h1, h2, h3⟩ hl.1 ⟨by omega, by omega⟩ hW hS (hM hx6) hok0) h
      case invokevirtual i9 hx9 =>
        obtain ⟨hrv, hex⟩ := if_some hex
        dsimp only at hrv
        obtain ⟨⟨h1, h2, h3, h4⟩, h⟩ := bcall_some hex
        obtain ⟨-, -, hok⟩ := cd_dec hm hcd
        have hoc : okC mi (x, y, w, z) = true := by
          have hok : (okC mi (x, y, w, z) && _) = true := hok
          exact (Bool.and_eq_true _ _ |>.mp hok).1
        have hbu := bu_eq hoc
        dsimp only at hbu
        rw [hbu] at h h4
        cases hcl : ex k (mBu x) x 0 (entry (mL x) (st.take y).reverse) [] σ with
        | none => rw [hcl] at h; cases h
        | some rr =>
          rw [hcl] at h
          have hM := fun hx6 => met_of fr κ D α ix l x (st.take y).reverse σ rr H.size hlt hSF hx6 (by rw [wt_rev]; exact h3) hcl
          have hx6 : x < 215 := by
            have h5 := (Bool.and_eq_true _ _ |>.mp (show (inLW x && _) = true from hoc)).1
            have : LW.all (fun e => decide (e.1 < 215)) = true := by decide +kernel
            obtain ⟨e9, he9, h6⟩ := List.any_eq_true.mp h5
            have h7 := of_decide_eq_true (List.all_eq_true.mp this e9 he9)
            have := Nat.eq_of_beq_eq_true h6
            omega
          exact go_call fr C1 hf hlo h4 hc hs ER ET EX hl hW hS (run_V C1 hf hlo hcd hrv ⟨h1, h2, h3⟩ hl.1 ⟨by omega, by omega⟩ hW hS (hM hx6)) h
theorem frame_zero : FRAME 0 := by
  unfold FRAME
  intros
  rename_i h
  cases h
theorem frame_all : ∀ n, FRAME n
  | 0 => frame_zero
  | n + 1 => frame_succ (frame_all n)
