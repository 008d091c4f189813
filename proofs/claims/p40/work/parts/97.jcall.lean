/-! the outer walk: what is made, copies, calls -/
theorem arrJ {ty : FieldType} {cA : ClassId} {s : State} {args : Array Value} (h1 : ArrOfT s cA ty) (h2 : s.vm.findClass ("[" ++ ty.toString) = some cA) : (Cond.arrayClass ty).before args s = true := by
  obtain ⟨k, hk, comp, hkind⟩ := (h1 0 (fun _ => .null)).2
  have hk : s.vm.classes[cA]? = some k := hk
  simp [Cond.before, Cond.holds, Cond.value, h2, hk, hkind]
def dSB : List Value := [.null, .int 0, .int 0, .int 0]
theorem dSB_9 : ∀ j, j < 4 → defaultValue (tSB j) = vp_V dSB j := fun j hj => by
  rcases (show j = 0 ∨ j = 1 ∨ j = 2 ∨ j = 3 by omega) with e | e | e | e <;> subst e <;> rfl
theorem dSB_10 : ∀ j, j < 4 → defaultValue (tST j) = vp_V dSB j := fun j hj => by
  rcases (show j = 0 ∨ j = 1 ∨ j = 2 ∨ j = 3 by omega) with e | e | e | e <;> subst e <;> rfl
section JC
variable {Γ : JG} {μ ν : MD} {pc : Nat} {L : Lo} {st : List AV} {w : va_W} {t : Nat} {Q : JQ}
theorem nn0 {n : Int} (h : 0 ≤ n ∧ n ≤ 1000) : ¬ Int32.ofInt n < 0 := fun k => by
  have := (n_lt (a := n) (b := 0) ⟨by omega, by omega⟩ ⟨by omega, by omega⟩).mp k
  omega
theorem j_newB {n : Int} (d : decode μ.2.1 pc = .ok (.newarray .byte, 2)) (h0 : 0 ≤ n ∧ n ≤ 1000) (ht : 1 + n.toNat ≤ t) (kk : ∀ q, J Γ μ (pc + 2) L (vR q :: st) (w ++ [(q, .inl (Γ.2.1 2, n.toNat, .inl (fun _ => 0)))]) (t - (1 + n.toNat)) Q) : J Γ μ pc L (vI n :: st) w t Q := by
  intro p e R s m args below meth c H locs cells slots ls Qs B E hc hs hl hP hD hS
  have h2 := B.kj.2 2 _ rfl
  refine va_newa (atype := .byte) (ty := .byte) (a0 := (n.toNat, .inl (fun _ => 0))) B.1 B.2.1 (arrJ h2.1 h2.2) rfl B.kj hP hD hS B.lo (fun _ => rfl) (nn0 h0) (n_nat h0.1 (by omega)) (by show n.toNat * 1 ≤ 536870912; omega) (by omega) (by omega) d (fun q cA H1 hK1 hP1 hD1 hS1 => ?_)
  have e9 : cA = Γ.2.1 2 := by
    have h3 := (hK1.2 5 _ rfl).2
    exact Option.some.inj (Eq.trans (Eq.symm (show s.vm.findClass ("[" ++ FieldType.byte.toString) = some cA from h3)) h2.2)
  subst e9
  exact kk q p e R s m args below meth c H1 locs (cells + 1) (slots + n.toNat) ls Qs B E (by omega) (by omega) hl hP1 hD1 hS1
theorem j_newI {n : Int} (d : decode μ.2.1 pc = .ok (.newarray .int, 2)) (h0 : 0 ≤ n ∧ n ≤ 1000) (ht : 1 + n.toNat ≤ t) (kk : ∀ q, J Γ μ (pc + 2) L (vR q :: st) (w ++ [(q, .inl (Γ.2.1 0, n.toNat, .inl (fun _ => 0)))]) (t - (1 + n.toNat)) Q) : J Γ μ pc L (vI n :: st) w t Q := by
  intro p e R s m args below meth c H locs cells slots ls Qs B E hc hs hl hP hD hS
  have h2 := B.kj.2 0 _ rfl
  refine va_newa (atype := .int) (ty := .int) (a0 := (n.toNat, .inl (fun _ => 0))) B.1 B.2.1 (arrJ h2.1 h2.2) rfl B.kj hP hD hS B.lo (fun _ => rfl) (nn0 h0) (n_nat h0.1 (by omega)) (by show n.toNat * 4 ≤ 536870912; omega) (by omega) (by omega) d (fun q cA H1 hK1 hP1 hD1 hS1 => ?_)
  have e9 : cA = Γ.2.1 0 := by
    have h3 := (hK1.2 5 _ rfl).2
    exact Option.some.inj (Eq.trans (Eq.symm (show s.vm.findClass ("[" ++ FieldType.int.toString) = some cA from h3)) h2.2)
  subst e9
  exact kk q p e R s m args below meth c H1 locs (cells + 1) (slots + n.toNat) ls Qs B E (by omega) (by omega) hl hP1 hD1 hS1
theorem j_newL {n : Int} (d : decode μ.2.1 pc = .ok (.newarray .long, 2)) (h0 : 0 ≤ n ∧ n ≤ 1000) (ht : 1 + n.toNat ≤ t) (kk : ∀ q, J Γ μ (pc + 2) L (vR q :: st) (w ++ [(q, .inl (Γ.2.1 1, n.toNat, .inr (.inl (fun _ => 0))))]) (t - (1 + n.toNat)) Q) : J Γ μ pc L (vI n :: st) w t Q := by
  intro p e R s m args below meth c H locs cells slots ls Qs B E hc hs hl hP hD hS
  have h2 := B.kj.2 1 _ rfl
  refine va_newa (atype := .long) (ty := .long) (a0 := (n.toNat, .inr (.inl (fun _ => 0)))) B.1 B.2.1 (arrJ h2.1 h2.2) rfl B.kj hP hD hS B.lo (fun _ => rfl) (nn0 h0) (n_nat h0.1 (by omega)) (by show n.toNat * 8 ≤ 536870912; omega) (by omega) (by omega) d (fun q cA H1 hK1 hP1 hD1 hS1 => ?_)
  have e9 : cA = Γ.2.1 1 := by
    have h3 := (hK1.2 5 _ rfl).2
    exact Option.some.inj (Eq.trans (Eq.symm (show s.vm.findClass ("[" ++ FieldType.long.toString) = some cA from h3)) h2.2)
  subst e9
  exact kk q p e R s m args below meth c H1 locs (cells + 1) (slots + n.toNat) ls Qs B E (by omega) (by omega) hl hP1 hD1 hS1
theorem j_new9 {idx : Nat} (d : decode μ.2.1 pc = .ok (.new idx, 3)) (h1 : Cond.classLink μ.1.cls idx nSB ∈ TS) (h2 : Cond.instantiable nSB 4 ∈ TS) (h3 : Cond.initialized nSB ∈ TS) (ht : 1 ≤ t) (kk : ∀ q, J Γ μ (pc + 3) L (vR q :: st) (w ++ [(q, .inr (9, dSB))]) (t - 1) Q) : J Γ μ pc L st w t Q := by
  intro p e R s m args below meth c H locs cells slots ls Qs B E hc hs hl hP hD hS
  exact va_new B.1 B.2.1 B.wd uSB_in tSB tSB_ok B.2.2.2.1 (B.wd _ h1) (B.wd _ h2) (B.wd _ h3) B.kj hP hD hS B.lo clB_9 dSB_9 (by omega) (by omega) d (fun q H1 hP1 hD1 hS1 => kk q p e R s m args below meth c H1 locs (cells + 1) (slots + 4) ls Qs B E (by omega) (by omega) hl hP1 hD1 hS1)
theorem j_new10 {idx : Nat} (d : decode μ.2.1 pc = .ok (.new idx, 3)) (h1 : Cond.classLink μ.1.cls idx nST ∈ TS) (h2 : Cond.instantiable nST 4 ∈ TS) (h3 : Cond.initialized nST ∈ TS) (ht : 1 ≤ t) (kk : ∀ q, J Γ μ (pc + 3) L (vR q :: st) (w ++ [(q, .inr (10, dSB))]) (t - 1) Q) : J Γ μ pc L st w t Q := by
  intro p e R s m args below meth c H locs cells slots ls Qs B E hc hs hl hP hD hS
  exact va_new B.1 B.2.1 B.wd uST_in tST tST_ok B.2.2.2.1 (B.wd _ h1) (B.wd _ h2) (B.wd _ h3) B.kj hP hD hS B.lo clB_10 dSB_10 (by omega) (by omega) d (fun q H1 hP1 hD1 hS1 => kk q p e R s m args below meth c H1 locs (cells + 1) (slots + 4) ls Qs B E (by omega) (by omega) hl hP1 hD1 hS1)
/-- bytes copied -/
theorem j_copy {idx b n0 i1 a n1 : Nat} {f g : Nat → Int32} {sp dp n : Int} (d : decode μ.2.1 pc = .ok (.invokestatic idx, 3)) (hw : Cond.methodLink μ.1.cls idx arraycopyName ∈ TS ∧ Cond.native arraycopyName ∈ TS ∧ Cond.static arraycopyName ∈ TS ∧ Cond.initialized "java/lang/System" ∈ TS) (hb : BV Γ w b n0 f) (ha : w[i1]? = some (a, .inl (Γ.2.1 2, n1, .inl g))) (h1 : 0 ≤ sp ∧ sp ≤ 1000) (h2 : 0 ≤ dp ∧ dp ≤ 1000) (h3 : 0 ≤ n ∧ n ≤ 1000) (h4 : sp + n ≤ n0) (h5 : dp + n ≤ n1) (hf : ∀ i : Nat, (i : Int) < n → fits .byte (.int (f (sp.toNat + i))) = true) (hfr : 1 ≤ μ.2.2.2.2.1) (hlo : wt st + (nativeFrameWords "java/lang/System" "arraycopy" 5 + 11) ≤ μ.2.2.2.2.2)
    (kk : J Γ μ (pc + 3) L st (w.set i1 (a, .inl (Γ.2.1 2, n1, .inl (va_cpy f g sp.toNat dp.toNat n.toNat)))) t Q) : J Γ μ pc L (vI n :: vI dp :: vR a :: vI sp :: vR b :: st) w t Q := by
  intro p e R s m args below meth c H locs cells slots ls Qs B E hc hs hl hP hD hS
  have e1 := n_nat h1.1 (show sp < 2147483648 by omega)
  have e2 := n_nat h2.1 (show dp < 2147483648 by omega)
  have e3 := n_nat h3.1 (show n < 2147483648 by omega)
  have hfr2 := B.2.2.2.2.2.2.2.2.2.1
  have hlo2 := B.2.2.2.2.2.2.2.2.2.2
  have hml : c.maxLocals = ls.size := B.2.2.1.trans hl.1.symm
  have hrest : ((st.map (cv id)).map fun v => v.category).sum + (nativeFrameWords "java/lang/System" "arraycopy" 5 + 11) ≤ R.locals := by
    rw [wt_sum]; exact Nat.le_trans hlo hlo2
  rcases hb with ⟨j, hb⟩ | hb
  · refine va_copyi B.1 B.2.1 hml B.2.2.2.1 (B.wd _ hw.1) (B.wd _ hw.2.1) (B.wd _ hw.2.2.1) (B.wd _ hw.2.2.2) B.kj hP hD hS j i1 2 2 hb ha rfl rfl rfl (nn0 h1) (nn0 h2) (nn0 h3) (by rw [e1, e3]; omega) (by rw [e2, e3]; omega) (fun i hi => by rw [e3] at hi; rw [e1]; exact hf i (by omega)) (Nat.le_trans hfr hfr2) hrest d (fun H1 locs1 g1 g2 g3 => ?_)
    rw [e1, e2, e3] at g1 g2
    exact kk p e R s m args below meth c H1 locs1 cells slots ls Qs B E hc hs hl g1 g2 g3
  · refine vk_copyt B.1 B.2.1 hml B.2.2.2.1 (B.wd _ hw.1) (B.wd _ hw.2.1) (B.wd _ hw.2.2.1) (B.wd _ hw.2.2.2) B.kj hP hD hS (B.hj.cb hb) i1 2 ha rfl (nn0 h1) (nn0 h2) (nn0 h3) (by rw [e1, e3]; omega) (by rw [e2, e3]; omega) (fun i hi => by rw [e3] at hi; rw [e1]; exact hf i (by omega)) (Nat.le_trans hfr hfr2) hrest d (fun H1 locs1 g1 g2 g3 => ?_)
    rw [e1, e2, e3] at g1 g2
    exact kk p e R s m args below meth c H1 locs1 cells slots ls Qs B E hc hs hl g1 g2 g3
/-- Math.min, Math.max of ints -/
theorem j_mmin {idx : Nat} {a b : Int} (d : decode μ.2.1 pc = .ok (.invokestatic idx, 3)) (hw : Cond.methodLink μ.1.cls idx Lib.Math.min.name ∈ TS ∧ Cond.static Lib.Math.min.name ∈ TS ∧ Cond.initialized "java/lang/Math" ∈ TS ∧ Cond.code Lib.Math.min.name Lib.Math.min.code 2 (some .int) ∈ TS) (ha : inR a) (hb : inR b) (hfr : 1 ≤ μ.2.2.2.2.1) (hlo : wt st + 13 ≤ μ.2.2.2.2.2) (kk : J Γ μ (pc + 3) L (vI (if b < a then b else a) :: st) w t Q) : J Γ μ pc L (vI b :: vI a :: st) w t Q := by
  intro p e R s m args below meth c H locs cells slots ls Qs B E hc hs hl hP hD hS
  have hrest : ((st.map (cv id)).map fun v => v.category).sum + 13 ≤ R.locals := by
    rw [wt_sum]; exact Nat.le_trans hlo B.2.2.2.2.2.2.2.2.2.2
  refine va_mmin B.1 B.2.1 (B.2.2.1.trans hl.1.symm) B.2.2.2.1 (B.wd _ hw.1) (B.wd _ hw.2.1) (B.wd _ hw.2.2.1) (B.wd _ hw.2.2.2) (Nat.le_trans hfr B.2.2.2.2.2.2.2.2.2.1) hrest (by omega) (by omega) d ?_
  have k1 := kk p e R s m args below meth c H locs cells slots ls Qs B E hc hs hl hP hD hS
  have e1 := n_lt hb ha
  by_cases q : b < a
  · rw [if_pos q] at k1; rw [if_pos (e1.mpr q)]; exact k1
  · rw [if_neg q] at k1; rw [if_neg (fun k => q (e1.mp k))]; exact k1
theorem j_mmax {idx : Nat} {a b : Int} (d : decode μ.2.1 pc = .ok (.invokestatic idx, 3)) (hw : Cond.methodLink μ.1.cls idx Lib.Math.max.name ∈ TS ∧ Cond.static Lib.Math.max.name ∈ TS ∧ Cond.initialized "java/lang/Math" ∈ TS ∧ Cond.code Lib.Math.max.name Lib.Math.max.code 2 (some .int) ∈ TS) (ha : inR a) (hb : inR b) (hfr : 1 ≤ μ.2.2.2.2.1) (hlo : wt st + 13 ≤ μ.2.2.2.2.2) (kk : J Γ μ (pc + 3) L (vI (if a < b then b else a) :: st) w t Q) : J Γ μ pc L (vI b :: vI a :: st) w t Q := by
  intro p e R s m args below meth c H locs cells slots ls Qs B E hc hs hl hP hD hS
  have hrest : ((st.map (cv id)).map fun v => v.category).sum + 13 ≤ R.locals := by
    rw [wt_sum]; exact Nat.le_trans hlo B.2.2.2.2.2.2.2.2.2.2
  refine va_mmax B.1 B.2.1 (B.2.2.1.trans hl.1.symm) B.2.2.2.1 (B.wd _ hw.1) (B.wd _ hw.2.1) (B.wd _ hw.2.2.1) (B.wd _ hw.2.2.2) (Nat.le_trans hfr B.2.2.2.2.2.2.2.2.2.1) hrest (by omega) (by omega) d ?_
  have k1 := kk p e R s m args below meth c H locs cells slots ls Qs B E hc hs hl hP hD hS
  have e1 := n_lt ha hb
  by_cases q : a < b
  · rw [if_pos q] at k1; rw [if_pos (e1.mpr q)]; exact k1
  · rw [if_neg q] at k1; rw [if_neg (fun k => q (e1.mp k))]; exact k1
/-- statics -/
theorem j_gsC {idx : Nat} (d : decode μ.2.1 pc = .ok (.getstatic idx, 3)) (hlink : Cond.fieldLink μ.1.cls idx "java/lang/String" "COMPACT_STRINGS" "Z" ∈ TS) (kk : J Γ μ (pc + 3) L (vI 1 :: st) w t Q) : J Γ μ pc L st w t Q := by
  intro p e R s m args below meth c H locs cells slots ls Qs B E hc hs hl hP hD hS
  exact va_gets B.1 B.2.1 B.hj.2.2.2.1 hS B.2.2.2.1 (B.wd _ hlink) (fun x h => h) d (kk p e R s m args below meth c H locs cells slots ls Qs B E hc hs hl hP hD hS)
theorem j_gsD {idx : Nat} (d : decode μ.2.1 pc = .ok (.getstatic idx, 3)) (hlink : Cond.fieldLink μ.1.cls idx "java/lang/Integer" "DigitOnes" "[B" ∈ TS) (kk : J Γ μ (pc + 3) L (vR Γ.2.2.2.1.2.2 :: st) w t Q) : J Γ μ pc L st w t Q := by
  intro p e R s m args below meth c H locs cells slots ls Qs B E hc hs hl hP hD hS
  exact va_gets B.1 B.2.1 B.hj.2.2.2.2.2.1 hS B.2.2.2.1 (B.wd _ hlink) (fun x h => h) d (kk p e R s m args below meth c H locs cells slots ls Qs B E hc hs hl hP hD hS)
end JC
