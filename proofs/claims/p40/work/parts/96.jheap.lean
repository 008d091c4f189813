/-! the outer walk: objects, arrays, statics -/
theorem fSB_1 (k : Nat) : (fSB k).1 = "java/lang/AbstractStringBuilder" := by
  unfold fSB; split <;> rfl
theorem fST_1 (k : Nat) : (fST k).1 = "java/lang/String" := by
  unfold fST; split <;> rfl
theorem uSB_l : u_ws nSB fSB 4 = [722, 724, 726, 728].filterMap (fun i => lw_tbl[i]?) := by decide +kernel
theorem uST_l : u_ws nST fST 4 = [527, 529, 930, 932].filterMap (fun i => lw_tbl[i]?) := by decide +kernel
theorem uSB_in : ∀ w ∈ u_ws nSB fSB 4, w ∈ TS := u_in_of uSB_l (by decide +kernel)
theorem uST_in : ∀ w ∈ u_ws nST fST 4, w ∈ TS := u_in_of uST_l (by decide +kernel)
section JH
variable {Γ : JG} {μ : MD} {pc : Nat} {L : Lo} {st : List AV} {w : va_W} {t : Nat} {Q : JQ}
theorem BJ.wd {p : Program} {R : Room} {s : State} {m : MethodId} {meth : Method} {c : Code} {args : Array Value} (B : BJ Γ μ p R s m meth c) : ∀ v ∈ TS, v.before args s = true := B.2.2.2.2.2.2.1.1.words
theorem BJ.kj {p : Program} {R : Room} {s : State} {m : MethodId} {meth : Method} {c : Code} (B : BJ Γ μ p R s m meth c) : va_K Γ.2.2.1 clB (tyB Γ.2.1) s := B.2.2.2.2.2.2.1.2.1
theorem BJ.hj {p : Program} {R : Room} {s : State} {m : MethodId} {meth : Method} {c : Code} (B : BJ Γ μ p R s m meth c) : HJ Γ s := B.2.2.2.2.2.2.2.1
theorem BJ.lo {p : Program} {R : Room} {s : State} {m : MethodId} {meth : Method} {c : Code} (B : BJ Γ μ p R s m meth c) : ∀ q, s.heap.size ≤ q → AJ Γ.2.2.2.2 q := fun q hq => Nat.le_trans B.2.2.2.2.2.2.2.2.1 hq
/-- a StringBuilder's field -/
theorem j_get9 {idx r i k : Nat} {fs : List Value} {v : AV} (d : decode μ.2.1 pc = .ok (.getfield idx, 3)) (hk : k < 4) (hlink : Cond.fieldLink μ.1.cls idx "java/lang/AbstractStringBuilder" (fSB k).2.1 (fSB k).2.2.1 ∈ TS) (he : w[i]? = some (r, Sum.inr (9, fs))) (hv : fs[k]? = some (cv id v)) (kk : J Γ μ (pc + 3) L (v :: st) w t Q) : J Γ μ pc L (vR r :: st) w t Q := by
  intro p e R s m args below meth c H locs cells slots ls Qs B E hc hs hl hP hD hS
  exact va_get B.1 B.2.1 B.wd uSB_in B.2.2.2.1 B.kj hP i he clB_9 k hk (B.wd _ hlink) (fun x h => by rw [fSB_1 k] at h; exact h) hv d (kk p e R s m args below meth c H locs cells slots ls Qs B E hc hs hl hP hD hS)
theorem j_put9 {idx r i k : Nat} {fs : List Value} {v : AV} (d : decode μ.2.1 pc = .ok (.putfield idx, 3)) (hk : k < 4) (hlink : Cond.fieldLink μ.1.cls idx "java/lang/AbstractStringBuilder" (fSB k).2.1 (fSB k).2.2.1 ∈ TS) (he : w[i]? = some (r, Sum.inr (9, fs))) (hl4 : fs.length = 4) (hn : narrow (tSB k) (cv id v) = cv id v) (hf : fits (tSB k) (cv id v) = true) (kk : J Γ μ (pc + 3) L st (w.set i (r, Sum.inr (9, fs.set k (cv id v)))) t Q) : J Γ μ pc L (v :: vR r :: st) w t Q := by
  intro p e R s m args below meth c H locs cells slots ls Qs B E hc hs hl hP hD hS
  have hfin : (fSB k).2.2.2 = false := by unfold fSB; split <;> rfl
  exact va_put (ty := tSB k) B.1 B.2.1 B.wd uSB_in tSB tSB_ok fSB_nm B.2.2.2.1 B.kj hP hD hS i he clB_9 k hk (B.wd _ hlink) (fun x h => by rw [fSB_1 k] at h; exact h) hfin (tSB_ok k hk) hn hf (by omega) d (fun H1 locs1 h1 h2 h3 => kk p e R s m args below meth c H1 locs1 cells slots ls Qs B E hc hs hl h1 h2 h3)
/-- a String's final field, under construction -/
theorem j_put10 {idx r i k : Nat} {fs : List Value} {v : AV} (d : decode μ.2.1 pc = .ok (.putfield idx, 3)) (hk : k < 2) (hy : μ.1.cls = "java/lang/String" ∧ μ.1.name = "<init>") (hlink : Cond.fieldLink "java/lang/String" idx "java/lang/String" (fST k).2.1 (fST k).2.2.1 ∈ TS) (he : w[i]? = some (r, Sum.inr (10, fs))) (hl4 : fs.length = 4) (hn : narrow (tST k) (cv id v) = cv id v) (hf : fits (tST k) (cv id v) = true) (kk : J Γ μ (pc + 3) L st (w.set i (r, Sum.inr (10, fs.set k (cv id v)))) t Q) : J Γ μ pc L (v :: vR r :: st) w t Q := by
  intro p e R s m args below meth c H locs cells slots ls Qs B E hc hs hl hP hD hS
  have ho := B.2.2.2.1
  rw [hy.1] at ho
  have hfin : (fST k).2.2.2 = true := by
    rcases (show k = 0 ∨ k = 1 by omega) with e | e <;> subst e <;> rfl
  exact va_putF (ty := tST k) B.1 B.2.1 B.wd uST_in tST tST_ok fST_nm ho B.kj hP hD hS i he clB_10 k (by omega) (B.wd _ hlink) (fun x h => by rw [fST_1 k] at h; exact h) hfin (B.2.2.2.2.2.1.trans hy.2) (fST_1 k) (tST_ok k (by omega)) hn hf (by omega) d (fun H1 locs1 h1 h2 h3 => kk p e R s m args below meth c H1 locs1 cells slots ls Qs B E hc hs hl h1 h2 h3)
/-- bytes, made or constant; Strings, made or constant -/
def CB (Γ : JG) (b n : Nat) (f : Nat → Int32) : Prop := (∃ i, i < 12 ∧ b = Γ.2.2.2.1.2.1 i ∧ n = kl.getD i 0 ∧ f = fun j => (kb.getD i []).getD j 0) ∨ (b = Γ.2.2.2.1.2.2 ∧ n = 100 ∧ f = dOne)
theorem HJ.cb {s : State} {b n : Nat} {f : Nat → Int32} (h : HJ Γ s) (k : CB Γ b n f) : va_T .byte b n (fun j => .int (f j)) (AJ Γ.2.2.2.2) s s.heap := by
  rcases k with ⟨i, h1, rfl, rfl, rfl⟩ | ⟨rfl, rfl, rfl⟩
  · exact (h.2.1.1 i h1).2.2.2
  · exact h.2.2.2.2.2.2.1
def BV (Γ : JG) (w : va_W) (b n : Nat) (f : Nat → Int32) : Prop := (∃ j : Nat, w[j]? = some ((b, .inl (Γ.2.1 2, (n, .inl f))) : Nat × va_E)) ∨ CB Γ b n f
def SSV (Γ : JG) (w : va_W) (r b n : Nat) (f : Nat → Int32) : Prop := (∃ (i j : Nat) (x y : Value), w[i]? = some ((r, .inr (10, [.ref b, .int 0, x, y])) : Nat × va_E) ∧ w[j]? = some ((b, .inl (Γ.2.1 2, (n, .inl f))) : Nat × va_E)) ∨ (∃ i, i < 12 ∧ r = Γ.2.2.2.1.1 i ∧ b = Γ.2.2.2.1.2.1 i ∧ n = kl.getD i 0 ∧ f = fun j => (kb.getD i []).getD j 0)
theorem SSV.bv {r b n : Nat} {f : Nat → Int32} (h : SSV Γ w r b n f) : BV Γ w b n f := by
  rcases h with ⟨i, j, x, y, h1, h2⟩ | ⟨i, h1, h2, h3⟩
  · exact Or.inl ⟨j, h2⟩
  · exact Or.inr (Or.inl ⟨i, h1, h3⟩)
theorem j_sval {idx r b n : Nat} {f : Nat → Int32} (d : decode μ.2.1 pc = .ok (.getfield idx, 3)) (hlink : Cond.fieldLink μ.1.cls idx "java/lang/String" "value" "[B" ∈ TS) (h : SSV Γ w r b n f) (kk : J Γ μ (pc + 3) L (vR b :: st) w t Q) : J Γ μ pc L (vR r :: st) w t Q := by
  intro p e R s m args below meth c H locs cells slots ls Qs B E hc hs hl hP hD hS
  have k1 := kk p e R s m args below meth c H locs cells slots ls Qs B E hc hs hl hP hD hS
  rcases h with ⟨i, j, x, y, h1, h2⟩ | ⟨i, h1, rfl, rfl, h3⟩
  · exact va_get (v := .ref b) B.1 B.2.1 B.wd uST_in B.2.2.2.1 B.kj hP i h1 clB_10 0 (by decide) (B.wd _ hlink) (fun x h => h) rfl d k1
  · exact vk_getf (o := "java/lang/String") B.1 B.2.1 (B.hj.2.1.1 i h1).2.2.1 hS B.2.2.2.1 (B.wd _ hlink) (fun x h => h) d k1
theorem j_scod {idx r b n : Nat} {f : Nat → Int32} (d : decode μ.2.1 pc = .ok (.getfield idx, 3)) (hlink : Cond.fieldLink μ.1.cls idx "java/lang/String" "coder" "B" ∈ TS) (h : SSV Γ w r b n f) (kk : J Γ μ (pc + 3) L (vI 0 :: st) w t Q) : J Γ μ pc L (vR r :: st) w t Q := by
  intro p e R s m args below meth c H locs cells slots ls Qs B E hc hs hl hP hD hS
  have k1 := kk p e R s m args below meth c H locs cells slots ls Qs B E hc hs hl hP hD hS
  rcases h with ⟨i, j, x, y, h1, h2⟩ | ⟨i, h1, rfl, rfl, h3⟩
  · exact va_get (v := .int 0) B.1 B.2.1 B.wd uST_in B.2.2.2.1 B.kj hP i h1 clB_10 1 (by decide) (B.wd _ hlink) (fun x h => h) rfl d k1
  · exact vk_getf (o := "java/lang/String") B.1 B.2.1 (B.hj.2.1.1 i h1).2.1 hS B.2.2.2.1 (B.wd _ hlink) (fun x h => h) d k1
/-- lengths -/
theorem oN (n : Nat) : Int32.ofNat n = Int32.ofInt (n : Int) := (Int32.ofInt_eq_ofNat (n := n)).symm
theorem j_alen {i y a : Nat} {cA : ClassId} {x : vp_A} {ty : FieldType} (d : decode μ.2.1 pc = .ok (.arraylength, 1)) (he : w[i]? = some (a, .inl (cA, x))) (ht : (tyB Γ.2.1)[y]? = some (cA, ty)) (kk : J Γ μ (pc + 1) L (vI x.1 :: st) w t Q) : J Γ μ pc L (vR a :: st) w t Q := by
  intro p e R s m args below meth c H locs cells slots ls Qs B E hc hs hl hP hD hS
  exact va_alen (v := Int32.ofInt x.1) B.1 B.2.1 B.kj hP i y he ht (oN _) d (kk p e R s m args below meth c H locs cells slots ls Qs B E hc hs hl hP hD hS)
theorem j_blen {b n : Nat} {f : Nat → Int32} (d : decode μ.2.1 pc = .ok (.arraylength, 1)) (h : BV Γ w b n f) (kk : J Γ μ (pc + 1) L (vI n :: st) w t Q) : J Γ μ pc L (vR b :: st) w t Q := by
  rcases h with ⟨j, h⟩ | h1
  · exact j_alen (x := (n, Sum.inl f)) (y := 2) d h rfl kk
  · intro p e R s m args below meth c H locs cells slots ls Qs B E hc hs hl hP hD hS
    exact va_tlen (v := Int32.ofInt (n : Int)) B.1 B.2.1 (B.hj.cb h1) hS (oN _) d (kk p e R s m args below meth c H locs cells slots ls Qs B E hc hs hl hP hD hS)
/-- elements -/
theorem j_bald {b n : Nat} {f : Nat → Int32} {z v : Int} (d : decode μ.2.1 pc = .ok (.baload, 1)) (h : BV Γ w b n f) (h0 : 0 ≤ z ∧ z < n) (hn : n < 2147483648) (hv : f z.toNat = Int32.ofInt v) (kk : J Γ μ (pc + 1) L (vI v :: st) w t Q) : J Γ μ pc L (vI z :: vR b :: st) w t Q := by
  intro p e R s m args below meth c H locs cells slots ls Qs B E hc hs hl hP hD hS
  have k1 := kk p e R s m args below meth c H locs cells slots ls Qs B E hc hs hl hP hD hS
  simp only [List.map_cons, cv_vI] at k1 ⊢
  rw [← hv] at k1
  rcases h with ⟨j, h⟩ | h1
  · refine va_bald B.1 B.2.1 B.kj hP j 2 h rfl (n_in h0.1 h0.2 hn) d ?_
    rw [n_nat h0.1 (by omega)]
    exact k1
  · refine va_tb (v := .int (f z.toNat)) B.1 B.2.1 (B.hj.cb h1) hS (n_in h0.1 h0.2 hn) ?_ d k1
    rw [n_nat h0.1 (by omega)]
theorem j_iald {i a n : Nat} {f : Nat → Int32} {z v : Int} (d : decode μ.2.1 pc = .ok (.iaload, 1)) (h : w[i]? = some (a, .inl (Γ.2.1 0, n, Sum.inl f))) (h0 : 0 ≤ z ∧ z < n) (hn : n < 2147483648) (hv : f z.toNat = Int32.ofInt v) (kk : J Γ μ (pc + 1) L (vI v :: st) w t Q) : J Γ μ pc L (vI z :: vR a :: st) w t Q := by
  intro p e R s m args below meth c H locs cells slots ls Qs B E hc hs hl hP hD hS
  have k1 := kk p e R s m args below meth c H locs cells slots ls Qs B E hc hs hl hP hD hS
  simp only [List.map_cons, cv_vI] at k1 ⊢
  rw [← hv] at k1
  refine va_iald B.1 B.2.1 B.kj hP i 0 h rfl (n_in h0.1 h0.2 hn) d ?_
  rw [n_nat h0.1 (by omega)]
  exact k1
theorem j_iast {i a n : Nat} {f : Nat → Int32} {z v : Int} (d : decode μ.2.1 pc = .ok (.iastore, 1)) (h : w[i]? = some (a, .inl (Γ.2.1 0, n, Sum.inl f))) (h0 : 0 ≤ z ∧ z < n) (hn : n < 2147483648) (kk : J Γ μ (pc + 1) L st (w.set i (a, .inl (Γ.2.1 0, n, .inl (upd f z.toNat (Int32.ofInt v))))) t Q) : J Γ μ pc L (vI v :: vI z :: vR a :: st) w t Q := by
  intro p e R s m args below meth c H locs cells slots ls Qs B E hc hs hl hP hD hS
  refine va_iast B.1 B.2.1 B.kj hP hD hS i 0 h rfl (n_in h0.1 h0.2 hn) d (fun H1 locs1 h1 h2 h3 => ?_)
  rw [n_nat h0.1 (by omega)] at h1 h2
  exact kk p e R s m args below meth c H1 locs1 cells slots ls Qs B E hc hs hl h1 h2 h3
theorem j_bast {i a n : Nat} {f : Nat → Int32} {z v : Int} (d : decode μ.2.1 pc = .ok (.bastore, 1)) (h : w[i]? = some (a, .inl (Γ.2.1 2, n, Sum.inl f))) (h0 : 0 ≤ z ∧ z < n) (hn : n < 2147483648) (hv : 0 ≤ v ∧ v < 128) (kk : J Γ μ (pc + 1) L st (w.set i (a, .inl (Γ.2.1 2, n, .inl (upd f z.toNat (Int32.ofInt v))))) t Q) : J Γ μ pc L (vI v :: vI z :: vR a :: st) w t Q := by
  intro p e R s m args below meth c H locs cells slots ls Qs B E hc hs hl hP hD hS
  refine va_bast B.1 B.2.1 B.kj hP hD hS i 2 h rfl (n_in h0.1 h0.2 hn) d (fun H1 locs1 h1 h2 h3 => ?_)
  have e9 : vp_nar .byte (Int32.ofInt v) = Int32.ofInt v := n_i2b hv
  rw [n_nat h0.1 (by omega), e9] at h1 h2
  exact kk p e R s m args below meth c H1 locs1 cells slots ls Qs B E hc hs hl h1 h2 h3
end JH
