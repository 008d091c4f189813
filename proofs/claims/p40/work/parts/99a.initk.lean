/-! what the constructors need -/
def dfl (ci : Nat) : List Value := (List.range (nf ci)).map (fun j => defaultValue (fTy ci j))
theorem dfl_len (ci : Nat) : (dfl ci).length = nf ci := by
  unfold dfl
  rw [List.length_map, List.length_range]
theorem dfl_V (ci : Nat) : ∀ j, j < nf ci → defaultValue (fTy ci j) = vp_V (dfl ci) j := fun j hj => by
  unfold vp_V dfl
  rw [List.getD_eq_getElem?_getD, List.getElem?_map, List.getElem?_range hj]
  rfl
def tyA (t : Nat) : FieldType := if t = 0 then .int else if t = 1 then .long else .double
def atA (t : Nat) : ArrayType := if t = 0 then .int else if t = 1 then .long else .double
def zA (t N : Nat) : vp_A := if t = 0 then (N, .inl (fun _ => 0)) else if t = 1 then (N, .inr (.inl (fun _ => 0))) else (N, .inr (.inr (.inr (.inl (fun _ => 0)))))
def oW0 (ci h0 : Nat) : va_W := [(h0, .inr (ci, dfl ci))]
def iPc (κ : Nat → ClassId) (D : va_G) (ci h0 sz : Nat) : Array Value → State → Prop := fun v U => v = ([.ref h0] : List Value).toArray ∧ U.heap.size = sz ∧ CX κ D U ∧ va_P D clA (oW0 ci h0) U.heap
def iB (D : va_G) (A : Nat → Prop) (h0 : Nat) (wf : Nat → (Nat → Nat) → va_W) : Unit → State → Prop := fun _ t => ∃ a : Nat → Nat, va_P D clA (wf h0 a) t.heap ∧ va_D A (wf h0 a)
/-- a constructor's contract -/
def IMet (l : Launch) (κ : Nat → ClassId) (D : va_G) (y : MethodName) (cc : ByteArray) (ci fr lo mc ms : Nat) (wf : Nat → (Nat → Nat) → va_W) : Prop :=
  ∀ h0 sz : Nat, Met l y [Cond.code y cc 1 none] { frames := fr, cells := mc, slots := ms, locals := lo } (iPc κ D ci h0 sz) (va_Qv (fun _ : Unit => True) (iB D (va_A (oW0 ci h0) sz) h0 wf) (va_A (oW0 ci h0) sz)) mc ms (va_A (oW0 ci h0) sz)
theorem iPc_blind {κ : Nat → ClassId} {D : va_G} {ci h0 sz : Nat} : FrameBlind (iPc κ D ci h0 sz) := by
  intro a U g mk ⟨h1, h2, h3, h4⟩
  exact ⟨h1, h2, CX.moved (U := U.calling g mk a) (State.WarmedH.refl U) h3, h4⟩
theorem va_nd_of : ∀ {l : List Nat}, l.Nodup → va_nd l = true
  | [], _ => rfl
  | a :: l, h => by
    have h := List.nodup_cons.mp h
    show (decide (a ∉ l) && va_nd l) = true
    rw [decide_eq_true h.1, va_nd_of h.2]
    rfl
theorem cut_C {w : va_W} {x : Nat × va_E} : [w.length].map (fun i => (w ++ [x])[i]?) = [x].map some := by simp
theorem cut_R {w : va_W} {x : Nat × va_E} : (List.range w.length).map (fun i => (w ++ [x])[i]?) = w.map some := by
  apply List.ext_getElem?
  intro k
  rw [List.getElem?_map, List.getElem?_map]
  by_cases h : k < w.length
  · rw [List.getElem?_range h]
    show some ((w ++ [x])[k]?) = _
    rw [List.getElem?_append_left h, List.getElem?_eq_getElem h]
    rfl
  · rw [List.getElem?_eq_none (by rw [List.length_range]; omega), List.getElem?_eq_none (by omega)]
    rfl
section INITK
variable {p : Program} {l : Launch} {e : Env} {R : Room} {s : State} {m : MethodId} {args : Array Value} {below : List Frame} {meth : Method} {c : Code} {H : Heap} {locs : List Loc} {cells slots : Nat} {Q : State → Prop}
variable {κ : Nat → ClassId} {D : va_G} {cc : ByteArray} {pc : Nat} {ls : Array Slot} {rest st0 : List Value} {A : Nat → Prop} {H0 : Heap} {w : va_W} {fs : List Value}
theorem kap {t : Nat} {cA : ClassId} (ht : t < 2) (hK : va_K D clA ([(κ 0, .int), (κ 1, .long)] ++ [(cA, tyA t)]) s) : cA = κ t := by
  have h3 := (hK.2 2 _ rfl).2
  rcases (show t = 0 ∨ t = 1 by omega) with rfl | rfl
  · have h0 := (hK.2 0 _ rfl).2
    exact Option.some.inj (Eq.trans (Eq.symm (show s.vm.findClass ("[" ++ FieldType.int.toString) = some cA from h3)) h0)
  · have h0 := (hK.2 1 _ rfl).2
    exact Option.some.inj (Eq.trans (Eq.symm (show s.vm.findClass ("[" ++ FieldType.long.toString) = some cA from h3)) h0)
theorem arr_of {t : Nat} (ht : t < 2) (hC : CX κ D s) : (Cond.arrayClass (tyA t)).before args s = true := by
  have key : ∀ (ty : FieldType) (cA : ClassId), ArrOfT s cA ty → s.vm.findClass ("[" ++ ty.toString) = some cA → (Cond.arrayClass ty).before args s = true := by
    intro ty cA h1 h2
    obtain ⟨k, hk, comp, hkind⟩ := (h1 0 (fun _ => .null)).2
    have hk : s.vm.classes[cA]? = some k := hk
    simp [Cond.before, Cond.holds, Cond.value, h2, hk, hkind]
  rcases (show t = 0 ∨ t = 1 by omega) with rfl | rfl
  · exact key .int (κ 0) (hC.1.2 0 _ rfl).1 (hC.1.2 0 _ rfl).2
  · exact key .long (κ 1) (hC.1.2 1 _ rfl).1 (hC.1.2 1 _ rfl).2
/-- a new array -/
theorem st_na {t N : Nat} {n : Int32} (hx : p.tables.exec = Jvm.exec) (hb : c.code = cc) (hC : CX κ D s) (hP : va_P D clA w H) (hD : va_D A w) (hS : va_S A H0 H locs) (hA : ∀ q, H0.size ≤ q → A q)
    (ht : t < 2) (hn : ¬ n < 0) (hN : n.toNatClampNeg = N) (hN2 : N ≤ 5000) (hcells : cells + 1 ≤ R.cells) (hslots : slots + N ≤ R.slots) (d : decode cc pc = .ok (.newarray (atA t), 2))
    (kk : ∀ (q : Nat) (H1 : Heap), va_P D clA (w ++ [(q, .inl (κ t, zA t N))]) H1 → va_D A (w ++ [(q, .inl (κ t, zA t N))]) → va_S A H0 H1 locs → W p l e R s m args below meth c H1 locs (cells + 1) (slots + N) Q (F0 m (pc + 2) ls (.ref q :: rest))) : W p l e R s m args below meth c H locs cells slots Q (F0 m pc ls (.int n :: rest)) := by
  rcases (show t = 0 ∨ t = 1 by omega) with rfl | rfl
  · have ha : (Cond.arrayClass .int).before args s = true := arr_of (t := 0) (by decide) hC
    refine va_newa (atype := .int) (ty := .int) (a0 := zA 0 N) hx hb ha rfl hC.1 hP hD hS hA (fun _ => rfl) hn hN (by show N * 4 ≤ 536870912; omega) hcells hslots d (fun q cA H1 hK1 hP1 hD1 hS1 => ?_)
    have e := kap (t := 0) (by decide) hK1
    subst e
    exact kk q H1 hP1 hD1 hS1
  · have ha : (Cond.arrayClass .long).before args s = true := arr_of (t := 1) (by decide) hC
    refine va_newa (atype := .long) (ty := .long) (a0 := zA 1 N) hx hb ha rfl hC.1 hP hD hS hA (fun _ => rfl) hn hN (by show N * 8 ≤ 536870912; omega) hcells hslots d (fun q cA H1 hK1 hP1 hD1 hS1 => ?_)
    have e := kap (t := 1) (by decide) hK1
    subst e
    exact kk q H1 hP1 hD1 hS1
theorem fits_ref (ty : FieldType) (q : Nat) : fits ty (.ref q) = fits ty (.ref 0) := by cases ty <;> rfl
theorem narrow_ref (ty : FieldType) (q : Nat) : narrow ty (.ref q) = .ref q := by cases ty <;> rfl
/-- a final field of the object under construction -/
theorem st_pf {ci k idx h0 : Nat} {v : Value} (hx : p.tables.exec = Jvm.exec) (hb : c.code = cc) (hown : s.vm.findClass (cN ci) = some m.cls) (hin : meth.name = "<init>") (hC : CX κ D s) (hP : va_P D clA ((h0, .inr (ci, fs)) :: w) H) (hD : va_D A ((h0, .inr (ci, fs)) :: w)) (hS : va_S A H0 H locs)
    (hci : ci < 9) (hk : k < nf ci) (hlink : Cond.fieldLink (cN ci) idx (cN ci) (fT ci k).2.1 (fT ci k).2.2.1 ∈ TS) (hfin : (fT ci k).2.2.2 = true) (hn : narrow (fTy ci k) v = v) (hfit : fits (fTy ci k) v = true) (hl : fs.length = nf ci) (d : decode cc pc = .ok (.putfield idx, 3))
    (kk : ∀ (H1 : Heap) (locs1 : List Loc), va_P D clA ((h0, .inr (ci, fs.set k v)) :: w) H1 → va_D A ((h0, .inr (ci, fs.set k v)) :: w) → va_S A H0 H1 locs1 → W p l e R s m args below meth c H1 locs1 cells slots Q (F0 m (pc + 3) ls rest)) : W p l e R s m args below meth c H locs cells slots Q (F0 m pc ls (v :: .ref h0 :: rest)) := by
  have hf := f_at hci hk
  exact va_putF (ref := cN ci) (own := cN ci) (ty := fTy ci k) hx hb hC.words (u_in hci) (fTy ci) (fun j hj => (f_at hci hj).2.1) (f_apart hci) hown hC.1 hP hD hS 0 rfl (clA_get hci) k hk (hC.words _ hlink) (fun x h => by rw [hf.1] at h; exact h) hfin hin hf.1 hf.2.1 hn hfit (by rw [hl]; exact hk) d kk
theorem st_pn {ci k idx h0 : Nat} {v : Value} (hx : p.tables.exec = Jvm.exec) (hb : c.code = cc) (hown : s.vm.findClass (cN ci) = some m.cls) (hC : CX κ D s) (hP : va_P D clA ((h0, .inr (ci, fs)) :: w) H) (hD : va_D A ((h0, .inr (ci, fs)) :: w)) (hS : va_S A H0 H locs)
    (hci : ci < 9) (hk : k < nf ci) (hlink : Cond.fieldLink (cN ci) idx (cN ci) (fT ci k).2.1 (fT ci k).2.2.1 ∈ TS) (hfin : (fT ci k).2.2.2 = false) (hn : narrow (fTy ci k) v = v) (hfit : fits (fTy ci k) v = true) (hl : fs.length = nf ci) (d : decode cc pc = .ok (.putfield idx, 3))
    (kk : ∀ (H1 : Heap) (locs1 : List Loc), va_P D clA ((h0, .inr (ci, fs.set k v)) :: w) H1 → va_D A ((h0, .inr (ci, fs.set k v)) :: w) → va_S A H0 H1 locs1 → W p l e R s m args below meth c H1 locs1 cells slots Q (F0 m (pc + 3) ls rest)) : W p l e R s m args below meth c H locs cells slots Q (F0 m pc ls (v :: .ref h0 :: rest)) := by
  have hf := f_at hci hk
  exact va_put (ref := cN ci) (own := cN ci) (ty := fTy ci k) hx hb hC.words (u_in hci) (fTy ci) (fun j hj => (f_at hci hj).2.1) (f_apart hci) hown hC.1 hP hD hS 0 rfl (clA_get hci) k hk (hC.words _ hlink) (fun x h => by rw [hf.1] at h; exact h) hfin hf.2.1 hn hfit (by rw [hl]; exact hk) d kk
theorem st_pr {ci k idx h0 q : Nat} (hx : p.tables.exec = Jvm.exec) (hb : c.code = cc) (hown : s.vm.findClass (cN ci) = some m.cls) (hin : meth.name = "<init>") (hC : CX κ D s) (hP : va_P D clA ((h0, .inr (ci, fs)) :: w) H) (hD : va_D A ((h0, .inr (ci, fs)) :: w)) (hS : va_S A H0 H locs)
    (hci : ci < 9) (hk : k < nf ci) (hlink : Cond.fieldLink (cN ci) idx (cN ci) (fT ci k).2.1 (fT ci k).2.2.1 ∈ TS) (hf : ((fT ci k).2.2.2 && fits (fTy ci k) (.ref 0)) = true) (hl : fs.length = nf ci) (d : decode cc pc = .ok (.putfield idx, 3))
    (kk : ∀ (H1 : Heap) (locs1 : List Loc), va_P D clA ((h0, .inr (ci, fs.set k (.ref q))) :: w) H1 → va_D A ((h0, .inr (ci, fs.set k (.ref q))) :: w) → va_S A H0 H1 locs1 → (fs.set k (.ref q)).length = nf ci → W p l e R s m args below meth c H1 locs1 cells slots Q (F0 m (pc + 3) ls rest)) : W p l e R s m args below meth c H locs cells slots Q (F0 m pc ls (.ref q :: .ref h0 :: rest)) := by
  rw [Bool.and_eq_true] at hf
  exact st_pf hx hb hown hin hC hP hD hS hci hk hlink hf.1 (narrow_ref _ _) (by rw [fits_ref]; exact hf.2) hl d (fun H1 locs1 h1 h2 h3 => kk H1 locs1 h1 h2 h3 (by rw [List.length_set]; exact hl))
/-- an array into a final field -/
theorem st_af {ci k t N idx h0 pc2 c1 n1 : Nat} {n : Int32} (hx : p.tables.exec = Jvm.exec) (hb : c.code = cc) (hown : s.vm.findClass (cN ci) = some m.cls) (hin : meth.name = "<init>") (hC : CX κ D s) (hl0 : lv_has ls 1 [(0, .ref h0)]) (hP : va_P D clA ((h0, .inr (ci, fs)) :: w) H) (hD : va_D A ((h0, .inr (ci, fs)) :: w)) (hS : va_S A H0 H locs) (hA : ∀ q, H0.size ≤ q → A q) (hl : fs.length = nf ci)
    (hci : ci < 9) (hk : k < nf ci) (ht : t < 2) (hn : ¬ n < 0) (hN : n.toNatClampNeg = N) (hN2 : N ≤ 5000) (hc1 : cells + 1 ≤ c1) (hn1 : slots + N ≤ n1) (hR : c1 ≤ R.cells) (hR2 : n1 ≤ R.slots) (hlink : Cond.fieldLink (cN ci) idx (cN ci) (fT ci k).2.1 (fT ci k).2.2.1 ∈ TS) (hf : ((fT ci k).2.2.2 && fits (fTy ci k) (.ref 0)) = true)
    (d0 : decode cc pc = .ok (.aload_n 0, 1)) (push : W p l e R s m args below meth c H locs cells slots Q (F0 m pc2 ls (.int n :: .ref h0 :: [])) → W p l e R s m args below meth c H locs cells slots Q (F0 m (pc + 1) ls (.ref h0 :: []))) (d1 : decode cc pc2 = .ok (.newarray (atA t), 2)) (d2 : decode cc (pc2 + 2) = .ok (.putfield idx, 3))
    (kk : ∀ (q : Nat) (H1 : Heap) (locs1 : List Loc), va_P D clA ((h0, .inr (ci, fs.set k (.ref q))) :: (w ++ [(q, .inl (κ t, zA t N))])) H1 → va_D A ((h0, .inr (ci, fs.set k (.ref q))) :: (w ++ [(q, .inl (κ t, zA t N))])) → va_S A H0 H1 locs1 → (fs.set k (.ref q)).length = nf ci → W p l e R s m args below meth c H1 locs1 c1 n1 Q (F0 m (pc2 + 5) ls [])) : W p l e R s m args below meth c H locs cells slots Q (F0 m pc ls []) := by
  refine lv_aload_n hx hb d0 rfl (lv_at hl0 0 rfl) (push ?_)
  refine st_na hx hb hC hP hD hS hA ht hn hN hN2 (by omega) (by omega) d1 (fun q H1 hP1 hD1 hS1 => ?_)
  refine W.widen (k := c1) (n := n1) hc1 hn1 ?_
  rw [List.cons_append] at hP1 hD1
  exact st_pr (w := w ++ [(q, .inl (κ t, zA t N))]) hx hb hown hin hC hP1 hD1 hS1 hci hk hlink hf hl d2 (fun H2 locs2 h1 h2 h3 h4 => kk q H2 locs2 h1 h2 h3 h4)
/-- a new object -/
theorem st_new {co cj idx : Nat} (hx : p.tables.exec = Jvm.exec) (hb : c.code = cc) (hown : s.vm.findClass (cN co) = some m.cls) (hC : CX κ D s) (hP : va_P D clA w H) (hD : va_D A w) (hS : va_S A H0 H locs) (hA : ∀ q, H0.size ≤ q → A q)
    (hcj : cj < 9) (hcl : Cond.classLink (cN co) idx (cN cj) ∈ TS) (hinst : Cond.instantiable (cN cj) (nf cj) ∈ TS) (hini : Cond.initialized (cN cj) ∈ TS) (hcells : cells + 1 ≤ R.cells) (hslots : slots + nf cj ≤ R.slots) (d : decode cc pc = .ok (.new idx, 3))
    (kk : ∀ (q : Nat) (H1 : Heap), va_P D clA (w ++ [(q, .inr (cj, dfl cj))]) H1 → va_D A (w ++ [(q, .inr (cj, dfl cj))]) → va_S A H0 H1 locs → W p l e R s m args below meth c H1 locs (cells + 1) (slots + nf cj) Q (F0 m (pc + 3) ls (.ref q :: rest))) : W p l e R s m args below meth c H locs cells slots Q (F0 m pc ls rest) :=
  va_new hx hb hC.words (u_in hcj) (fTy cj) (fun k hk => (f_at hcj hk).2.1) hown (hC.words _ hcl) (hC.words _ hinst) (hC.words _ hini) hC.1 hP hD hS hA (clA_get hcj) (dfl_V cj) hcells hslots d kk
/-- behind a constructor's call -/
theorem st_ret {ci q mc ms : Nat} {wf : Nat → (Nat → Nat) → va_W} {a : Array Value} (hP : va_P D clA (w ++ [(q, .inr (ci, dfl ci))]) H) (hD : va_D A (w ++ [(q, .inr (ci, dfl ci))])) (hS : va_S A H0 H locs) (hA : ∀ q, H0.size ≤ q → A q)
    (hrun : va_Run p l e R s m args below meth c H locs cells slots mc ms (F0 m pc ls st0) rest (va_Qv (fun _ : Unit => True) (iB D (va_A (oW0 ci q) H.size) q wf) (va_A (oW0 ci q) H.size) a) (va_A (oW0 ci q) H.size))
    (kk : ∀ (a : Nat → Nat) (H1 : Heap) (locs1 : List Loc), va_P D clA (w ++ wf q a) H1 → va_D A (w ++ wf q a) → va_S A H0 H1 locs1 → W p l e R s m args below meth c H1 locs1 (cells + mc) (slots + ms) Q (F0 m (pc + 3) ls rest)) : W p l e R s m args below meth c H locs cells slots Q (F0 m pc ls st0) := by
  have hF := va_free (wc := oW0 ci q) hD hS hA [w.length] cut_C
  refine va_callv hrun hS (fun q _ h => hF q h) hF (fun u t H1 locs1 ht hvm _ hB hz hk hS1 => ?_)
  obtain ⟨a, hP1, hD1⟩ := hB
  rw [ht] at hP1
  obtain ⟨hP2, hD2⟩ := va_join (wc := oW0 ci q) (wr := w) (w1 := wf q a) hP hD [w.length] (List.range w.length) cut_C cut_R (va_nd_of List.nodup_range) (fun i hi h => by
    have h1 := List.mem_range.mp hi
    have h2 := List.mem_singleton.mp h
    omega) hk hF hP1 hD1
  exact kk a H1 locs1 hP2 hD2 hS1
theorem cut_P {ci q : Nat} (hP : va_P D clA (w ++ [(q, .inr (ci, dfl ci))]) H) : va_P D clA (oW0 ci q) H := hP.sub [w.length] (by simp [oW0])
/-- a nest mate's constructor -/
theorem st_cn {co ci idx q fr lo mc ms nL : Nat} {y : MethodName} {cc2 : ByteArray} {wf : Nat → (Nat → Nat) → va_W} (hx : p.tables.exec = Jvm.exec) (hb : c.code = cc) (hml : c.maxLocals = nL) (hown : s.vm.findClass (cN co) = some m.cls) (hC : CX κ D s) (hlsz : ls.size = nL) (hP : va_P D clA (w ++ [(q, .inr (ci, dfl ci))]) H) (hD : va_D A (w ++ [(q, .inr (ci, dfl ci))])) (hS : va_S A H0 H locs) (hA : ∀ q, H0.size ≤ q → A q)
    (hM : IMet l κ D y cc2 ci fr lo mc ms wf) (hR : fr + 1 ≤ R.frames ∧ 8 + (1 + 11) + lo ≤ R.locals) (hcode : Cond.code y cc2 1 none ∈ TS) (hini : Cond.initialized y.cls ∈ TS) (hy : y.cls ≠ "java/lang/invoke/MethodHandle" ∧ y.cls ≠ "java/lang/invoke/VarHandle") (hlen : (parseMethodDescriptor y.desc).map (fun d => d.parameters.length) = some 0) (hlink : Cond.methodLinkNest (cN co) idx y hostN ∈ TS) (hyn : y.name = "<init>") (hinst : Cond.instanceMethod y ∈ TS)
    (hroom : (rest.map fun v => v.category).sum ≤ 8) (hc : cells + mc ≤ R.cells ∧ slots + ms ≤ R.slots) (d : decode cc pc = .ok (.invokespecial idx, 3))
    (kk : ∀ (a : Nat → Nat) (H1 : Heap) (locs1 : List Loc), va_P D clA (w ++ wf q a) H1 → va_D A (w ++ wf q a) → va_S A H0 H1 locs1 → W p l e R s m args below meth c H1 locs1 (cells + mc) (slots + ms) Q (F0 m (pc + 3) ls rest)) : W p l e R s m args below meth c H locs cells slots Q (F0 m pc ls (.ref q :: rest)) := by
  refine st_ret hP hD hS hA (va_runIN (As := []) (rest := rest) (n := 0) (host := hostN) (b := q) (bytes := cc2) (maxL := 1) ⟨hx, hb, hml, hown, hC.words⟩ (hM q H.size) ⟨⟨⟨rfl, rfl, hR.1, hR.2, fun w0 hw a' U hWm => ?_, List.mem_singleton.mpr rfl⟩, hC.words _ hcode, hC.words _ hini, hy, fun sig hs => ?_, hC.words _ hlink⟩, hyn, hC.words _ hinst⟩ ⟨iPc_blind, fun U hU hWm => ⟨rfl, by rw [hU], hC.moved hWm, by rw [hU]; exact cut_P hP⟩⟩ rfl rfl hlsz rfl (lv_room hroom) d hc) kk
  · rw [List.mem_singleton.mp hw]
    exact word_at hWm (good_of_word rfl) (hC.words (args := args) _ hcode)
  · rw [hs] at hlen
    exact (Option.some.inj hlen).symm
/-- any constructor -/
theorem st_cp {co ci idx q fr lo mc ms nL : Nat} {y : MethodName} {cc2 : ByteArray} {wf : Nat → (Nat → Nat) → va_W} (hx : p.tables.exec = Jvm.exec) (hb : c.code = cc) (hml : c.maxLocals = nL) (hown : s.vm.findClass (cN co) = some m.cls) (hC : CX κ D s) (hlsz : ls.size = nL) (hP : va_P D clA (w ++ [(q, .inr (ci, dfl ci))]) H) (hD : va_D A (w ++ [(q, .inr (ci, dfl ci))])) (hS : va_S A H0 H locs) (hA : ∀ q, H0.size ≤ q → A q)
    (hM : IMet l κ D y cc2 ci fr lo mc ms wf) (hR : fr + 1 ≤ R.frames ∧ 8 + (1 + 11) + lo ≤ R.locals) (hcode : Cond.code y cc2 1 none ∈ TS) (hini : Cond.initialized y.cls ∈ TS) (hy : y.cls ≠ "java/lang/invoke/MethodHandle" ∧ y.cls ≠ "java/lang/invoke/VarHandle") (hlen : (parseMethodDescriptor y.desc).map (fun d => d.parameters.length) = some 0) (hlink : Cond.methodLink (cN co) idx y ∈ TS) (hyn : y.name = "<init>") (hinst : Cond.instanceMethod y ∈ TS)
    (hroom : (rest.map fun v => v.category).sum ≤ 8) (hc : cells + mc ≤ R.cells ∧ slots + ms ≤ R.slots) (d : decode cc pc = .ok (.invokespecial idx, 3))
    (kk : ∀ (a : Nat → Nat) (H1 : Heap) (locs1 : List Loc), va_P D clA (w ++ wf q a) H1 → va_D A (w ++ wf q a) → va_S A H0 H1 locs1 → W p l e R s m args below meth c H1 locs1 (cells + mc) (slots + ms) Q (F0 m (pc + 3) ls rest)) : W p l e R s m args below meth c H locs cells slots Q (F0 m pc ls (.ref q :: rest)) := by
  refine st_ret hP hD hS hA (va_runI (As := []) (rest := rest) (n := 0) (b := q) (bytes := cc2) (maxL := 1) ⟨hx, hb, hml, hown, hC.words⟩ (hM q H.size) ⟨⟨rfl, rfl, hR.1, hR.2, fun w0 hw a' U hWm => ?_, List.mem_singleton.mpr rfl, hC.words _ hcode, hC.words _ hini, hy, fun sig hs => ?_, hC.words _ hlink⟩, hyn, hC.words _ hinst⟩ ⟨iPc_blind, fun U hU hWm => ⟨rfl, by rw [hU], hC.moved hWm, by rw [hU]; exact cut_P hP⟩⟩ rfl rfl hlsz rfl (lv_room hroom) d hc) kk
  · rw [List.mem_singleton.mp hw]
    exact word_at hWm (good_of_word rfl) (hC.words (args := args) _ hcode)
  · rw [hs] at hlen
    exact (Option.some.inj hlen).symm
end INITK
theorem oi_1 : Cond.instanceMethod objectInit ∈ TS := ts_mem (i := 97) (by decide +kernel) rfl
theorem oi_2 : Cond.code objectInit ⟨#[0xb1]⟩ 1 none ∈ TS := ts_mem (i := 98) (by decide +kernel) rfl
/-- a constructor's contract, from behind Object's -/
theorem IMet_of {l : Launch} {κ : Nat → ClassId} {D : va_G} {y : MethodName} {cc : ByteArray} {ci fr lo mc ms i0 : Nat} {wf : Nat → (Nat → Nat) → va_W} (hpl : plainName y.cls = true) (hyc : y.cls = cN ci) (hyn : y.name = "<init>") (d0 : decode cc 0 = .ok (.aload_n 0, 1)) (d1 : decode cc 1 = .ok (.invokespecial i0, 3)) (hlk : Cond.methodLink (cN ci) i0 objectInit ∈ TS) (hfr : 1 ≤ fr) (hlo : 12 ≤ lo)
    (body : ∀ (p : Program) (e : Env) (s : State) (m : MethodId) (args : Array Value) (below : List Frame) (meth : Method) (c : Code) (h0 : Nat) (A : Nat → Prop) (ls : Array Slot), p.tables.exec = Jvm.exec → c.code = cc → c.maxLocals = 1 → meth.sig.returnType = none → s.vm.findClass (cN ci) = some m.cls → meth.locks = false → meth.name = "<init>" → CX κ D s → lv_has ls 1 [(0, .ref h0)] → va_P D clA (oW0 ci h0) s.heap → va_D A (oW0 ci h0) → (∀ q, s.heap.size ≤ q → A q) → va_S A s.heap s.heap [] →
      W p l e { frames := fr, cells := mc, slots := ms, locals := lo } s m args below meth c s.heap [] 0 0 (MQ below (va_Qv (fun _ : Unit => True) (iB D A h0 wf) A) args s mc ms A) (F0 m 4 ls [])) : IMet l κ D y cc ci fr lo mc ms wf := by
  intro h0 sz
  refine Met.ofW (cc := cc) (maxL := 1) (ret := none) (ws' := []) hpl rfl ?_
  intro p e s m args below meth c s₁ B hml hv
  obtain ⟨rfl, hsz, hC, hP⟩ := hv
  subst hsz
  have hx := B.exec
  have hb := B.bytes
  have hr := B.returns
  have hown : s.vm.findClass (cN ci) = some m.cls := by rw [← hyc]; exact findClass_of_methodNamed B.named
  have hlocks := B.notSynchronized
  have hin : meth.name = "<init>" := (name_of_methodNamed B.named B.method).1.trans hyn
  have hl := lv_entry ([.ref h0]) (n := 1) (Nat.le_of_ble_eq_true rfl)
  rw [lg_entry_eq]
  generalize (lg_sl ([.ref h0]) ++ List.replicate (1 - (lg_sl ([.ref h0])).length) Slot.unset).toArray = ls at hl ⊢
  have hl : lv_has ls 1 [(0, .ref h0)] := hl
  have hD : va_D (va_A (oW0 ci h0) s.heap.size) (oW0 ci h0) := by
    refine ⟨fun i j a b h1 h2 _ => ?_, fun _ _ hk => va_A.in hk⟩
    have z1 : i < 1 := (List.getElem?_eq_some_iff.mp h1).1
    have z2 : j < 1 := (List.getElem?_eq_some_iff.mp h2).1
    omega
  refine lv_aload_n hx hb d0 rfl (lv_at hl 0 rfl) ?_
  refine W.objInit hx hb hown (hC.words _ hlk) (hC.words _ oi_1) (hC.words _ oi_2) rfl (by rw [hml]; exact hl.1) rfl d1 hfr (by show 2 * 0 + 0 + 12 ≤ lo; omega) ?_
  refine W.eq (g2 := F0 m 4 ls []) rfl ?_
  exact body p e s m _ below meth c h0 _ ls hx hb hml hr hown hlocks hin hC hl hP hD (fun q h => Or.inr h) va_S.rf
