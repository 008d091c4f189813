/-! the claim out of one walk of the law's body: began from the kit's skeleton -/
def R_law : String := "PointerAnalyzerLaw"
def lw_P (b : Addr) (xs : List Int32) (args : Array Value) (s : State) : Prop := args = #[.ref b] ∧ s.IntsAt b xs ∧ xs.length ≤ 2048 ∧ (Jvm.Cond.and given_1 narrow_1).before args s = true
theorem lw_closed {s t : State} {o : Outcome} {d0 : Drawn} {L : List Loc} {k n : Nat} (hd0 : s.drawn.sameBut d0 lw_cs) (hv : ∃ v, o = .returned v) (hW : (s.setDrawn d0).WarmedH t.vm) (hs : (s.setDrawn d0).sameButNew ({ t with vm := s.vm } : State) L k n) : State.butDraws s t lw_cs (fun t1 => Framed s o t1 L k n) := by
  have h2 : t.drawn = d0 := congrArg State.drawn hs.1
  refine ⟨⟨hv, hW, State.sameButNew.setDrawn hs s.drawn⟩, ?_, by decide⟩
  rw [h2]
  exact hd0
def lw_Q (_ : Array Value) (s : State) (o : Outcome) (t : State) : Prop := o = .returned (some (.int 1)) ∧ State.butDraws s t lw_cs (fun t1 => Framed s o t1 [] 3168 140606)
def lw_Z (below : List Frame) (a : Array Value) (s : State) : State → Prop := fun t => ∃ o, t.status = .running ∧ Ended t below o ∧ lw_Q a s o t
theorem lw_ret {p : Program} {l : Launch} {e : Env} {s : State} {m : MethodId} {below : List Frame} {meth : Method} {c : Code} {b : Nat} {d0 : Drawn} (hd0 : s.drawn.sameBut d0 lw_cs) (hx : p.tables.exec = Jvm.exec) (hb : c.code = code) (hr : meth.sig.returnType = ret) (hlocks : meth.locks = false) {pc : Nat} {H : Heap} {ls : Array Slot} (hdg : decode code pc = .ok (.ireturn, 1)) : W p l e room_1 (s.setDrawn d0) m #[Value.ref b] below meth c H [] 3168 140606 (lw_Z below #[Value.ref b] s) (F0 m pc ls [.int 1]) := by
  intro T hT X
  obtain ⟨fs, hret, hrun, hended, hW, hframe⟩ := X.leave (v := some (.int 1)) (hlocks := hlocks) (fun h => by rw [hr] at h; cases h)
  have hmeth' : T.vm.method? m = some meth := X.method'
  refine ⟨T.setFrames fs, ?_, .returned (some (.int 1)), hrun, hended, rfl, lw_closed hd0 ⟨_, rfl⟩ hW hframe⟩
  jvm_step X.here [X.here.top, hx, hb, hdg, hmeth', hr, ret, narrow_b1]
  (try refine ⟨rfl, ?_⟩); (try refine ⟨rfl, ?_⟩)
  first | (intro acts; rw [hret _ acts rfl rfl rfl]) | rw [hret _ _ rfl rfl rfl]
  exact Steps.refl _
def lw_At (p : Program) (s : State) (m : MethodId) (meth : Method) (c : Code) (b L : Nat) (xs : Nat → Int32) : Prop :=
  p.tables.exec = Jvm.exec ∧ c.code = code ∧ meth.sig.returnType = ret ∧ c.maxLocals = 9 ∧ s.vm.findClass R_law = some m.cls ∧ (∀ w ∈ lw_tbl, w.before #[Value.ref b] s = true) ∧ va_X b L xs s s.heap ∧ b < s.heap.size ∧ meth.locks = false ∧ (Jvm.Cond.and given_1 narrow_1).before #[Value.ref b] s = true ∧ c.exceptionTable.toList = []
theorem ld_0 : decode code 0 = .ok (.new 8, 3) := by decide +kernel
theorem ld_3 : decode code 3 = .ok (.dup, 1) := by decide +kernel
theorem ld_4 : decode code 4 = .ok (.invokespecial 106, 3) := by decide +kernel
theorem ld_7 : decode code 7 = .ok (.astore_n 1, 1) := by decide +kernel
theorem ld_8 : decode code 8 = .ok (.new 107, 3) := by decide +kernel
theorem ld_11 : decode code 11 = .ok (.dup, 1) := by decide +kernel
theorem ld_12 : decode code 12 = .ok (.invokespecial 109, 3) := by decide +kernel
theorem ld_15 : decode code 15 = .ok (.astore_n 2, 1) := by decide +kernel
theorem ld_16 : decode code 16 = .ok (.iconst 1, 1) := by decide +kernel
theorem ld_17 : decode code 17 = .ok (.newarray .long, 2) := by decide +kernel
theorem ld_19 : decode code 19 = .ok (.astore_n 3, 1) := by decide +kernel
theorem ld_20 : decode code 20 = .ok (.iconst 1, 1) := by decide +kernel
theorem ld_21 : decode code 21 = .ok (.newarray .double, 2) := by decide +kernel
theorem ld_23 : decode code 23 = .ok (.astore 4, 2) := by decide +kernel
theorem ld_25 : decode code 25 = .ok (.iconst 0, 1) := by decide +kernel
theorem ld_26 : decode code 26 = .ok (.istore 5, 2) := by decide +kernel
theorem ix_x (xs : Nat → Int32) (L : Nat) (j : Nat) : Int32.ofInt ((fun j : Int => if j = -1 then (L : Int) else (xs j.toNat).toInt) (j : Int)) = xs j := by
  show Int32.ofInt (if (j : Int) = -1 then (L : Int) else (xs (j : Int).toNat).toInt) = xs j
  rw [if_neg (by omega), Int.toNat_natCast]
  exact Int32.ofInt_toInt _
/-- the law's body from its loop on -/
theorem from_28 {p : Program} {e : Env} {s : State} {m : MethodId} {below : List Frame} {meth : Method} {c : Code} {l : Launch} {b L : Nat} {xs : Nat → Int32} {κ : Nat → ClassId} {D : va_G} {α : Nat → Nat} {ls : Array Slot} {H : Heap} {locs : List Loc} {cells slots : Nat} (hflags : l.flags = flags0) (hL : L ≤ 2048) (C0 : lw_At p s m meth c b L xs) (hC : CX κ D s) (hα : ∀ c, c < 79 → s.heap.size ≤ α c) (h79 : α 79 = b) (hapart : ∀ i j, i < 79 → j < 79 → α i = α j → i = j)
    (hW : va_P D clA (wd κ α (st0 (fun j : Int => if j = -1 then (L : Int) else (xs j.toNat).toInt))) H) (hS : va_S (fun q : Nat => s.heap.size ≤ q) s.heap H locs) (hc : cells + 2048 ≤ 3168) (hs : slots + 6 * 2048 ≤ 140606) (hl : lv_has ls 9 [(0, .ref b), (1, .ref (α 0)), (2, .ref (α 53)), (3, .ref (α 77)), (4, .ref (α 78)), (5, .int 0)]) : W p l e room_1 s m #[Value.ref b] below meth c H locs cells slots (lw_Z below #[Value.ref b] s) (F0 m 28 ls []) := by
  obtain ⟨hx, hb, hr, hml, hown, hts, hX, hbl, hlocks, hgv, htab⟩ := C0
  have hlt : l.stackTraces = false := by
    unfold Launch.stackTraces
    rw [hflags]
    rfl
  obtain ⟨ix, hix⟩ : ∃ ix : Int → Int, ix = fun j : Int => if j = -1 then (L : Int) else (xs j.toNat).toInt := ⟨_, rfl⟩
  rw [← hix] at hW
  have hx1 : ix (-1) = (L : Int) := by rw [hix]; exact if_pos rfl
  have hxj : ∀ j : Nat, Int32.ofInt (ix (j : Int)) = xs j := fun j => by rw [hix]; exact ix_x xs L j
  have hSF : SF α ix := ⟨hapart, fun c hc e => by have := hα c hc; omega, by omega, by omega⟩
  have hH : HF α ix s.heap.size s := hf_start hts hgv hα h79 hbl hX hx1 hxj
  have hAA : ∀ q, s.heap.size ≤ q ↔ AA α s.heap.size q := fun q => ⟨fun h => Or.inr h, fun h => by
    rcases h with ⟨c, hc, e⟩ | h
    · have := hα c hc; omega
    · exact h⟩
  have hS1 : va_S (AA α s.heap.size) s.heap H locs := by
    obtain ⟨h1, h2, h3⟩ := hS
    exact ⟨h1, fun q hq hn => h2 q hq (fun k => hn ((hAA q).mp k)), fun q hq => (hAA _).mp (h3 q hq)⟩
  have C1 : Ctx κ D α ix l p s m meth c 305 := ⟨hx, hb, hml, by decide, hown, hlocks, hlt, htab, hC, hH, hSF⟩
  have hinR : ∀ j, 0 ≤ j → j < gI (st0 ix) 79 (-1) → inR (gI (st0 ix) 79 j) := fun j j0 _ => by
    show inR (ix j)
    rw [hix]
    show inR (if j = -1 then (L : Int) else (xs j.toNat).toInt)
    rw [if_neg (by omega)]
    have h1 := Int32.le_toInt (xs j.toNat)
    have h2 := Int32.toInt_lt (xs j.toNat)
    exact ⟨h1, h2⟩
  have hN : gI (st0 ix) 79 (-1) = (L : Int) := hx1
  obtain ⟨n, r, σ', hex, hrr⟩ := law_loop (Q := fun r _ => r = .inl (some (vI 1))) (fun _ => rfl) 512 2048 0 (st0 ix) Pz Pz 0 0 none none none (JV_0 ix) (by decide) (by decide) (by rw [hN]; omega) hinR (by rw [hN]; omega) (by decide)
  subst hrr
  have hWX : WDX κ D α ix (st0 ix) H := ⟨hW, fun _ => rfl⟩
  refine W.base ?_
  have hd0 := Drawn.sameBut.refl s.drawn lw_cs
  refine frame_all n κ D α ix p l e room_1 (s.setDrawn s.drawn) m #[Value.ref b] below meth c 305 2048 28 _ [] (st0 ix) _ H locs cells slots ls _ C1 (by decide) (by decide) hc hs ?_ ?_ ?_ ?_ hWX hS1 hex
  · intro pc en v σ1 st1 H1 locs1 cells1 slots1 ls1 hr1 hcd hret hW1 hS2 hc1 hs1
    cases hr1
    obtain ⟨hdec, hlen, hok⟩ := cd_dec (mi := 305) (by decide) hcd
    obtain ⟨i, n9, x9, y9⟩ := en
    dsimp only at hdec hlen hok hret
    rcases hret with ⟨rfl, z, h1, rfl, hz⟩ | ⟨rfl, z, h1, rfl⟩ | ⟨rfl, z, h1, rfl⟩ | ⟨rfl, z, h1, rfl⟩ | ⟨rfl, z, h1, rfl⟩ | ⟨rfl, h1, rfl⟩
    · have e1 : n9 = 1 := len_ok hlen rfl
      subst e1
      cases h1
      refine va_forget (fun q hq => (hAA _).mpr (hS2.2.2 q hq)) ?_
      refine W.widen (k := 3168) (n := 140606) hc1 hs1 ?_
      exact lw_ret hd0 hx hb hr hlocks hdec
    all_goals cases h1
  · intro pc i n9 x y σ1 H1 locs1 cells1 slots1 ls1 hr1
    cases hr1
  · intro pc X q ce σ1 rest H1 locs1 cells1 slots1 ls1 hr1
    cases hr1
  · have e9 : lvs α 0 [some (vR 79), some (vR 0), some (vR 53), some (vR 77), some (vR 78), some (vI 0), none, none, none] = [(0, .ref b), (1, .ref (α 0)), (2, .ref (α 53)), (3, .ref (α 77)), (4, .ref (α 78)), (5, .int 0)] := by
      rw [← h79]; rfl
    rw [e9]; exact hl
set_option maxHeartbeats 4000000 in
set_option maxRecDepth 100000 in
/-- the law, from its entry -/
theorem whole_start {p : Program} {e : Env} {s : State} {m : MethodId} {below : List Frame} {meth : Method} {c : Code} (l : Launch) (hflags : l.flags = flags0) {b L : Nat} {xs : Nat → Int32} (hL : L ≤ 2048) (C0 : lw_At p s m meth c b L xs) : W p l e room_1 s m #[Value.ref b] below meth c s.heap [] 0 0 (lw_Z below #[Value.ref b] s) (entryFrame m ([Value.ref b] : List Value).toArray 9) := by
  obtain ⟨hx, hb, hr, hml, hown, hts, hX, hbl, hlocks, hgv, htab⟩ := id C0
  have hA : ∀ q : Nat, s.heap.size ≤ q → (fun q : Nat => s.heap.size ≤ q) q := fun _ h => h
  obtain ⟨κ, D, hC⟩ := cx_start hts hgv
  have hown : s.vm.findClass (cN 12) = some m.cls := hown
  have hS : va_S (fun q : Nat => s.heap.size ≤ q) s.heap s.heap [] := va_S.rf
  have hP : va_P D clA [] s.heap := fun k q h => by simp at h
  have hD : va_D (fun q : Nat => s.heap.size ≤ q) [] := ⟨fun i j p q h => by simp at h, fun k q h => by simp at h⟩
  have hl := lv_entry ([.ref b]) (n := 9) (Nat.le_of_ble_eq_true rfl)
  rw [lg_entry_eq]
  generalize (lg_sl ([.ref b]) ++ List.replicate (9 - (lg_sl ([.ref b])).length) Slot.unset).toArray = ls at hl ⊢
  have hl : lv_has ls 9 [(0, .ref b)] := hl
  refine st_new (co := 12) (cj := 8) hx hb hown hC hP hD hS hA (by decide) iw_139 iw_140 iw_116 (Nat.le_of_ble_eq_true rfl) (Nat.le_of_ble_eq_true rfl) ld_0 (fun qP H hP hD hS => ?_)
  refine W.widen (k := 1) (n := 11) (Nat.le_of_ble_eq_true rfl) (Nat.le_of_ble_eq_true rfl) ?_
  refine lv_dup hx hb ld_3 rfl ?_
  refine st_cp (co := 12) (y := (⟨"PointerAnalyzer", "<init>", "()V"⟩ : MethodName)) (ci := 8) hx hb hml hown hC hl.1 hP hD hS hA (im_PA l κ D) ⟨Nat.le_of_ble_eq_true rfl, Nat.le_of_ble_eq_true rfl⟩ iw_143 iw_116 ⟨by decide, by decide⟩ (by decide +kernel) iw_141 rfl iw_142 (Nat.le_of_ble_eq_true rfl) ⟨Nat.le_of_ble_eq_true rfl, Nat.le_of_ble_eq_true rfl⟩ ld_4 (fun aP H locs hP hD hS => ?_)
  refine W.widen (k := 53) (n := 12774) (Nat.le_of_ble_eq_true rfl) (Nat.le_of_ble_eq_true rfl) ?_
  refine lv_astore_n (lv' := [(1, .ref qP), (0, .ref b)]) hx hb ld_7 rfl hl (by decide) rfl (fun ls hl => ?_)
  refine st_new (co := 12) (cj := 9) hx hb hown hC hP hD hS hA (by decide) iw_1375 iw_1376 iw_125 (Nat.le_of_ble_eq_true rfl) (Nat.le_of_ble_eq_true rfl) ld_8 (fun qM H hP hD hS => ?_)
  refine W.widen (k := 54) (n := 12819) (Nat.le_of_ble_eq_true rfl) (Nat.le_of_ble_eq_true rfl) ?_
  refine lv_dup hx hb ld_11 rfl ?_
  refine st_cp (co := 12) (y := (⟨"PointerAnalyzerModel", "<init>", "()V"⟩ : MethodName)) (ci := 9) hx hb hml hown hC hl.1 hP hD hS hA (im_MO l κ D) ⟨Nat.le_of_ble_eq_true rfl, Nat.le_of_ble_eq_true rfl⟩ iw_1379 iw_125 ⟨by decide, by decide⟩ (by decide +kernel) iw_1377 rfl iw_1378 (Nat.le_of_ble_eq_true rfl) ⟨Nat.le_of_ble_eq_true rfl, Nat.le_of_ble_eq_true rfl⟩ ld_12 (fun aM H locs hP hD hS => ?_)
  refine W.widen (k := 77) (n := 21718) (Nat.le_of_ble_eq_true rfl) (Nat.le_of_ble_eq_true rfl) ?_
  refine lv_astore_n (lv' := [(2, .ref qM), (1, .ref qP), (0, .ref b)]) hx hb ld_15 rfl hl (by decide) rfl (fun ls hl => ?_)
  refine lv_iconst (v := 1) hx hb ld_16 (by decide) ?_
  refine st_na (t := 1) (N := 1) hx hb hC hP hD hS hA (by decide) (by decide) (by decide) (Nat.le_of_ble_eq_true rfl) (Nat.le_of_ble_eq_true rfl) (Nat.le_of_ble_eq_true rfl) ld_17 (fun qo H hP hD hS => ?_)
  refine W.widen (k := 78) (n := 21719) (Nat.le_of_ble_eq_true rfl) (Nat.le_of_ble_eq_true rfl) ?_
  refine lv_astore_n (lv' := [(3, .ref qo), (2, .ref qM), (1, .ref qP), (0, .ref b)]) hx hb ld_19 rfl hl (by decide) rfl (fun ls hl => ?_)
  refine lv_iconst (v := 1) hx hb ld_20 (by decide) ?_
  refine st_na (t := 2) (N := 1) hx hb hC hP hD hS hA (by decide) (by decide) (by decide) (Nat.le_of_ble_eq_true rfl) (Nat.le_of_ble_eq_true rfl) (Nat.le_of_ble_eq_true rfl) ld_21 (fun qd H hP hD hS => ?_)
  refine W.widen (k := 79) (n := 21720) (Nat.le_of_ble_eq_true rfl) (Nat.le_of_ble_eq_true rfl) ?_
  refine lv_astore (lv' := [(4, .ref qd), (3, .ref qo), (2, .ref qM), (1, .ref qP), (0, .ref b)]) hx hb ld_23 hl (by decide) rfl (fun ls hl => ?_)
  refine lv_iconst (v := 0) hx hb ld_25 (by decide) ?_
  refine lv_istore (lv' := [(5, .int 0), (4, .ref qd), (3, .ref qo), (2, .ref qM), (1, .ref qP), (0, .ref b)]) hx hb ld_26 hl (by decide) rfl (fun ls hl => ?_)
  have hP : va_P D clA (wst κ qP aP qM aM qo qd) H := hP
  have hD : va_D (fun q : Nat => s.heap.size ≤ q) (wst κ qP aP qM aM qo qd) := hD
  rw [wst_eq κ qP aP qM aM qo qd b (fun j : Int => if j = -1 then (L : Int) else (xs j.toNat).toInt)] at hP hD
  exact from_28 (α := al qP aP qM aM qo qd b) hflags hL C0 hC (fun c hc => hD.2 c _ (wd_get hc)) rfl (fun i j hi hj h => hD.1 i j _ _ (wd_get hi) (wd_get hj) h) hP hS (Nat.le_of_ble_eq_true rfl) (Nat.le_of_ble_eq_true rfl) (lv_sub hl [5, 4, 3, 2, 1, 0] rfl)
set_option maxHeartbeats 4000000 in
theorem lw_walk (l : Launch) (hflags : l.flags = flags0) (b : Addr) (xs : List Int32) : MetFree l x (headSpec (Jvm.Cond.code x code maxLocals ret :: tables_1) room_1) (lw_P b xs) (fun _ _ _ _ _ => True) lw_Q := by
  refine MetFree.of_bodyS (code := code) (maxLocals := maxLocals) (ret := ret) (by decide) ?_ ?_
  · intro args s m h hn
    obtain ⟨meth, c, h1, h2, h3, h4, h5, h6, -, -⟩ := Cond.code_spec hn (atoms_spec (ws := Jvm.Cond.code x code maxLocals ret :: tables_1) h _ List.mem_cons_self)
    exact ⟨meth, c, h1, h2, h3, h4, h5, h6⟩
  · intro p e s m args below meth c s₁ B hml0 hP _
    obtain ⟨rfl, hx, hbd, hgv⟩ := hP
    obtain ⟨scr, harrAt, hlist, hof, hsmall⟩ := hx
    obtain ⟨hcb, hkn, -, -⟩ := State.arrayAt?_spec harrAt
    have hown : s.vm.findClass R_law = some m.cls := findClass_of_methodNamed B.named
    have hts0 : ∀ c ∈ (Jvm.Cond.code x code maxLocals ret :: tables_1), c.before #[Value.ref b] s = true := atoms_spec (ws := Jvm.Cond.code x code maxLocals ret :: tables_1) B.pre
    have hts : ∀ w ∈ lw_tbl, w.before #[Value.ref b] s = true := k2_hts_sels lw_privs (fun w hw => hts0 w (List.mem_cons_of_mem _ hw)) lw_privs_ok
    have hml : c.maxLocals = 9 := B.maxLocals_eq (hts0 _ List.mem_cons_self)
    have X₀ : Stand p l e room_1 s m #[Value.ref b] below meth c s₁ [] 0 0 := Stand.of_body B
    have hh0 : s₁.heap = s.heap := by rw [B.state]; rfl
    have hsz : scr.slots.size = xs.length := by rw [← Array.length_toList, hlist, List.length_map]
    have hval : ∀ j : Nat, j < xs.length → scr.slots[j]? = some (.int (xs.getD j 0)) := fun j hj => by
      rw [← Array.getElem?_toList, hlist]
      simp [hj]
    have hbl : b < s.heap.size := (Array.getElem?_eq_some_iff.mp hcb).1
    have hX : va_X b xs.length (fun j => xs.getD j 0) s s.heap := ⟨scr, hcb, hof, hkn, hsz, hval⟩
    have K : W p l e room_1 s m #[Value.ref b] below meth c s₁.heap [] 0 0 (lw_Z below #[Value.ref b] s) (entryFrame m ([Value.ref b] : List Value).toArray 9) := by
      rw [hh0]
      have htab : c.exceptionTable.toList = [] := by
        obtain ⟨meth9, c9, h1, h2, -, -, -, -, h7, -⟩ := Cond.code_spec B.named (hts0 _ List.mem_cons_self)
        cases Option.some.inj (h1.symm.trans B.method)
        cases Option.some.inj (h2.symm.trans X₀.code)
        rw [Array.isEmpty_iff.mp h7]
      exact whole_start l hflags hbd ⟨B.exec, B.bytes, B.returns, hml, hown, hts, hX, hbl, B.notSynchronized, hgv, htab⟩
    obtain ⟨t, a1, o, b1, b2, b3⟩ := K s₁ rfl X₀
    exact ⟨t, o, a1, b1, b2, b3⟩
theorem lw_pre_spec {args : Array Value} {s : State} (h : (Jvm.Cond.and given_1 narrow_1).before args s = true) (hr : rest_1_c.before args s = true) : ∃ (b : Addr) (xs : List Int32), lw_P b xs args s := by
  have hs := flat_of_before _ h
  have hq := flat_of_before _ hr
  have hc : (Cond.count 1).before args s = true := hs _ (by decide +kernel)
  have harr : (Cond.arrayOf (.arg 0) .int).before args s = true := hs _ (by decide +kernel)
  have hle : (Cond.le (.length (.arg 0)) (.int 2048)).before args s = true := hs _ (by decide +kernel)
  have hlen : (Cond.isInt (.length (.arg 0))).before args s = true := hq _ (by decide +kernel)
  have hall : (Cond.all (.arg 0) (.isInt (.elem (.arg 0) (.index 0)))).before args s = true := hq _ (by decide +kernel)
  obtain ⟨b, xs, hb, hx⟩ := State.ints_of_pre rfl harr hlen hall
  have hsm : xs.length < 2 ^ 31 := hx.choose_spec.2.2.2
  have hev : (Term.length (.arg 0)).eval args s none [] s = some (.int xs.length.toInt32) := hx.length_eval hb
  have hv := Cond.le_ints hev (show (Term.int 2048).eval args s none [] s = some (.int 2048) from rfl)
  have hd : xs.length.toInt32 ≤ 2048 := by
    simpa [Cond.before, Cond.holds, hv] using hle
  have hN : xs.length ≤ 2048 := (Int32.ofNat_le_ofNat hsm (by decide)).mp (show Int32.ofNat xs.length ≤ Int32.ofNat 2048 from hd)
  exact ⟨b, xs, Cond.one_arg hc (show args[0]? = some (.ref b) from hb), hx, hN, h⟩
theorem lw_comes (l : Launch) (hflags : l.flags = flags0) : Comes l x (Jvm.Cond.code x code maxLocals ret :: tables_1) room_1 (fun tb e args s => Calls_1 tb e args s ∧ rest_1 tb e args s ∧ Pre_1 tb e args s)
    (fun _ _ args s o t => lw_Q args s o t) := by
  intro p e ha hc hk s m args below hf hfit hheap happ hpre
  obtain ⟨b, xs, hP⟩ := lw_pre_spec hpre.2.2 hpre.2.1
  obtain ⟨k, o, h1, h2, h3, hQ⟩ := lw_walk l hflags b xs p e ha hc hk s m args below hf ((Spec.applies_iff_loose hf).mp happ).1 hP trivial
  exact ⟨k, o, h1, h2, h3, hQ⟩
theorem lw_frame {s t : State} {o : Outcome} {args : Array Value} (h : State.butDraws s t lw_cs (fun t1 => Framed s o t1 [] 3168 140606)) :
    State.butDraws s t [Jvm.Choice.named "NaN.bits"] (fun t1 => Framed s o t1 (fieldLocs frame_1_writes args s ++ arrayLocs frame_1_arrays args s ++ staticLocs frame_1_statics s) 3168 140606) := h
theorem lw_limb (L : Cond) (hL : ∀ (args : Array Value) (s t : State), L.after args s (.returned (some (.int 1))) t = true) :
    ArmFor flags0 classFile x code maxLocals ret World_1 tables_1 room_1 Calls_1 rest_1 Pre_1
      (fun tb e a s o t => postC L tb e a s o t ∧ State.butDraws s t [Jvm.Choice.named "NaN.bits"] (fun t1 => Framed s o t1 (fieldLocs frame_1_writes a s ++ arrayLocs frame_1_arrays a s ++ staticLocs frame_1_statics s) 3168 140606)) := by
  intro l hflags _ _ p e ha hc hk s m args below hf hfit hheap happ hpre
  obtain ⟨k, o, h1, h2, h3, rfl, hF⟩ := lw_comes l hflags p e ha hc hk s m args below hf hfit hheap happ hpre
  exact ⟨k, _, h1, h2, h3, hL args s _, lw_frame hF⟩
theorem i_vc : Claimed_1_1 ∧ Claimed_1_2 := ⟨lw_limb limb_1_1 (fun args s t => by simp [limb_1_1, Cond.after, Cond.holds, Cond.value]), lw_limb limb_1_2 (fun args s t => Cond.after_iff.mpr (by
  first | (rw [show limb_1_2 = Cond.eq .result (.int 1) from rfl, Cond.eq_ints (x := 1) (y := 1) rfl rfl]; simp; done) | (simp [limb_1_2, Cond.value, Term.eval]; done)))⟩
