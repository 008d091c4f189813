/-! the outer walk: calls on objects -/
theorem oj_1 : Cond.instanceMethod objectInit ∈ TS := ts_mem (i := 97) (by decide +kernel) rfl
theorem oj_2 : Cond.code objectInit ⟨#[0xb1]⟩ 1 none ∈ TS := ts_mem (i := 98) (by decide +kernel) rfl
theorem sel_priv {C : String} {x x0 : MethodName} {s : State} {args : Array Value} (hc : x0.cls = x.cls) (hx : x.cls ≠ "java/lang/invoke/MethodHandle" ∧ x.cls ≠ "java/lang/invoke/VarHandle") (h0 : (Cond.selects C x0 x0).before args s = true) (hpriv : (Cond.privateMethod x).before args s = true) (hinst : (Cond.instanceMethod x).before args s = true) : (Cond.selects C x x).before args s = true := by
  obtain ⟨mk, methM, hnamed, hmethM, -, -⟩ := Cond.instanceMethod_spec hinst
  have hfound : s.methodFound? x.cls x.name x.desc = some mk := State.methodFound?_of_named hnamed hx
  simp only [Cond.before, Cond.holds, Cond.value] at h0 ⊢
  cases hcl : s.vm.findClass C with
  | none => simp [hcl] at h0
  | some c =>
    cases hr : s.methodFound? x0.cls x0.name x0.desc with
    | none => simp [hcl, hr] at h0
    | some r =>
      cases hm : s.methodNamed? x0 with
      | none => simp [hcl, hr, hm] at h0
      | some m0 =>
        have hsel : selectMethod {} s.vm c mk = .method mk := selectMethod_private hmethM (Cond.privateMethod_at hpriv mk methM hnamed hmethM)
        have e : m0.cls = mk.cls := Option.some.inj ((findClass_of_methodNamed hm).symm.trans (by rw [hc]; exact findClass_of_methodNamed hnamed))
        simp only [hcl, hr, hm] at h0
        simp only [hfound, hnamed, hsel]
        cases hq : selectMethod {} s.vm c r with
        | method m' =>
          simp only [hq] at h0
          simp at h0 ⊢
          rw [← e]
          exact h0.2
        | _ => simp [hq] at h0
theorem sel_pv {Γ : JG} {s : State} {args : Array Value} {x : MethodName} (hx : x ∈ jPV) (h : CJ Γ s) : (Cond.selects nSB x x).before args s = true := va_Nw.use rfl (h.2.2.2.2.1 x hx)
theorem sel_ts {Γ : JG} {s : State} {args : Array Value} {x y : MethodName} (hx : Cond.selects nSB x y ∈ TS) (h : CJ Γ s) : (Cond.selects nSB x y).before args s = true := h.1.words _ hx
section JM
variable {Γ : JG} {μ ν : MD} {pc : Nat} {L : Lo} {st : List AV} {w : va_W} {t : Nat} {Q : JQ}
/-- who receives a call -/
def RV (Γ : JG) (w : va_W) (r : Nat) (C : String) : Prop := (∃ (i : Nat) (fs : List Value), w[i]? = some ((r, .inr (9, fs)) : Nat × va_E) ∧ C = nSB) ∨ ((∃ (i : Nat) (fs : List Value), w[i]? = some ((r, .inr (10, fs)) : Nat × va_E) ∧ C = nST) ∨ ∃ i, i < 12 ∧ r = Γ.2.2.2.1.1 i ∧ C = nST)
theorem SSV.rv {r b n : Nat} {f : Nat → Int32} (h : SSV Γ w r b n f) : RV Γ w r nST := by
  rcases h with ⟨i, j, x, y, h1, h2⟩ | ⟨i, h1, h2, h3⟩
  · exact Or.inr (Or.inl ⟨i, _, h1, rfl⟩)
  · exact Or.inr (Or.inr ⟨i, h1, h2, rfl⟩)
theorem RV.cell {p : Program} {R : Room} {s : State} {m : MethodId} {meth : Method} {c : Code} {H : Heap} {locs : List Loc} {r : Nat} {C : String} (h : RV Γ w r C) (B : BJ Γ μ p R s m meth c) (hP : va_P Γ.2.2.1 clB w H) (hS : va_S (AJ Γ.2.2.2.2) s.heap H locs) : ∃ cell : Cell, H[r]? = some cell ∧ cell.vm.isStatics = false ∧ s.vm.findClass C = some cell.cls := by
  rcases h with ⟨i, fs, h, rfl⟩ | ⟨i, fs, h, rfl⟩ | ⟨i, hi, rfl, rfl⟩
  · exact va_recv B.kj hP clB_9 h
  · exact va_recv B.kj hP clB_10 h
  · exact vk_recv B.hj.2.1 hi hS
set_option maxHeartbeats 4000000 in
theorem j_callV {idx b n r : Nat} {as : List Value} {L0 : Lo} {st0 : List AV} (d : decode μ.2.1 pc = .ok (.invokevirtual idx, 3)) (hw : CWJ μ ν n) (hin : Cond.instanceMethod ν.1 ∈ TS) (hse : Cond.selects ν.1.cls ν.1 ν.1 ∈ TS) (hln : Cond.methodLink μ.1.cls idx ν.1 ∈ TS) (hn : as.length = n) (hrv : RV Γ w r ν.1.cls) (hstk : st0.map (cv id) = as.reverse ++ .ref r :: st.map (cv id)) (hwt : wt st ≤ 8) (hent : ∀ ls, lv_has ls ν.2.2.1 (lv_args 0 (.ref r :: as)) → lv_has ls ν.2.2.1 (lvs id 0 L0)) (hsz : (lg_sl (.ref r :: as)).length ≤ ν.2.2.1) (hb : b ≤ t)
    (hj : J Γ ν 0 L0 [] w b (fun v w1 => J Γ μ (pc + 3) L (optL v ++ st) w1 (t - b) Q)) : J Γ μ pc L st0 w t Q := by
  intro p e R s m args below meth c H locs cells slots ls Qs B E hc hs hl hP hD hS
  obtain ⟨k1, k2, k3, k4, k5, k6, k7⟩ := hw
  obtain ⟨b1, b2, b3, b4, b5, b6, b7, b8, b9, b10, b11⟩ := id B
  have hrun := va_runV (As := as) (b := r) (C := ν.1.cls) (rest := st.map (cv id)) (g := F0 m pc ls (st0.map (cv id))) (R := R) (below := below) (locs := locs) (cells := cells) (slots := slots) (meth := meth) (p := p) (e := e) ⟨b1, b2, b3, b4, B.wd (args := args)⟩ (met_J k5 hent hsz hj H.size)
    ⟨⟨rfl, rfl, Nat.le_trans k6 b10, Nat.le_trans k7 b11, cdJ_good ν k1 b7.1, List.mem_singleton.mpr rfl, B.wd _ k1, B.wd _ k2, k3, parJ k4, B.wd _ hln⟩, B.wd _ hin, B.wd _ hse⟩ ⟨PcJ.blind, hrv.cell B hP hS, PcJ.pre b7 b8 b9 hP hD hS⟩ rfl hn (hl.1.trans rfl) hstk (roomJ m pc ls _ hwt) d ⟨by omega, by omega⟩
  refine J_back hS b9 hrun (fun v w1 H1 locs1 hk hP1 hD1 hS1 => ?_)
  exact hk p e R s m args below meth c H1 locs1 (cells + b) (slots + 6 * b) ls Qs B E (by omega) (by omega) hl hP1 hD1 hS1
set_option maxHeartbeats 4000000 in
/-- AbstractStringBuilder's methods on a StringBuilder -/
theorem j_callU {idx b n r : Nat} {x : MethodName} {as : List Value} {L0 : Lo} {st0 : List AV} {xb : ByteArray} {xm : Nat} {xr : Option FieldType} (d : decode μ.2.1 pc = .ok (.invokevirtual idx, 3)) (hw : CWJ μ ν n) (hxc : x.cls = "java/lang/AbstractStringBuilder") (hxd : x.desc = ν.1.desc) (hxi : Cond.instanceMethod x ∈ TS) (hxk : Cond.code x xb xm xr ∈ TS) (hsm : Cond.sameMethod x.cls x.cls x.name x.desc ∈ TS) (hin : Cond.instanceMethod ν.1 ∈ TS) (hse : ∀ (s : State) (args : Array Value), CJ Γ s → (Cond.selects nSB x ν.1).before args s = true) (hln : Cond.methodLink μ.1.cls idx x ∈ TS) (hn : as.length = n) (hrv : RV Γ w r nSB) (hstk : st0.map (cv id) = as.reverse ++ .ref r :: st.map (cv id)) (hwt : wt st ≤ 8) (hent : ∀ ls, lv_has ls ν.2.2.1 (lv_args 0 (.ref r :: as)) → lv_has ls ν.2.2.1 (lvs id 0 L0)) (hsz : (lg_sl (.ref r :: as)).length ≤ ν.2.2.1) (hb : b ≤ t)
    (hj : J Γ ν 0 L0 [] w b (fun v w1 => J Γ μ (pc + 3) L (optL v ++ st) w1 (t - b) Q)) : J Γ μ pc L st0 w t Q := by
  intro p e R s m args below meth c H locs cells slots ls Qs B E hc hs hl hP hD hS
  obtain ⟨k1, k2, k3, k4, k5, k6, k7⟩ := hw
  obtain ⟨b1, b2, b3, b4, b5, b6, b7, b8, b9, b10, b11⟩ := id B
  have hrun := va_runU (As := as) (b := r) (C := nSB) (owner := x.cls) (x := x) (y := ν.1) (rest := st.map (cv id)) (g := F0 m pc ls (st0.map (cv id))) (R := R) (below := below) (locs := locs) (cells := cells) (slots := slots) (meth := meth) (p := p) (e := e) ⟨b1, b2, b3, b4, B.wd (args := args)⟩ (met_J k5 hent hsz hj H.size)
    ⟨⟨rfl, rfl, Nat.le_trans k6 b10, Nat.le_trans k7 b11, cdJ_good ν k1 b7.1, List.mem_singleton.mpr rfl⟩, B.wd _ k1, B.wd _ k2, by rw [hxc]; decide, by rw [hxd]; exact parJ k4, B.wd _ hln, B.wd _ hsm, va_Decl.of (args := args) (B.wd _ hxi) (B.wd _ hxk), hse s args b7, B.wd _ hin⟩ ⟨PcJ.blind, hrv.cell B hP hS, PcJ.pre b7 b8 b9 hP hD hS⟩ rfl hn (hl.1.trans rfl) hstk (roomJ m pc ls _ hwt) d ⟨by omega, by omega⟩
  refine J_back hS b9 hrun (fun v w1 H1 locs1 hk hP1 hD1 hS1 => ?_)
  exact hk p e R s m args below meth c H1 locs1 (cells + b) (slots + 6 * b) ls Qs B E (by omega) (by omega) hl hP1 hD1 hS1
set_option maxHeartbeats 4000000 in
/-- super.m(..) -/
theorem j_callSU {idx b n r : Nat} {as : List Value} {L0 : Lo} {st0 : List AV} (d : decode μ.2.1 pc = .ok (.invokespecial idx, 3)) (hw : CWJ μ ν n) (hsm : Cond.sameMethod ν.1.cls ν.1.cls ν.1.name ν.1.desc ∈ TS) (hsu : Cond.superclass μ.1.cls ν.1.cls ∈ TS) (hni : ν.1.name ≠ "<init>") (hin : Cond.instanceMethod ν.1 ∈ TS) (hln : Cond.methodLink μ.1.cls idx ν.1 ∈ TS) (hn : as.length = n) (hrv : RV Γ w r nSB) (hstk : st0.map (cv id) = as.reverse ++ .ref r :: st.map (cv id)) (hwt : wt st ≤ 8) (hent : ∀ ls, lv_has ls ν.2.2.1 (lv_args 0 (.ref r :: as)) → lv_has ls ν.2.2.1 (lvs id 0 L0)) (hsz : (lg_sl (.ref r :: as)).length ≤ ν.2.2.1) (hb : b ≤ t)
    (hj : J Γ ν 0 L0 [] w b (fun v w1 => J Γ μ (pc + 3) L (optL v ++ st) w1 (t - b) Q)) : J Γ μ pc L st0 w t Q := by
  intro p e R s m args below meth c H locs cells slots ls Qs B E hc hs hl hP hD hS
  obtain ⟨k1, k2, k3, k4, k5, k6, k7⟩ := hw
  obtain ⟨b1, b2, b3, b4, b5, b6, b7, b8, b9, b10, b11⟩ := id B
  have hrun := va_runSU (As := as) (b := r) (C := nSB) (rest := st.map (cv id)) (g := F0 m pc ls (st0.map (cv id))) (R := R) (below := below) (locs := locs) (cells := cells) (slots := slots) (meth := meth) (p := p) (e := e) (B.kj.1 9 _ clB_9).2 ⟨b1, b2, b3, b4, B.wd (args := args)⟩ (met_J k5 hent hsz hj H.size)
    ⟨⟨rfl, rfl, Nat.le_trans k6 b10, Nat.le_trans k7 b11, cdJ_good ν k1 b7.1, List.mem_singleton.mpr rfl⟩, B.wd _ hln, B.wd _ hsm, B.wd _ hsu, B.wd _ hin, B.wd _ k2, B.wd _ k1, hni, parJ k4⟩ ⟨PcJ.blind, hrv.cell B hP hS, PcJ.pre b7 b8 b9 hP hD hS⟩ rfl hn (hl.1.trans rfl) hstk (roomJ m pc ls _ hwt) d ⟨by omega, by omega⟩
  refine J_back hS b9 hrun (fun v w1 H1 locs1 hk hP1 hD1 hS1 => ?_)
  exact hk p e R s m args below meth c H1 locs1 (cells + b) (slots + 6 * b) ls Qs B E (by omega) (by omega) hl hP1 hD1 hS1
set_option maxHeartbeats 4000000 in
/-- constructors -/
theorem j_callI {idx b n r : Nat} {as : List Value} {L0 : Lo} {st0 : List AV} (d : decode μ.2.1 pc = .ok (.invokespecial idx, 3)) (hw : CWJ μ ν n) (hret : ν.2.2.2.1 = none) (hyn : ν.1.name = "<init>") (hin : Cond.instanceMethod ν.1 ∈ TS) (hln : Cond.methodLink μ.1.cls idx ν.1 ∈ TS) (hn : as.length = n) (hstk : st0.map (cv id) = as.reverse ++ .ref r :: st.map (cv id)) (hwt : wt st ≤ 8) (hent : ∀ ls, lv_has ls ν.2.2.1 (lv_args 0 (.ref r :: as)) → lv_has ls ν.2.2.1 (lvs id 0 L0)) (hsz : (lg_sl (.ref r :: as)).length ≤ ν.2.2.1) (hb : b ≤ t)
    (hj : J Γ ν 0 L0 [] w b (fun v w1 => J Γ μ (pc + 3) L (optL v ++ st) w1 (t - b) Q)) : J Γ μ pc L st0 w t Q := by
  intro p e R s m args below meth c H locs cells slots ls Qs B E hc hs hl hP hD hS
  obtain ⟨k1, k2, k3, k4, k5, k6, k7⟩ := hw
  obtain ⟨b1, b2, b3, b4, b5, b6, b7, b8, b9, b10, b11⟩ := id B
  have k1' : Cond.code ν.1 ν.2.1 ν.2.2.1 none ∈ TS := by
    have := k1
    unfold cdJ at this
    rw [hret] at this
    exact this
  have hrun := va_runI (As := as) (b := r) (bytes := ν.2.1) (maxL := ν.2.2.1) (rest := st.map (cv id)) (g := F0 m pc ls (st0.map (cv id))) (R := R) (below := below) (locs := locs) (cells := cells) (slots := slots) (meth := meth) (p := p) (e := e) ⟨b1, b2, b3, b4, B.wd (args := args)⟩ (met_J k5 hent hsz hj H.size)
    ⟨⟨rfl, rfl, Nat.le_trans k6 b10, Nat.le_trans k7 b11, cdJ_good ν k1 b7.1, List.mem_singleton.mpr (by unfold cdJ; rw [hret]), B.wd _ k1', B.wd _ k2, k3, parJ k4, B.wd _ hln⟩, hyn, B.wd _ hin⟩ ⟨PcJ.blind, PcJ.pre b7 b8 b9 hP hD hS⟩ rfl hn (hl.1.trans rfl) hstk (roomJ m pc ls _ hwt) d ⟨by omega, by omega⟩
  refine J_back hS b9 hrun (fun v w1 H1 locs1 hk hP1 hD1 hS1 => ?_)
  exact hk p e R s m args below meth c H1 locs1 (cells + b) (slots + 6 * b) ls Qs B E (by omega) (by omega) hl hP1 hD1 hS1
theorem j_obj {idx r : Nat} (d : decode μ.2.1 pc = .ok (.invokespecial idx, 3)) (hln : Cond.methodLink μ.1.cls idx objectInit ∈ TS) (hfr : 1 ≤ μ.2.2.2.2.1) (hlo : wt st + 12 ≤ μ.2.2.2.2.2) (kk : J Γ μ (pc + 3) L st w t Q) : J Γ μ pc L (vR r :: st) w t Q := by
  intro p e R s m args below meth c H locs cells slots ls Qs B E hc hs hl hP hD hS
  have hrest : 2 * 0 + ((st.map (cv id)).map fun v => v.category).sum + 12 ≤ R.locals := by
    rw [wt_sum]; exact Nat.le_trans (by omega) (Nat.le_trans hlo B.2.2.2.2.2.2.2.2.2.2)
  refine W.objInit (g := F0 m pc ls (.ref r :: st.map (cv id))) B.1 B.2.1 B.2.2.2.1 (B.wd _ hln) (B.wd _ oj_1) (B.wd _ oj_2) rfl (by rw [B.2.2.1]; exact hl.1) rfl d (Nat.le_trans hfr B.2.2.2.2.2.2.2.2.2.1) hrest ?_
  exact W.eq (g2 := F0 m (pc + 3) ls (st.map (cv id))) rfl (kk p e R s m args below meth c H locs cells slots ls Qs B E hc hs hl hP hD hS)
end JM
