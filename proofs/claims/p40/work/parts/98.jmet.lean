/-! the outer walk: a method's contract out of its walk; calls -/
def mR6 (ν : MD) (b : Nat) : Room := { frames := ν.2.2.2.2.1, cells := b, slots := 6 * b, locals := ν.2.2.2.2.2 }
def PcJ (Γ : JG) (as : List Value) (w : va_W) (n : Nat) : Array Value → State → Prop := fun v U => v = as.toArray ∧ U.heap.size = n ∧ CJ Γ U ∧ HJ Γ U ∧ Γ.2.2.2.2 ≤ n ∧ va_P Γ.2.2.1 clB w U.heap ∧ va_D (AJ Γ.2.2.2.2) w
def QcJ (Γ : JG) (Q : JQ) : Array Value → State → Outcome → State → Prop := fun _ st o t => (∃ v w1, o = .returned (v.map (cv id)) ∧ Q v w1 ∧ va_P Γ.2.2.1 clB w1 t.heap ∧ va_D (AJ Γ.2.2.2.2) w1) ∧ va_F (AJ Γ.2.2.2.2) st t
def cdJ (ν : MD) : Cond := .code ν.1 ν.2.1 ν.2.2.1 ν.2.2.2.1
theorem PcJ.blind {Γ : JG} {as : List Value} {w : va_W} {n : Nat} : FrameBlind (PcJ Γ as w n) := by
  intro a U g mk ⟨h1, h2, h3, h4, h5, h6⟩
  exact ⟨h1, h2, CJ.moved (U := U.calling g mk a) (State.WarmedH.refl U) h3, HJ.same (U := U.calling g mk a) h4 rfl (State.WarmedH.refl U), h5, h6⟩
set_option maxHeartbeats 4000000 in
theorem met_J {Γ : JG} {ν : MD} {as : List Value} {w : va_W} {b : Nat} {Q : JQ} {L0 : Lo} (hpl : plainName ν.1.cls = true) (hent : ∀ ls, lv_has ls ν.2.2.1 (lv_args 0 as) → lv_has ls ν.2.2.1 (lvs id 0 L0)) (hsz : (lg_sl as).length ≤ ν.2.2.1) (hj : J Γ ν 0 L0 [] w b Q) (n : Nat) : Met Γ.1 ν.1 [cdJ ν] (mR6 ν b) (PcJ Γ as w n) (QcJ Γ Q) b (6 * b) (AJ Γ.2.2.2.2) := by
  refine Met.ofW (cc := ν.2.1) (maxL := ν.2.2.1) (ret := ν.2.2.2.1) (ws' := []) hpl rfl ?_
  intro p e s m args below meth c s₁ B hml hv
  obtain ⟨rfl, hsz', hC, hH, hge, hP, hD⟩ := hv
  subst hsz'
  have htab : c.exceptionTable.toList = [] := by
    obtain ⟨meth9, c9, h1, h2, -, -, -, -, h7, -⟩ := Cond.code_spec B.named (atoms_spec (ws := [cdJ ν]) B.pre (cdJ ν) List.mem_cons_self)
    cases Option.some.inj (h1.symm.trans B.method)
    cases Option.some.inj (h2.symm.trans (Stand.of_body B).code)
    rw [Array.isEmpty_iff.mp h7]
  have hl := lv_entry as (n := ν.2.2.1) hsz
  rw [lg_entry_eq]
  generalize (lg_sl as ++ List.replicate (ν.2.2.1 - (lg_sl as).length) Slot.unset).toArray = ls at hl ⊢
  refine hj p e _ s m _ below meth c s.heap [] 0 0 ls _ ⟨B.exec, B.bytes, hml, findClass_of_methodNamed B.named, ⟨B.notSynchronized, htab⟩, (name_of_methodNamed B.named B.method).1, hC, hH, hge, Nat.le_refl _, Nat.le_refl _⟩ ?_ (by show 0 + b ≤ b; omega) (by show 0 + 6 * b ≤ 6 * b; omega) (hent ls hl) hP hD va_S.rf
  intro pc i v w1 H1 locs1 cells1 slots1 ls1 d r q hP1 hD1 hS1 hc1 hs1
  have hq : ∀ t : State, t.heap = H1 → QcJ Γ Q as.toArray s (.returned (v.map (cv id))) t := fun t ht => ⟨⟨v, w1, rfl, q, by rw [ht]; exact hP1, hD1⟩, hS1.F ht⟩
  rcases r with ⟨rfl, z, ty, rfl, hr, hn⟩ | ⟨rfl, z, rfl, hr⟩ | ⟨rfl, q0, ty, rfl, hr, href⟩ | ⟨rfl, rfl, hr⟩
  · exact W.widen hc1 hs1 (W.zret B.exec B.bytes (B.returns.trans hr) hn (fun t ht _ => hq t ht) hS1.2.2 d B.notSynchronized)
  · exact W.widen hc1 hs1 (W.lret B.exec B.bytes (B.returns.trans hr) (fun t ht _ => hq t ht) hS1.2.2 d B.notSynchronized)
  · exact W.widen hc1 hs1 (W.aret B.exec B.bytes (B.returns.trans hr) href (Or.inr ⟨_, rfl⟩) (fun t ht _ => hq t ht) hS1.2.2 d B.notSynchronized)
  · exact W.widen hc1 hs1 (W.vret B.exec B.bytes (B.returns.trans hr) (fun t ht _ => hq t ht) hS1.2.2 d B.notSynchronized)
section JM
variable {Γ : JG} {μ ν : MD} {pc : Nat} {L : Lo} {st : List AV} {w : va_W} {t : Nat} {Q : JQ}
variable {p : Program} {e : Env} {R : Room} {s : State} {m : MethodId} {args : Array Value} {below : List Frame} {meth : Method} {c : Code} {H : Heap} {locs : List Loc} {cells slots : Nat} {Qs : State → Prop} {ls : Array Slot}
/-- behind a call -/
theorem J_back {b : Nat} {st0 : List Value} {a : Array Value} {Q' : JQ} (hS : va_S (AJ Γ.2.2.2.2) s.heap H locs) (hge : Γ.2.2.2.2 ≤ s.heap.size)
    (hr : va_Run p Γ.1 e R s m args below meth c H locs cells slots b (6 * b) (F0 m pc ls st0) (st.map (cv id)) (QcJ Γ Q' a) (AJ Γ.2.2.2.2))
    (kk : ∀ (v : Option AV) (w1 : va_W) (H1 : Heap) (locs1 : List Loc), Q' v w1 → va_P Γ.2.2.1 clB w1 H1 → va_D (AJ Γ.2.2.2.2) w1 → va_S (AJ Γ.2.2.2.2) s.heap H1 locs1 → W p Γ.1 e R s m args below meth c H1 locs1 (cells + b) (slots + 6 * b) Qs (F0 m (pc + 3) ls ((optL v ++ st).map (cv id)))) : W p Γ.1 e R s m args below meth c H locs cells slots Qs (F0 m pc ls st0) := by
  intro T hT X
  obtain ⟨v, st₀, t, T', L9, h0, X', hL, e1, e2, ⟨⟨v', w1, ho, hQ, hP1, hD1⟩, hF⟩, st9⟩ := hr T hT X
  have hv : v = v'.map (cv id) := Outcome.returned.inj ho
  have hS1 : va_S (AJ Γ.2.2.2.2) s.heap t.heap (locs ++ L9) := by
    obtain ⟨f1, f2⟩ := hF
    rw [h0] at f1 f2
    refine ⟨Nat.le_trans hS.1 f1, fun q g1 g2 => (f2 q (Nat.lt_of_lt_of_le g1 hS.1) g2).trans (hS.2.1 q g1 g2), fun z hz => ?_⟩
    rcases List.mem_append.mp hz with h | h
    · exact hS.2.2 z h
    · exact hL z h
  obtain ⟨t2, a1, b1⟩ := kk v' w1 t.heap (locs ++ L9) hQ hP1 hD1 hS1 T' e1 X'
  refine ⟨t2, st9 t2 ?_, b1⟩
  have e9 : v.toList ++ st.map (cv id) = (optL v' ++ st).map (cv id) := by
    rw [hv]
    cases v' <;> rfl
  rw [e9]
  exact a1
theorem cdJ_good (ν : MD) (h : cdJ ν ∈ TS) (hC : CX Γ.2.1 Γ.2.2.1 s) : ∀ w ∈ [cdJ ν], ∀ (a' : Array Value) (U : State), s.WarmedH U.vm → w.before a' U = true := by
  intro w hw a' U hWm
  rw [List.mem_singleton.mp hw]
  exact word_at hWm (good_of_word rfl) (hC.words (args := #[]) _ h)
theorem PcJ.pre {as : List Value} (hC : CJ Γ s) (hH : HJ Γ s) (hge : Γ.2.2.2.2 ≤ s.heap.size) (hP : va_P Γ.2.2.1 clB w H) (hD : va_D (AJ Γ.2.2.2.2) w) (hS : va_S (AJ Γ.2.2.2.2) s.heap H locs) : ∀ U : State, U.heap = H → s.WarmedH U.vm → PcJ Γ as w H.size as.toArray U := fun U hU hWm =>
  ⟨rfl, by rw [hU], hC.moved hWm, hH.moved hS hU hWm, Nat.le_trans hge hS.1, by rw [hU]; exact hP, hD⟩
/-- what every call asks of the words and of the room -/
def CWJ (μ ν : MD) (n : Nat) : Prop := cdJ ν ∈ TS ∧ Cond.initialized ν.1.cls ∈ TS ∧ (ν.1.cls ≠ "java/lang/invoke/MethodHandle" ∧ ν.1.cls ≠ "java/lang/invoke/VarHandle") ∧ (parseMethodDescriptor ν.1.desc).map (fun d => d.parameters.length) = some n ∧ plainName ν.1.cls = true ∧ ν.2.2.2.2.1 + 1 ≤ μ.2.2.2.2.1 ∧ 8 + (ν.2.2.1 + 11) + ν.2.2.2.2.2 ≤ μ.2.2.2.2.2
theorem roomJ (m : MethodId) (pc : Nat) (ls : Array Slot) (st : List Value) {st2 : List AV} (h : wt st2 ≤ 8) : 2 * (F0 m pc ls st).monitorRoom + ((st2.map (cv id)).map fun v => v.category).sum ≤ 8 := room_z m pc ls st h
theorem parJ {n : Nat} (h : (parseMethodDescriptor ν.1.desc).map (fun d => d.parameters.length) = some n) : ∀ sig, parseMethodDescriptor ν.1.desc = some sig → n = sig.parameters.length := fun sig hs => by
  rw [hs] at h
  exact (Option.some.inj h).symm
set_option maxHeartbeats 4000000 in
theorem j_callS {idx b n : Nat} {as : List Value} {L0 : Lo} {st0 : List AV} (d : decode μ.2.1 pc = .ok (.invokestatic idx, 3)) (hw : CWJ μ ν n) (hst : Cond.static ν.1 ∈ TS) (hln : Cond.methodLink μ.1.cls idx ν.1 ∈ TS) (hn : as.length = n) (hstk : st0.map (cv id) = as.reverse ++ st.map (cv id)) (hwt : wt st ≤ 8) (hent : ∀ ls, lv_has ls ν.2.2.1 (lv_args 0 as) → lv_has ls ν.2.2.1 (lvs id 0 L0)) (hsz : (lg_sl as).length ≤ ν.2.2.1) (hb : b ≤ t)
    (hj : J Γ ν 0 L0 [] w b (fun v w1 => J Γ μ (pc + 3) L (optL v ++ st) w1 (t - b) Q)) : J Γ μ pc L st0 w t Q := by
  intro p e R s m args below meth c H locs cells slots ls Qs B E hc hs hl hP hD hS
  obtain ⟨k1, k2, k3, k4, k5, k6, k7⟩ := hw
  obtain ⟨b1, b2, b3, b4, b5, b6, b7, b8, b9, b10, b11⟩ := id B
  have hrun := va_runS (As := as) (rest := st.map (cv id)) (g := F0 m pc ls (st0.map (cv id))) (R := R) (below := below) (locs := locs) (cells := cells) (slots := slots) (meth := meth) (p := p) (e := e) ⟨b1, b2, b3, b4, B.wd (args := args)⟩ (met_J k5 hent hsz hj H.size)
    ⟨⟨rfl, rfl, Nat.le_trans k6 b10, Nat.le_trans k7 b11, cdJ_good ν k1 b7.1, List.mem_singleton.mpr rfl, B.wd _ k1, B.wd _ k2, k3, parJ k4, B.wd _ hln⟩, B.wd _ hst⟩ ⟨PcJ.blind, PcJ.pre b7 b8 b9 hP hD hS⟩ rfl hn (hl.1.trans rfl) hstk (roomJ m pc ls _ hwt) d ⟨by omega, by omega⟩
  refine J_back hS b9 hrun (fun v w1 H1 locs1 hk hP1 hD1 hS1 => ?_)
  exact hk p e R s m args below meth c H1 locs1 (cells + b) (slots + 6 * b) ls Qs B E (by omega) (by omega) hl hP1 hD1 hS1
end JM
