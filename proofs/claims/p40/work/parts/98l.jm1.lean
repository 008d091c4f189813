/-! the outer walk: calls of the machine's methods -/
def rv (α : Nat → Nat) (v : AV) : AV := match v with
  | .inr (.inr (.inr (.inr c))) => vR (α c)
  | v => v
theorem cv_rv (α : Nat → Nat) (v : AV) : cv id (rv α v) = cv α v := by
  rcases v with z | z | z | z | c <;> rfl
theorem rf_lt : (List.range 53).all (fun c => (List.range (nf (lc c))).all (fun k => !decide (fk (lc c) k = 2) || decide (rf c k < 53))) = true := by decide +kernel
theorem rf_53 {c k : Nat} (hc : c < 53) (hk : k < nf (lc c)) (h : fk (lc c) k = 2) : rf c k < 53 := by
  have h1 := List.all_eq_true.mp (List.all_eq_true.mp rf_lt c (List.mem_range.mpr hc)) k (List.mem_range.mpr hk)
  simp only [Bool.or_eq_true, Bool.not_eq_true', decide_eq_false_iff_not, decide_eq_true_eq] at h1
  exact h1.resolve_left (fun k => k h)
theorem cE_al {κ : Nat → ClassId} {α α' : Nat → Nat} {σ : St} (h : ∀ c, c < 53 → α' c = α c) {c : Nat} (hc : c < 53) : cE κ α' σ c = cE κ α σ c := by
  unfold cE
  split
  · rfl
  · split
    · rfl
    · split
      · rfl
      · congr 2
        apply List.map_congr_left
        intro k hk
        have hk := List.mem_range.mp hk
        by_cases h2 : fk (lc c) k = 2
        · rw [if_pos h2, if_pos h2, h _ (rf_53 hc hk h2)]
        · rw [if_neg h2, if_neg h2]
theorem wd_al {κ : Nat → ClassId} {α α' : Nat → Nat} {σ : St} (h : ∀ c, c < 53 → α' c = α c) (h53 : gI σ 53 (-1) = 0) : wd κ α' σ = wd κ α σ := by
  unfold wd
  apply List.map_congr_left
  intro c hc
  have hc : c < 53 := by
    have := List.mem_range.mp hc
    rw [h53] at this
    exact this
  rw [h c hc, cE_al h hc]
theorem lc_al : (List.range 53).all (fun c => decide (lc c = 101) || (decide (lc c = 102) || decide (lc c < 9))) = true := by decide +kernel
theorem wd_cl {κ : Nat → ClassId} {D : va_G} {α : Nat → Nat} {σ : St} {H : Heap} (h53 : gI σ 53 (-1) = 0) : va_P D clA (wd κ α σ) H ↔ va_P D clB (wd κ α σ) H := by
  have key : ∀ (k : Nat) (q : Nat × va_E), (wd κ α σ)[k]? = some q → (va_at D clA q H ↔ va_at D clB q H) := by
    intro k q hk
    have hl : k < 53 := by
      have := (List.getElem?_eq_some_iff.mp hk).1
      rw [wd_len, h53] at this
      exact this
    rw [wd_get hl] at hk
    cases hk
    have h9 := List.all_eq_true.mp lc_al k (List.mem_range.mpr hl)
    simp only [Bool.or_eq_true, decide_eq_true_eq] at h9
    rcases h9 with h | h | h
    · rw [cE_101 h]; exact Iff.rfl
    · rw [cE_102 h]; exact Iff.rfl
    · rw [cE_obj h]
      have e : clB[lc k]? = clA[lc k]? := List.getElem?_append_left (by
        have : clA.length = 9 := rfl
        omega)
      show (∃ r : vw_C, clA[lc k]? = some r ∧ _) ↔ (∃ r : vw_C, clB[lc k]? = some r ∧ _)
      rw [e]
  exact ⟨fun h k q hk => (key k q hk).mp (h k q hk), fun h k q hk => (key k q hk).mpr (h k q hk)⟩
theorem va_D_of {A : Nat → Prop} {w1 w2 : va_W} (h : ∀ (k : Nat) (p : Nat × va_E), w2[k]? = some p → ∃ q, w1[k]? = some q ∧ q.1 = p.1) (hD : va_D A w1) : va_D A w2 := by
  refine ⟨fun i j p q hi hj e => ?_, fun k q hk => ?_⟩
  · obtain ⟨p', h1, e1⟩ := h i p hi
    obtain ⟨q', h2, e2⟩ := h j q hj
    exact hD.1 i j p' q' h1 h2 (by rw [e1, e2, e])
  · obtain ⟨q', h1, e1⟩ := h k q hk
    rw [← e1]
    exact hD.2 k q' h1
theorem wd_D2 {κ : Nat → ClassId} {α : Nat → Nat} {σ σ' : St} {u : va_W} {A : Nat → Prop} (h : gI σ 53 (-1) = 0) (h' : gI σ' 53 (-1) = 0) (hD : va_D A (wd κ α σ ++ u)) : va_D A (wd κ α σ' ++ u) := by
  have l1 : (wd κ α σ).length = 53 := by rw [wd_len, h]; rfl
  have l2 : (wd κ α σ').length = 53 := by rw [wd_len, h']; rfl
  refine va_D_of (fun k p hk => ?_) hD
  by_cases hl : k < 53
  · rw [List.getElem?_append_left (by omega), wd_get hl] at hk
    cases hk
    exact ⟨_, (List.getElem?_append_left (by omega)).trans (wd_get hl), rfl⟩
  · rw [List.getElem?_append_right (by omega), l2] at hk
    exact ⟨p, by rw [List.getElem?_append_right (by omega), l1]; exact hk, rfl⟩
def noR (v : Option AV) : Prop := ∀ c, v ≠ some (vR c)
theorem cv_noR {α : Nat → Nat} {v : Option AV} (h : noR v) : (optL v).map (cv α) = (optL v).map (cv id) := by
  rcases v with _ | (z | z | z | z | c)
  · rfl
  · rfl
  · rfl
  · rfl
  · rfl
  · exact absurd rfl (h c)
section JM
variable {Γ : JG} {μ : MD} {pc : Nat} {L : Lo} {st : List AV} {t : Nat} {Q : JQ} {α : Nat → Nat} {σ : St} {u : va_W}
set_option maxHeartbeats 8000000 in
theorem j_M1 (x : Nat) (as1 : List AV) {idx n : Nat} (hlt : Γ.1.stackTraces = false) (d : decode μ.2.1 pc = .ok (.invokestatic idx, 3)) (hμ : μ.1.cls = cN 12) (hx6 : x < 215) (hin : inLW x = true) (hms : mS x = true) (hpar : (parseMethodDescriptor (mY x).desc).map (fun d => d.parameters.length) = some n) (hln : Cond.methodLink (cN 12) idx (mY x) ∈ TS) (hn : as1.length = n) (hsz : wt as1 ≤ mL x) (hwt : wt st ≤ 8) (hfr : mFr x + 1 ≤ μ.2.2.2.2.1) (hlo : 8 + (mL x + 11) + mLo x ≤ μ.2.2.2.2.2) (h53 : gI σ 53 (-1) = 0) (h0 : ∀ v ∈ as1, v ≠ vR 53) (ht : mBu x ≤ t)
    (hc : Call (mBu x) x as1 σ (fun r σ' => ∃ v, r = .inl v ∧ (gI σ' 53 (-1) = 0 ∧ (noR v ∧ J Γ μ (pc + 3) L (optL v ++ st) (wd Γ.2.1 α σ' ++ u) (t - mBu x) Q)))) : J Γ μ pc L ((as1.map (rv α)).reverse ++ st) (wd Γ.2.1 α σ ++ u) t Q := by
  intro p e R s m args below meth c H locs cells slots ls Qs B E hcl hsl hl hP hD hS
  obtain ⟨nn, rr, σ', hex, v, rfl, h53', hnr, hj⟩ := hc
  obtain ⟨b1, b2, b3, b4, b5, b6, b7, b8, b9, b10, b11⟩ := id B
  rw [hμ] at b4
  have l1 : (wd Γ.2.1 α σ).length = 53 := by rw [wd_len, h53]; rfl
  have l2 : (wd Γ.2.1 α σ').length = 53 := by rw [wd_len, h53']; rfl
  have at1 : ∀ c, c < 53 → (wd Γ.2.1 α σ ++ u)[c]? = some (α c, cE Γ.2.1 α σ c) := fun c hc => (List.getElem?_append_left (by omega)).trans (wd_get hc)
  have lt1 : ∀ c, c < 53 → α c < H.size := fun c hc => (hP c _ (at1 c hc)).lt
  obtain ⟨α', hα'⟩ : ∃ α' : Nat → Nat, α' = fun c => if c = 53 then H.size else α c := ⟨_, rfl⟩
  have ea : ∀ c, c < 53 → α' c = α c := fun c hc => by rw [hα']; exact if_neg (by omega)
  have e53 : α' 53 = H.size := by rw [hα']; exact if_pos rfl
  have hAJ : ∀ q, AA (gI σ 53, fun _ => False) α' H.size q → AJ Γ.2.2.2.2 q := fun q hq => by
    rcases hq with ⟨c, hc, e⟩ | hq | hq
    · by_cases h : c < 53
      · rw [e, ea c h]; exact hD.2 c _ (at1 c h)
      · rw [e, show c = 53 by omega, e53]; exact Nat.le_trans b9 hS.1
    · exact Nat.le_trans b9 (Nat.le_trans hS.1 hq)
    · exact hq.elim
  have hSF : SF α' (gI σ 53, fun _ => False) := by
    refine ⟨fun i j hi hj e => ?_, by show 0 ≤ gI σ 53 (-1); rw [h53]; decide, by show gI σ 53 (-1) < 2147483648; rw [h53]; decide⟩
    by_cases hi3 : i < 53
    · by_cases hj3 : j < 53
      · rw [ea i hi3, ea j hj3] at e
        exact hD.1 i j _ _ (at1 i hi3) (at1 j hj3) e
      · rw [ea i hi3, show j = 53 by omega, e53] at e
        have := lt1 i hi3; omega
    · by_cases hj3 : j < 53
      · rw [ea j hj3, show i = 53 by omega, e53] at e
        have := lt1 j hj3; omega
      · omega
  have hPw : va_P Γ.2.2.1 clA (wd Γ.2.1 α' σ) H := by
    rw [wd_al ea h53]
    exact (wd_cl h53).mpr (fun k q hk => hP k q ((List.getElem?_append_left (List.getElem?_eq_some_iff.mp hk).1).trans hk))
  have hM := met_of (frame_all nn) Γ.2.1 Γ.2.2.1 α' (gI σ 53, fun _ => False) Γ.1 x as1 σ (.inl v, σ') H.size hlt hSF hx6 hsz hex
  have hcv : ∀ v ∈ as1, cv id (rv α v) = cv α' v := fun v hv => by
    rw [cv_rv]
    rcases v with z | z | z | z | c
    · rfl
    · rfl
    · rfl
    · rfl
    · have hc : c ≠ 53 := fun e => h0 _ hv (by rw [← e]; rfl)
      show Value.ref (α c) = Value.ref (α' c)
      rw [hα']
      exact congrArg Value.ref (if_neg hc).symm
  have hcm : (as1.map (rv α)).map (cv id) = as1.map (cv α') := by
    rw [List.map_map]
    exact List.map_congr_left hcv
  have hpre : ∀ U : State, U.heap = H → s.WarmedH U.vm → PcX Γ.2.1 Γ.2.2.1 α' (gI σ 53, fun _ => False) as1 σ H.size (as1.map (cv α')).toArray U := fun U hU hWm => by
    have hHU := b8.moved hS hU hWm
    exact ⟨rfl, by rw [hU], CX.moved hWm b7.1, ⟨vx_Zq.narrow hHU.1.1 hAJ, vx_Zq.narrow hHU.1.2 hAJ⟩, by rw [hU]; exact ⟨hPw, fun _ => rfl⟩⟩
  have hcw := B.wd (args := args)
  obtain ⟨w1, w2, w3, w4, -⟩ := lw_at hin
  have hpn := m_at hx6
  have hlen2 : (as1.map (cv α')).length = n := by rw [List.length_map]; exact hn
  have hpar2 : ∀ sig, parseMethodDescriptor (mY x).desc = some sig → n = sig.parameters.length := fun sig hs => by
    rw [hs] at hpar
    exact (Option.some.inj hpar).symm
  have hws : ∀ w ∈ [cdW x], ∀ (a' : Array Value) (U : State), s.WarmedH U.vm → w.before a' U = true := fun w hw a' U hWm => good_w (args := args) w2 w hw a' U hWm (by rw [List.mem_singleton.mp hw]; exact hcw _ w1)
  have hstk : ((as1.map (rv α)).reverse ++ st).map (cv id) = (as1.map (cv α')).reverse ++ st.map (cv id) := by
    rw [List.map_append, List.map_reverse, hcm]
  have hrun : vx_Run p Γ.1 e R s m args below meth c H locs cells slots (mBu x) (6 * mBu x) (F0 m pc ls (((as1.map (rv α)).reverse ++ st).map (cv id))) (st.map (cv id)) (QcX Γ.2.1 Γ.2.2.1 α' (gI σ 53, fun _ => False) (.inl v, σ') H.size (as1.map (cv α')).toArray) (XcX Γ.2.1 Γ.2.2.1 α' (gI σ 53, fun _ => False) (.inl v, σ') H.size) (AA (gI σ 53, fun _ => False) α' H.size) := by
    cases hh : (mH x).isEmpty with
    | true =>
      have hcode := hcw _ w1
      rw [cdW_t hh] at hcode
      exact vx_runS (Ts := TS) (cc := μ.2.1) (nL := μ.2.2.1) (n := n) (own := cN 12) (index := idx) (bytes := mB x) (maxL := mL x) (ret := mR x) ⟨b1, b2, b3, b4, hcw⟩ hM
        ⟨⟨rfl, rfl, Nat.le_trans hfr b10, Nat.le_trans hlo b11, hws, by rw [cdW_t hh]; exact List.mem_singleton.mpr rfl, hcode, hcw _ w3, ⟨hpn.2.1, hpn.2.2.1⟩, hpar2, hcw _ hln⟩, hcw _ (w4 hms)⟩
        ⟨PcX.blind, hpre⟩ rfl hlen2 hl.1 hstk (roomJ m pc ls _ hwt) d ⟨by omega, by omega⟩
    | false =>
      have hcode := hcw _ w1
      rw [cdW_f hh] at hcode
      exact vx_runSX (Ts := TS) (cc := μ.2.1) (nL := μ.2.2.1) (n := n) (own := cN 12) (index := idx) (bytes := mB x) (maxL := mL x) (ret := mR x) (hh := mH x) ⟨b1, b2, b3, b4, hcw⟩ hM
        ⟨⟨rfl, rfl, Nat.le_trans hfr b10, Nat.le_trans hlo b11, hws, by rw [cdW_f hh]; exact List.mem_singleton.mpr rfl⟩, hcode, hcw _ w3, ⟨hpn.2.1, hpn.2.2.1⟩, hpar2, hcw _ hln, hcw _ (w4 hms)⟩
        ⟨PcX.blind, hpre⟩ rfl hlen2 hl.1 hstk (roomJ m pc ls _ hwt) d ⟨by omega, by omega⟩
  refine run_go hrun (fun v9 st₀ t9 L9 h0 hL hq => ?_) (fun q st₀ t9 L9 E9 ce _ _ hxc => ?_)
  · obtain ⟨⟨v1, σ1, hr, ho, hW1⟩, hF⟩ := hq
    cases hr
    have hv9 : v9 = v.map (cv α') := Outcome.returned.inj ho
    replace hF : H.size ≤ t9.heap.size ∧ ∀ q : Nat, q < H.size → ¬ AA (gI σ 53, fun _ => False) α' H.size q → t9.heap[q]? = H[q]? := by
      obtain ⟨f1, f2⟩ := hF
      rw [h0] at f1 f2
      exact ⟨f1, f2⟩
    have hP1 : va_P Γ.2.2.1 clB (wd Γ.2.1 α σ' ++ u) t9.heap := by
      have hw := (wd_cl h53').mp (by rw [← wd_al ea h53']; exact hW1.1)
      refine hw.app (fun k q hk => ?_)
      have hk2 : (wd Γ.2.1 α σ ++ u)[53 + k]? = some q := by
        rw [List.getElem?_append_right (by omega), l1, Nat.add_sub_cancel_left]; exact hk
      have hq2 := hP _ q hk2
      refine hq2.kept (hF.2 q.1 hq2.lt (fun hA => ?_))
      rcases hA with ⟨c, hc, e⟩ | hA | hA
      · by_cases h : c < 53
        · rw [ea c h] at e
          have := hD.1 (53 + k) c q _ hk2 (at1 c h) e
          omega
        · rw [show c = 53 by omega, e53] at e
          have := hq2.lt; omega
      · have := hq2.lt; omega
      · exact hA.elim
    have hS1 : va_S (AJ Γ.2.2.2.2) s.heap t9.heap (locs ++ L9) := by
      refine ⟨Nat.le_trans hS.1 hF.1, fun q g1 g2 => (hF.2 q (Nat.lt_of_lt_of_le g1 hS.1) (fun hA => g2 (hAJ q hA))).trans (hS.2.1 q g1 g2), fun z hz => ?_⟩
      rcases List.mem_append.mp hz with h | h
      · exact hS.2.2 z h
      · exact hAJ _ (hL z h)
    have k1 := hj p e R s m args below meth c t9.heap (locs ++ L9) (cells + mBu x) (slots + 6 * mBu x) ls Qs B E (by omega) (by omega) hl hP1 (wd_D2 h53 h53' hD) hS1
    have e9 : v9.toList ++ st.map (cv id) = (optL v ++ st).map (cv id) := by
      rw [hv9, List.map_append, ← cv_noR (α := α') hnr]
      cases v <;> rfl
    rw [e9]
    exact k1
  · obtain ⟨⟨X, σ1, hr, -⟩, -⟩ := hxc
    cases hr
end JM
