/-! the outer walk goes over into the machine: the ends of bounds, ranks, saved -/
/-- the cells of the world alone count -/
theorem J_drop {Γ : JG} {μ : MD} {pc : Nat} {L : Lo} {st : List AV} {w u : va_W} {t : Nat} {Q : JQ} (h : J Γ μ pc L st w t Q) : J Γ μ pc L st (w ++ u) t Q := by
  intro p e R s m args below meth c H locs cells slots ls Qs B E hc hs hl hP hD hS
  refine h p e R s m args below meth c H locs cells slots ls Qs B E hc hs hl (fun k q hk => hP k q ((app_lt (get_lt hk)).trans hk)) ?_ hS
  exact va_D_of (fun k p hk => ⟨p, (app_lt (get_lt hk)).trans hk, rfl⟩) hD
/-- a state with the row there, and without -/
def sA (σ : St) (n : Int) : St := (fun c j => if c = 53 then (if j = -1 then n else 0) else σ.1 c j, (fun c j => if c = 53 then 0 else σ.2.1 c j, σ.2.2))
def MF (μ : MD) (x : Nat) : Prop := μ.2.1 = mB x ∧ μ.2.2.1 = mL x ∧ μ.1.cls = cN (mC x) ∧ μ.2.2.2.1 = mR x ∧ x < 215 ∧ mH x = [] ∧ mFr x ≤ μ.2.2.2.2.1 ∧ mLo x ≤ μ.2.2.2.2.2
theorem cE_loc {κ : Nat → ClassId} {α : Nat → Nat} {σ σ' : St} {c : Nat} (h : c < 53) (hI : ∀ j, gI σ' c j = gI σ c j) (hL : ∀ j, gL σ' c j = gL σ c j) : cE κ α σ' c = cE κ α σ c := by
  have h9 := List.all_eq_true.mp lc_al c (List.mem_range.mpr h)
  simp only [Bool.or_eq_true, decide_eq_true_eq] at h9
  unfold cE
  simp only [hI, hL]
theorem wd_loc {κ : Nat → ClassId} {α : Nat → Nat} {σ σ' : St} (h : ∀ c, c < 53 → ∀ j, gI σ' c j = gI σ c j ∧ gL σ' c j = gL σ c j) (h53 : gI σ 53 (-1) = 0) (h53' : gI σ' 53 (-1) = 0) : wd κ α σ' = wd κ α σ := by
  unfold wd
  rw [h53, h53']
  apply List.map_congr_left
  intro c hc
  have hc : c < 53 := List.mem_range.mp hc
  rw [cE_loc hc (fun j => (h c hc j).1) (fun j => (h c hc j).2)]
/-- the world with the row -/
theorem wd_row {κ : Nat → ClassId} {α : Nat → Nat} {σ : St} {n : Int} (hn : n ≠ 0) (h53 : gI σ 53 (-1) = n) : wd κ α σ = (List.range 53).map (fun c => (α c, cE κ α σ c)) ++ [(α 53, cE κ α σ 53)] := by
  unfold wd nX
  rw [h53, if_neg hn, List.range_succ, List.map_append]
  rfl
set_option maxHeartbeats 4000000 in
theorem tail_core {Γ : JG} {μ : MD} {x : Nat} (F : MF μ x) (hlt : Γ.1.stackTraces = false) {Q : JQ} {pc t : Nat} {L1 : Lo} {st1 : List AV} {σA : St} {α' : Nat → Nat} {w1 : St → va_W} {p : Program} {e : Env} {R : Room} {s : State} {m : MethodId} {args : Array Value} {below : List Frame} {meth : Method} {c : Code} {H : Heap} {locs : List Loc} {cells slots : Nat} {ls : Array Slot} {Qs : State → Prop}
    (B : BJ Γ μ p R s m meth c) (E : EJ Γ μ p e R s m args below meth c Qs Q) (hc : cells + t ≤ R.cells) (hs : slots + 6 * t ≤ R.slots) (hl : lv_has ls μ.2.2.1 (lvs α' 0 L1)) (hSF : SF α' (gI σA 53, AJ Γ.2.2.2.2)) (hP : va_P Γ.2.2.1 clA (wd Γ.2.1 α' σA) H) (hS : va_S (AJ Γ.2.2.2.2) s.heap H locs) (hα : ∀ c, c < 54 → Γ.2.2.2.2 ≤ α' c)
    (hw : ∀ σ1 H1, (∀ j, gI σ1 53 j = gI σA 53 j) → va_P Γ.2.2.1 clA (wd Γ.2.1 α' σ1) H1 → va_P Γ.2.2.1 clB (w1 σ1) H1 ∧ va_D (AJ Γ.2.2.2.2) (w1 σ1))
    (hwp : wp t x pc L1 st1 σA (fun r σ1 => ∃ z, r = .inl (some (vI z)) ∧ Q (some (vI z)) (w1 σ1))) : W p Γ.1 e R s m args below meth c H locs cells slots Qs (F0 m pc ls (st1.map (cv α'))) := by
  obtain ⟨n, r, σ', hex, z, rfl, hq⟩ := hwp
  obtain ⟨F1, F2, F3, F4, F5, F6, F7, F8⟩ := F
  obtain ⟨b1, b2, b3, b4, b5, b6, b7, b8, b9, b10, b11⟩ := id B
  have hAJ : ∀ q, AA (gI σA 53, AJ Γ.2.2.2.2) α' s.heap.size q → AJ Γ.2.2.2.2 q := fun q hq => by
    rcases hq with ⟨c, hc, e⟩ | hq | hq
    · rw [e]; exact hα c hc
    · exact Nat.le_trans b9 hq
    · exact hq
  have hC : Ctx Γ.2.1 Γ.2.2.1 α' (gI σA 53, AJ Γ.2.2.2.2) Γ.1 p s m meth c x := ⟨b1, b2.trans F1, b3.trans F2, F5, by rw [← F3]; exact b4, b5.1, hlt, by rw [b5.2, F6]; rfl, b7.1, ⟨vx_Zq.narrow b8.1.1 hAJ, vx_Zq.narrow b8.1.2 hAJ⟩, hSF⟩
  refine frame_all n Γ.2.1 Γ.2.2.1 α' (gI σA 53, AJ Γ.2.2.2.2) p Γ.1 e R s m args below meth c x t pc L1 st1 σA _ H locs cells slots ls Qs hC (Nat.le_trans F7 b10) (Nat.le_trans F8 b11) hc hs ?_ ?_ ?_ (by rw [← F2]; exact hl) ⟨hP, fun _ => rfl⟩ ⟨hS.1, fun q hq hn => hS.2.1 q hq (fun k => hn (Or.inr (Or.inr k))), fun z hz => Or.inr (Or.inr (hS.2.2 z hz))⟩ hex
  · intro pc1 en v σ1 st2 H1 locs1 cells1 slots1 ls1 hrr hcd hret hW hS1 hc1 hs1
    cases hrr
    obtain ⟨hdec, hlen, hok⟩ := cd_dec F5 hcd
    obtain ⟨i, n9, x9, y9⟩ := en
    dsimp only at hdec hlen hok hret
    have hS2 : va_S (AJ Γ.2.2.2.2) s.heap H1 locs1 := ⟨hS1.1, fun q hq hn => hS1.2.1 q hq (fun k => hn (hAJ q k)), fun z hz => hAJ _ (hS1.2.2 z hz)⟩
    obtain ⟨g1, g2⟩ := hw _ H1 hW.2 hW.1
    rcases hret with ⟨rfl, z1, h1, rfl, hz⟩ | ⟨rfl, z1, h1, rfl⟩ | ⟨rfl, z1, h1, rfl⟩ | ⟨rfl, z1, h1, rfl⟩ | ⟨rfl, z1, h1, rfl⟩ | ⟨rfl, h1, rfl⟩
    · have e1 : n9 = 1 := len_ok hlen rfl
      subst e1
      cases h1
      rw [← F1] at hdec
      refine E pc1 .ireturn (some (vI z)) _ H1 locs1 cells1 slots1 ls1 hdec (Or.inl ⟨rfl, z, ?_⟩) hq g1 g2 hS2 hc1 hs1
      rcases of_decide_eq_true hok with h1 | ⟨h1, h2⟩
      · exact ⟨.int, rfl, F4.trans h1, rfl⟩
      · exact ⟨.boolean, rfl, F4.trans h1, (int_bool (hz h2)).1⟩
    all_goals cases h1
  · intro pc1 i n9 x9 y9 σ1 H1 locs1 cells1 slots1 ls1 hrr
    cases hrr
  · intro pc1 X q ce σ1 rest H1 locs1 cells1 slots1 ls1 hrr
    cases hrr
section JTL
variable {Γ : JG} {μ : MD} {pc : Nat} {t : Nat} {Q : JQ} {α : Nat → Nat} {σ : St}
theorem wd_at {κ : Nat → ClassId} {α : Nat → Nat} {σ : St} {u : va_W} {c : Nat} (hc : c < 53) : (wd κ α σ ++ u)[c]? = some (α c, cE κ α σ c) :=
  (List.getElem?_append_left (by rw [wd_len]; exact Nat.lt_of_lt_of_le hc (nX_ge _).1)).trans (wd_get hc)
/-- without a row: saved -/
theorem j_tailS {x : Nat} (F : MF μ x) (hlt : Γ.1.stackTraces = false) {L L1 : Lo} (hL : ∀ q, lvs id 0 L = lvs (fun c => if c = 53 then q else α c) 0 L1) (h53 : gI σ 53 (-1) = 0)
    (hwp : wp t x pc L1 [] σ (fun r σ1 => ∃ z, r = .inl (some (vI z)) ∧ (gI σ1 53 (-1) = 0 ∧ Q (some (vI z)) (wd Γ.2.1 α σ1)))) : J Γ μ pc L [] (wd Γ.2.1 α σ) t Q := by
  intro p e R s m args below meth c H locs cells slots ls Qs B E hc hs hl hP hD hS
  have hP0 : va_P Γ.2.2.1 clB (wd Γ.2.1 α σ ++ []) H := by rw [List.append_nil]; exact hP
  have hD0 : va_D (AJ Γ.2.2.2.2) (wd Γ.2.1 α σ ++ []) := by rw [List.append_nil]; exact hD
  obtain ⟨α', hα'⟩ : ∃ α' : Nat → Nat, α' = fun c => if c = 53 then H.size else α c := ⟨_, rfl⟩
  have ea : ∀ c, c < 53 → α' c = α c := fun c hc => by rw [hα']; exact if_neg (by omega)
  have e53 : α' 53 = H.size := by rw [hα']; exact if_pos rfl
  have hge := B.2.2.2.2.2.2.2.2.1
  refine tail_core (st1 := []) (L1 := L1) (pc := pc) (α' := α') (w1 := fun σ1 => if gI σ1 53 (-1) = 0 then wd Γ.2.1 α σ1 else []) F hlt B E hc hs (by rw [hL H.size, ← hα'] at hl; exact hl) ⟨fun i j hi hj e => ?_, by show 0 ≤ gI σ 53 (-1); rw [h53]; decide, by show gI σ 53 (-1) < 2147483648; rw [h53]; decide⟩ (by rw [wd_al ea h53]; exact (wd_cl h53).mpr hP) hS (fun c hc => ?_) (fun σ1 H1 h1 hP1 => ?_) ?_
  · have lt1 : ∀ c, c < 53 → α c < H.size := fun c hc => (hP0 c _ (wd_at hc)).lt
    by_cases hi3 : i < 53
    · by_cases hj3 : j < 53
      · rw [ea i hi3, ea j hj3] at e
        exact hD0.1 i j _ _ (wd_at hi3) (wd_at hj3) e
      · rw [ea i hi3, show j = 53 by omega, e53] at e
        have := lt1 i hi3; omega
    · by_cases hj3 : j < 53
      · rw [ea j hj3, show i = 53 by omega, e53] at e
        have := lt1 j hj3; omega
      · omega
  · by_cases h : c < 53
    · rw [ea c h]; exact hD0.2 c _ (wd_at h)
    · rw [show c = 53 by omega, e53]; exact Nat.le_trans hge hS.1
  · have h0 : gI σ1 53 (-1) = 0 := (h1 (-1)).trans h53
    show va_P Γ.2.2.1 clB (if gI σ1 53 (-1) = 0 then wd Γ.2.1 α σ1 else []) H1 ∧ va_D (AJ Γ.2.2.2.2) (if gI σ1 53 (-1) = 0 then wd Γ.2.1 α σ1 else [])
    rw [if_pos h0]
    rw [wd_al ea h0] at hP1
    have := wd_D2 (u := []) h53 h0 hD0
    rw [List.append_nil] at this
    exact ⟨(wd_cl h0).mp hP1, this⟩
  · obtain ⟨n, r, σ1, hex, z, hr, h0, hq⟩ := hwp
    refine ⟨n, r, σ1, hex, z, hr, ?_⟩
    rw [if_pos h0]; exact hq
/-- with a row: bounds, ranks -/
theorem sA_I {σ : St} {n : Int} {c : Nat} (hc : c < 53) (j : Int) : gI (sA σ n) c j = gI σ c j := if_neg (by omega)
theorem sA_L {σ : St} {n : Int} {c : Nat} (hc : c < 53) (j : Int) : gL (sA σ n) c j = gL σ c j := if_neg (by omega)
theorem sA_n {σ : St} {n : Int} : gI (sA σ n) 53 (-1) = n := by
  show (if (53 : Nat) = 53 then (if (-1 : Int) = -1 then n else 0) else gI σ 53 (-1)) = n
  rw [if_pos rfl, if_pos rfl]
theorem sA_0 {σ : St} {n : Int} {j : Int} : gL (sA σ n) 53 j = 0 := by
  show (if (53 : Nat) = 53 then (0 : BitVec 64) else gL σ 53 j) = 0
  rw [if_pos rfl]
theorem j_tailR {x : Nat} (F : MF μ x) (hlt : Γ.1.stackTraces = false) {L L1 : Lo} {q : Nat} {n : Int} (hn : 0 < n ∧ n ≤ 1000) (hL : lvs id 0 L = lvs (fun c => if c = 53 then q else α c) 0 L1) (h53 : gI σ 53 (-1) = 0)
    (hwp : wp t x pc L1 [] (sA σ n) (fun r σ1 => ∃ z, r = .inl (some (vI z)) ∧ Q (some (vI z)) (wd Γ.2.1 α (sI σ1 53 (-1) 0)))) : J Γ μ pc L [] (wd Γ.2.1 α σ ++ [((q, .inl (Γ.2.1 1, (n.toNat, .inr (.inl (fun _ => 0))))) : Nat × va_E)]) t Q := by
  intro p e R s m args below meth c H locs cells slots ls Qs B E hc hs hl hP hD hS
  obtain ⟨α', hα'⟩ : ∃ α' : Nat → Nat, α' = fun c => if c = 53 then q else α c := ⟨_, rfl⟩
  have ea : ∀ c, c < 53 → α' c = α c := fun c hc => by rw [hα']; exact if_neg (by omega)
  have e53 : α' 53 = q := by rw [hα']; exact if_pos rfl
  have hlen : (wd Γ.2.1 α σ).length = 53 := by rw [wd_len, h53]; rfl
  have hq53 : (wd Γ.2.1 α σ ++ [((q, .inl (Γ.2.1 1, (n.toNat, .inr (.inl (fun _ => 0))))) : Nat × va_E)])[53]? = some ((q, .inl (Γ.2.1 1, (n.toNat, .inr (.inl (fun _ => 0))))) : Nat × va_E) := by
    rw [← hlen]; exact app_get
  have hcell : cE Γ.2.1 α' (sA σ n) 53 = .inl (Γ.2.1 1, (n.toNat, .inr (.inl (fun _ => 0)))) := by
    rw [cE_105 rfl, sA_n]
    have : (fun j : Nat => Int64.ofBitVec (gL (sA σ n) 53 (j : Int))) = fun _ => 0 := funext fun j => by rw [sA_0]; rfl
    rw [this]
  have hwd : wd Γ.2.1 α' (sA σ n) = wd Γ.2.1 α σ ++ [((q, .inl (Γ.2.1 1, (n.toNat, .inr (.inl (fun _ => 0))))) : Nat × va_E)] := by
    rw [wd_row (n := n) (by omega) sA_n, hcell, e53]
    congr 1
    unfold wd
    rw [h53]
    apply List.map_congr_left
    intro c hc
    have hc : c < 53 := List.mem_range.mp hc
    rw [ea c hc, cE_al ea hc, cE_loc hc (fun j => sA_I hc j) (fun j => sA_L hc j)]
  have hP1 : va_P Γ.2.2.1 clA (wd Γ.2.1 α' (sA σ n)) H := by
    rw [hwd]
    refine va_P.app ((wd_cl h53).mpr (fun k p hk => hP k p ((app_lt (get_lt hk)).trans hk))) (fun k p hk => ?_)
    have hk0 : k = 0 := by
      have := get_lt hk
      simp at this
      exact this
    subst hk0
    cases hk
    exact hP 53 _ hq53
  refine tail_core (st1 := []) (L1 := L1) (pc := pc) (α' := α') (w1 := fun σ1 => wd Γ.2.1 α (sI σ1 53 (-1) 0)) F hlt B E hc hs (by rw [hL, ← hα'] at hl; exact hl) ⟨fun i j hi hj e => ?_, by show 0 ≤ gI (sA σ n) 53 (-1); rw [sA_n]; omega, by show gI (sA σ n) 53 (-1) < 2147483648; rw [sA_n]; omega⟩ hP1 hS (fun c hc => ?_) (fun σ1 H1 h1 hP2 => ?_) hwp
  · by_cases hi3 : i < 53
    · by_cases hj3 : j < 53
      · rw [ea i hi3, ea j hj3] at e
        exact hD.1 i j _ _ (wd_at hi3) (wd_at hj3) e
      · rw [ea i hi3, show j = 53 by omega, e53] at e
        have := hD.1 i 53 _ _ (wd_at hi3) hq53 e
        omega
    · by_cases hj3 : j < 53
      · rw [ea j hj3, show i = 53 by omega, e53] at e
        have := hD.1 j 53 _ _ (wd_at hj3) hq53 e.symm
        omega
      · omega
  · by_cases h : c < 53
    · rw [ea c h]; exact hD.2 c _ (wd_at h)
    · rw [show c = 53 by omega, e53]; exact hD.2 53 _ hq53
  · have h0 : gI (sI σ1 53 (-1) 0) 53 (-1) = 0 := by rw [gI_sI, if_pos ⟨rfl, rfl⟩]
    have h9 : gI σ1 53 (-1) = n := (h1 (-1)).trans sA_n
    refine ⟨(wd_cl h0).mp (fun k p hk => ?_), va_D_of (fun k p hk => ?_) hD⟩
    · have hk3 : k < 53 := by
        have := get_lt hk
        rw [wd_len, h0] at this
        exact this
      rw [wd_get hk3] at hk
      cases hk
      have := hP2 k _ (wd_getX (by rw [h9]; unfold nX; rw [if_neg (by omega)]; omega))
      rw [ea k hk3, cE_al ea hk3] at this
      rw [cE_loc (σ := σ1) (σ' := sI σ1 53 (-1) 0) hk3 (fun j => by rw [gI_sI, if_neg (by omega)]) (fun j => rfl)]
      exact this
    · have hk3 : k < 53 := by
        have := get_lt hk
        rw [wd_len, h0] at this
        exact this
      rw [wd_get hk3] at hk
      cases hk
      exact ⟨_, wd_at hk3, rfl⟩
end JTL
