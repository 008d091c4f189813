theorem eP_some {α : Type} {st : List AV} {k : AV → List AV → Option α} {r : α} (h : eP st k none = some r) : ∃ v r2, st = v :: r2 ∧ k v r2 = some r := by
  cases st with
  | nil => cases h
  | cons v r2 => exact ⟨v, r2, rfl, h⟩
theorem eO_some {α : Type} {o : Option AV} {k : AV → Option α} {r : α} (h : eO o k none = some r) : ∃ v, o = some v ∧ k v = some r := by
  cases o with
  | none => cases h
  | some v => exact ⟨v, rfl, h⟩
theorem eI_some {α : Type} {v : AV} {k : Int → Option α} {r : α} (h : eI v k none = some r) : ∃ z, v = vI z ∧ k z = some r := by
  rcases v with z | z | z | z | z <;> first | exact ⟨z, rfl, h⟩ | cases h
theorem eL_some {α : Type} {v : AV} {k : BitVec 64 → Option α} {r : α} (h : eL v k none = some r) : ∃ z, v = vL z ∧ k z = some r := by
  rcases v with z | z | z | z | z <;> first | exact ⟨z, rfl, h⟩ | cases h
theorem eD_some {α : Type} {v : AV} {k : UInt64 → Option α} {r : α} (h : eD v k none = some r) : ∃ z, v = vD z ∧ k z = some r := by
  rcases v with z | z | z | z | z <;> first | exact ⟨z, rfl, h⟩ | cases h
theorem eF_some {α : Type} {v : AV} {k : UInt32 → Option α} {r : α} (h : eF v k none = some r) : ∃ z, v = vF z ∧ k z = some r := by
  rcases v with z | z | z | z | z <;> first | exact ⟨z, rfl, h⟩ | cases h
theorem eR_some {α : Type} {v : AV} {k : Nat → Option α} {r : α} (h : eR v k none = some r) : ∃ z, v = vR z ∧ k z = some r := by
  rcases v with z | z | z | z | z <;> first | exact ⟨z, rfl, h⟩ | cases h
theorem if_some {α : Type} {c : Prop} [Decidable c] {x : Option α} {r : α} (h : (if c then x else none) = some r) : c ∧ x = some r := by
  by_cases hc : c
  · rw [if_pos hc] at h; exact ⟨hc, h⟩
  · rw [if_neg hc] at h; cases h
theorem if_negs {α : Type} {c : Prop} [Decidable c] {x y : Option α} {r : α} (h : (if c then x else y) = some r) (hc : ¬ c) : y = some r := by rwa [if_neg hc] at h
theorem len_ok {n k : Nat} (h : (eqN n k || eqN k 0) = true) (hk : eqN k 0 = false) : n = k := by
  rw [hk, Bool.or_false] at h
  exact Nat.eq_of_beq_eq_true h
def TS : List Cond := lw_tbl.filter okw
theorem ts_mem {i : Nat} {w : Cond} (h : lw_tbl[i]? = some w) (g : okw w = true) : w ∈ TS := List.mem_filter.mpr ⟨List.mem_of_getElem? h, g⟩
theorem inLF_ok {ci i x : Nat} (h : inLF ci i x = true) : Cond.fieldLink (cN ci) i (cN ci) (fT ci x).2.1 (fT ci x).2.2.1 ∈ TS := by
  obtain ⟨e, he, h2⟩ := List.any_eq_true.mp h
  have h3 := List.all_eq_true.mp LF_ok e he
  simp only [Bool.and_eq_true] at h2
  have e1 := Nat.eq_of_beq_eq_true h2.1
  have e2 := Nat.eq_of_beq_eq_true h2.2.1
  have e3 := Nat.eq_of_beq_eq_true h2.2.2
  subst e1; subst e2; subst e3
  exact ts_mem (of_decide_eq_true h3) rfl
theorem inLM_ok {ci i x : Nat} (h : inLM ci i x = true) : Cond.methodLink (cN ci) i (mY x) ∈ TS := by
  obtain ⟨e, he, h2⟩ := List.any_eq_true.mp h
  have h3 := List.all_eq_true.mp LM_ok e he
  simp only [Bool.and_eq_true] at h2
  have e1 := Nat.eq_of_beq_eq_true h2.1
  have e2 := Nat.eq_of_beq_eq_true h2.2.1
  have e3 := Nat.eq_of_beq_eq_true h2.2.2
  subst e1; subst e2; subst e3
  exact ts_mem (of_decide_eq_true h3) rfl
theorem inLN_ok {ci i x : Nat} (h : inLN ci i x = true) : Cond.methodLinkNest (cN ci) i (mY x) hostN ∈ TS := by
  obtain ⟨e, he, h2⟩ := List.any_eq_true.mp h
  have h3 := List.all_eq_true.mp LN_ok e he
  simp only [Bool.and_eq_true] at h2
  have e1 := Nat.eq_of_beq_eq_true h2.1
  have e2 := Nat.eq_of_beq_eq_true h2.2.1
  have e3 := Nat.eq_of_beq_eq_true h2.2.2
  subst e1; subst e2; subst e3
  exact ts_mem (of_decide_eq_true h3) rfl
theorem inLL_ok {ci i : Nat} {z : Int} (h : inLL ci i z = true) : Cond.constantLong (cN ci) i (Int64.ofInt z) ∈ TS := by
  obtain ⟨e, he, h2⟩ := List.any_eq_true.mp h
  have h3 := List.all_eq_true.mp LL_ok e he
  simp only [Bool.and_eq_true] at h2
  have e1 := Nat.eq_of_beq_eq_true h2.1
  have e2 := Nat.eq_of_beq_eq_true h2.2.1
  have e3 := of_decide_eq_true h2.2.2
  subst e1; subst e2; subst e3
  exact ts_mem (of_decide_eq_true h3) rfl
theorem inLC_ok {ci i : Nat} {z : Int} (h : inLC ci i z = true) : Cond.constant (cN ci) i (Int32.ofInt z) ∈ TS := by
  obtain ⟨e, he, h2⟩ := List.any_eq_true.mp h
  have h3 := List.all_eq_true.mp LC_ok e he
  simp only [Bool.and_eq_true] at h2
  have e1 := Nat.eq_of_beq_eq_true h2.1
  have e2 := Nat.eq_of_beq_eq_true h2.2.1
  have e3 := of_decide_eq_true h2.2.2
  subst e1; subst e2; subst e3
  exact ts_mem (of_decide_eq_true h3) rfl
theorem inLNa_ok {ci i x : Nat} (h : inLNa ci i x = true) : Cond.methodLink (cN ci) i (natN x) ∈ TS := by
  obtain ⟨e, he, h2⟩ := List.any_eq_true.mp h
  have h3 := List.all_eq_true.mp LNa_ok e he
  simp only [Bool.and_eq_true] at h2
  have e1 := Nat.eq_of_beq_eq_true h2.1
  have e2 := Nat.eq_of_beq_eq_true h2.2.1
  have e3 := Nat.eq_of_beq_eq_true h2.2.2
  subst e1; subst e2; subst e3
  exact ts_mem (of_decide_eq_true h3) rfl
theorem ul_0 : u_ws (cN 0) (fT 0) (nf 0) = [109, 111, 113, 115].filterMap (fun i => lw_tbl[i]?) := by decide +kernel
theorem uo_0 : (u_ws (cN 0) (fT 0) (nf 0)).all okw = true := by decide +kernel
theorem ul_1 : u_ws (cN 1) (fT 1) (nf 1) = [185, 187, 189, 191].filterMap (fun i => lw_tbl[i]?) := by decide +kernel
theorem uo_1 : (u_ws (cN 1) (fT 1) (nf 1)).all okw = true := by decide +kernel
theorem ul_2 : u_ws (cN 2) (fT 2) (nf 2) = [129, 131, 133, 135].filterMap (fun i => lw_tbl[i]?) := by decide +kernel
theorem uo_2 : (u_ws (cN 2) (fT 2) (nf 2)).all okw = true := by decide +kernel
theorem ul_3 : u_ws (cN 3) (fT 3) (nf 3) = [258].filterMap (fun i => lw_tbl[i]?) := by decide +kernel
theorem uo_3 : (u_ws (cN 3) (fT 3) (nf 3)).all okw = true := by decide +kernel
theorem ul_4 : u_ws (cN 4) (fT 4) (nf 4) = [207, 209, 211, 213, 215, 217, 219, 221, 223, 225, 227, 229, 231].filterMap (fun i => lw_tbl[i]?) := by decide +kernel
theorem uo_4 : (u_ws (cN 4) (fT 4) (nf 4)).all okw = true := by decide +kernel
theorem ul_5 : u_ws (cN 5) (fT 5) (nf 5) = [278, 280, 282, 284, 286, 288, 290, 292, 294, 296, 298].filterMap (fun i => lw_tbl[i]?) := by decide +kernel
theorem uo_5 : (u_ws (cN 5) (fT 5) (nf 5)).all okw = true := by decide +kernel
theorem ul_6 : u_ws (cN 6) (fT 6) (nf 6) = [152, 154, 156, 158, 160, 162, 164, 166].filterMap (fun i => lw_tbl[i]?) := by decide +kernel
theorem uo_6 : (u_ws (cN 6) (fT 6) (nf 6)).all okw = true := by decide +kernel
theorem ul_7 : u_ws (cN 7) (fT 7) (nf 7) = [244, 246, 248].filterMap (fun i => lw_tbl[i]?) := by decide +kernel
theorem uo_7 : (u_ws (cN 7) (fT 7) (nf 7)).all okw = true := by decide +kernel
theorem ul_8 : u_ws (cN 8) (fT 8) (nf 8) = [312, 314, 316, 318, 320, 322, 324, 326, 328, 330, 332].filterMap (fun i => lw_tbl[i]?) := by decide +kernel
theorem uo_8 : (u_ws (cN 8) (fT 8) (nf 8)).all okw = true := by decide +kernel
theorem u_in_of {ws : List Cond} {ps : List Nat} (h : ws = ps.filterMap (fun i => lw_tbl[i]?)) (g : ws.all okw = true) : ∀ w ∈ ws, w ∈ TS := by
  intro w hw
  have h1 := List.all_eq_true.mp g w hw
  rw [h] at hw
  obtain ⟨i, -, hi⟩ := List.mem_filterMap.mp hw
  exact ts_mem hi h1
theorem u_in {ci : Nat} (h : ci < 9) : ∀ w ∈ u_ws (cN ci) (fT ci) (nf ci), w ∈ TS := by
  rcases (show ci = 0 ∨ ci = 1 ∨ ci = 2 ∨ ci = 3 ∨ ci = 4 ∨ ci = 5 ∨ ci = 6 ∨ ci = 7 ∨ ci = 8 by omega) with rfl | rfl | rfl | rfl | rfl | rfl | rfl | rfl | rfl
  · exact u_in_of ul_0 uo_0
  · exact u_in_of ul_1 uo_1
  · exact u_in_of ul_2 uo_2
  · exact u_in_of ul_3 uo_3
  · exact u_in_of ul_4 uo_4
  · exact u_in_of ul_5 uo_5
  · exact u_in_of ul_6 uo_6
  · exact u_in_of ul_7 uo_7
  · exact u_in_of ul_8 uo_8
theorem f_all : (List.range 9).all (fun ci => (List.range (nf ci)).all (fun k => decide ((fT ci k).1 = cN ci) && (decide (parseFieldDescriptor (fT ci k).2.2.1 = some (fTy ci k)) && ((decide (fk ci k = 0) && decide (fTy ci k = .int)) || ((decide (fk ci k = 1) && decide (fTy ci k = .boolean)) || decide (fk ci k = 2)))))) = true := by decide +kernel
theorem f_nm : (List.range 9).all (fun ci => (List.range (nf ci)).all (fun a => (List.range (nf ci)).all (fun b => decide (a = b) || !decide ((fT ci a).2.1 = (fT ci b).2.1)))) = true := by decide +kernel
theorem f_at {ci k : Nat} (h : ci < 9) (hk : k < nf ci) : (fT ci k).1 = cN ci ∧ parseFieldDescriptor (fT ci k).2.2.1 = some (fTy ci k) ∧ ((fk ci k = 0 ∧ fTy ci k = .int) ∨ (fk ci k = 1 ∧ fTy ci k = .boolean) ∨ fk ci k = 2) := by
  have h1 := List.all_eq_true.mp (List.all_eq_true.mp f_all ci (List.mem_range.mpr h)) k (List.mem_range.mpr hk)
  simp only [Bool.and_eq_true, Bool.or_eq_true, decide_eq_true_eq] at h1
  exact h1
theorem f_apart {ci : Nat} (h : ci < 9) : ∀ a, a < nf ci → ∀ b, b < nf ci → a ≠ b → (fT ci a).2.1 ≠ (fT ci b).2.1 := by
  intro a ha b hb hn
  have h1 := List.all_eq_true.mp (List.all_eq_true.mp (List.all_eq_true.mp f_nm ci (List.mem_range.mpr h)) a (List.mem_range.mpr ha)) b (List.mem_range.mpr hb)
  simp only [Bool.or_eq_true, decide_eq_true_eq, Bool.not_eq_true', decide_eq_false_iff_not] at h1
  exact h1.resolve_left hn
theorem clA_get {ci : Nat} (h : ci < 9) : clA[ci]? = some (cN ci, fT ci, nf ci) := by
  unfold clA
  rw [List.getElem?_map, List.getElem?_range h]
  rfl
theorem int_bool {a : Int} (h : a = 0 ∨ a = 1) : narrow .boolean (.int (Int32.ofInt a)) = .int (Int32.ofInt a) ∧ fits .boolean (.int (Int32.ofInt a)) = true := by
  rcases h with rfl | rfl <;> exact ⟨rfl, rfl⟩
theorem lt_ok {a b : Nat} (h : ltN a b = true) : a < b := by simpa [ltN, Nat.blt_eq] using h
theorem cv_vI {α : Nat → Nat} {z : Int} : cv α (vI z) = .int (Int32.ofInt z) := rfl
theorem cv_vL {α : Nat → Nat} {z : BitVec 64} : cv α (vL z) = .long (Int64.ofBitVec z) := rfl
theorem cv_vD {α : Nat → Nat} {z : UInt64} : cv α (vD z) = .double z := rfl
theorem cv_vF {α : Nat → Nat} {z : UInt32} : cv α (vF z) = .float z := rfl
theorem cv_vR {α : Nat → Nat} {z : Nat} : cv α (vR z) = .ref (α z) := rfl
theorem n_lcmp (a b : BitVec 64) : lg_cmp (Int64.ofBitVec a) (Int64.ofBitVec b) = Int32.ofInt (lCmp a b) := by
  unfold lg_cmp lCmp
  have e1 : (Int64.ofBitVec b < Int64.ofBitVec a) ↔ b.slt a = true := Iff.rfl
  have e2 : (Int64.ofBitVec a = Int64.ofBitVec b) ↔ a = b := ⟨fun h => by have := congrArg Int64.toBitVec h; exact this, fun h => by rw [h]⟩
  by_cases h1 : b.slt a = true
  · have h2 : ¬ a = b := by
      rintro rfl
      simp [BitVec.slt] at h1
    simp [e1, e2, h1, h2]
  · by_cases h2 : a = b
    · subst h2; simp
    · simp [e1, e2, h1, h2]
section SND
variable {p : Program} {l : Launch} {e : Env} {R : Room} {s : State} {m : MethodId} {args : Array Value} {below : List Frame} {meth : Method} {c : Code} {H : Heap} {locs : List Loc} {cells slots : Nat} {Q : State → Prop}
set_option maxHeartbeats 40000000 in
set_option maxRecDepth 100000 in
theorem snd_ss {κ : Nat → ClassId} {α : Nat → Nat} {D : va_G} {A : Nat → Prop} {H0 : Heap} {mi pc : Nat} {en : Ent} {L : Lo} {st : List AV} {σ : St} {ls : Array Slot}
    (hx : p.tables.exec = Jvm.exec) (hb : c.code = mB mi) (hm : mi < 215) (hown : s.vm.findClass (cN (mC mi)) = some m.cls) (hts : ∀ w ∈ TS, w.before args s = true)
    (hK : va_K D clA [(κ 0, .int), (κ 1, .long)] s) (hDa : ∀ σ, va_D A (wd κ α σ))
    (hsn : 0 ≤ gI σ 53 (-1) ∧ gI σ 53 (-1) < 2147483648)
    (hcd : cd mi pc = some en)
    (hl : lv_has ls (mL mi) (lvs α 0 L)) (hP : va_P D clA (wd κ α σ) H) (hS : va_S A H0 H locs)
    {K : Nat → Lo → List AV → St → Option (Res × St)} {r : Res × St} (h : ss en pc L st σ K none = some r)
    (kk : ∀ (pc1 : Nat) (L1 : Lo) (st1 : List AV) (σ1 : St) (H1 : Heap) (locs1 : List Loc) (ls1 : Array Slot), K pc1 L1 st1 σ1 = some r → (∀ j, gI σ1 53 j = gI σ 53 j) → lv_has ls1 (mL mi) (lvs α 0 L1) → va_P D clA (wd κ α σ1) H1 → va_S A H0 H1 locs1 → W p l e R s m args below meth c H1 locs1 cells slots Q (F0 m pc1 ls1 (st1.map (cv α)))) :
    W p l e R s m args below meth c H locs cells slots Q (F0 m pc ls (st.map (cv α))) := by
  have ok := cd_ok hm hcd
  unfold okB at ok
  rw [Bool.and_eq_true, Bool.and_eq_true] at ok
  obtain ⟨hdec0, hlen, hok⟩ := ok
  have hdec := of_decide_eq_true hdec0
  clear hdec0
  obtain ⟨i, n, x, y, w, z⟩ := en
  dsimp only at hdec hlen hok
  cases i
  case iconst q =>
    have hn : n = 1 := len_ok hlen rfl
    subst hn
    refine lv_iconst hx hb hdec rfl ?_
    exact kk _ _ _ _ H locs ls h (fun _ => rfl) hl hP hS
  case bipush q =>
    have hn : n = 2 := len_ok hlen rfl
    subst hn
    refine lv_bipush hx hb hdec (of_decide_eq_true hok) ?_
    exact kk _ _ _ _ H locs ls h (fun _ => rfl) hl hP hS
  case sipush q =>
    have hn : n = 3 := len_ok hlen rfl
    subst hn
    refine lv_sipush hx hb hdec (of_decide_eq_true hok) ?_
    exact kk _ _ _ _ H locs ls h (fun _ => rfl) hl hP hS
  case lconst q =>
    have hn : n = 1 := len_ok hlen rfl
    subst hn
    refine lv_lconst hx hb hdec rfl ?_
    exact kk _ _ _ _ H locs ls h (fun _ => rfl) hl hP hS
  case fconst q =>
    have hn : n = 1 := len_ok hlen rfl
    subst hn
    obtain ⟨hq, h⟩ := if_some h
    have hq : q = 0 := Fin.ext hq
    subst hq
    refine lv_fconst0 hx hb hdec ?_
    exact kk _ _ _ _ H locs ls h (fun _ => rfl) hl hP hS
  case dconst q =>
    have hn : n = 1 := len_ok hlen rfl
    subst hn
    replace h : (if q.val = 0 then K (pc + 1) L (vD 0 :: st) σ else K (pc + 1) L (vD 0x3ff0000000000000 :: st) σ) = some r := h
    by_cases hq : q.val = 0
    · rw [if_pos hq] at h
      have hq : q = 0 := Fin.ext hq
      subst hq
      refine lv_dconst0 hx hb hdec ?_
      exact kk _ _ _ _ H locs ls h (fun _ => rfl) hl hP hS
    · rw [if_neg hq] at h
      have hq : q = 1 := Fin.ext (by have := q.isLt; omega)
      subst hq
      refine lv_dconst1 hx hb hdec ?_
      exact kk _ _ _ _ H locs ls h (fun _ => rfl) hl hP hS
  case ldc q =>
    have hn : n = 2 := len_ok hlen rfl
    subst hn
    obtain ⟨hq, h⟩ := if_some h
    try dsimp only at hq
    subst hq
    refine lv_ldc hx hb hown (hts _ (inLC_ok hok)) hdec ?_
    exact kk _ _ _ _ H locs ls h (fun _ => rfl) hl hP hS
  case ldc2_w q =>
    have hn : n = 3 := len_ok hlen rfl
    subst hn
    refine lv_ldc2 hx hb hown (hts _ (inLL_ok hok)) hdec ?_
    exact kk _ _ _ _ H locs ls h (fun _ => rfl) hl hP hS
  case iload_n q =>
    have hn : n = 1 := len_ok hlen rfl
    subst hn
    obtain ⟨v, hv, h⟩ := eO_some h
    obtain ⟨a, rfl, h⟩ := eI_some h
    refine lv_iload_n hx hb hdec rfl (lv_get hl hv) ?_
    exact kk _ _ _ _ H locs ls h (fun _ => rfl) hl hP hS
  case iload q =>
    have hn : n = 2 := len_ok hlen rfl
    subst hn
    obtain ⟨v, hv, h⟩ := eO_some h
    obtain ⟨a, rfl, h⟩ := eI_some h
    refine lv_iload hx hb hdec (lv_get hl hv) ?_
    exact kk _ _ _ _ H locs ls h (fun _ => rfl) hl hP hS
  case lload_n q =>
    have hn : n = 1 := len_ok hlen rfl
    subst hn
    obtain ⟨v, hv, h⟩ := eO_some h
    obtain ⟨a, rfl, h⟩ := eL_some h
    refine lv_lload_n hx hb hdec rfl (lv_get hl hv) ?_
    exact kk _ _ _ _ H locs ls h (fun _ => rfl) hl hP hS
  case lload q =>
    have hn : n = 2 := len_ok hlen rfl
    subst hn
    obtain ⟨v, hv, h⟩ := eO_some h
    obtain ⟨a, rfl, h⟩ := eL_some h
    refine lv_lload hx hb hdec (lv_get hl hv) ?_
    exact kk _ _ _ _ H locs ls h (fun _ => rfl) hl hP hS
  case aload_n q =>
    have hn : n = 1 := len_ok hlen rfl
    subst hn
    obtain ⟨v, hv, h⟩ := eO_some h
    obtain ⟨a, rfl, h⟩ := eR_some h
    refine lv_aload_n hx hb hdec rfl (lv_get hl hv) ?_
    exact kk _ _ _ _ H locs ls h (fun _ => rfl) hl hP hS
  case aload q =>
    have hn : n = 2 := len_ok hlen rfl
    subst hn
    obtain ⟨v, hv, h⟩ := eO_some h
    obtain ⟨a, rfl, h⟩ := eR_some h
    refine lv_aload hx hb hdec (lv_get hl hv) ?_
    exact kk _ _ _ _ H locs ls h (fun _ => rfl) hl hP hS
  case dload_n q =>
    have hn : n = 1 := len_ok hlen rfl
    subst hn
    obtain ⟨v, hv, h⟩ := eO_some h
    obtain ⟨a, rfl, h⟩ := eD_some h
    refine lv_dload_n hx hb hdec rfl (lv_get hl hv) ?_
    exact kk _ _ _ _ H locs ls h (fun _ => rfl) hl hP hS
  case dload q =>
    have hn : n = 2 := len_ok hlen rfl
    subst hn
    obtain ⟨v, hv, h⟩ := eO_some h
    obtain ⟨a, rfl, h⟩ := eD_some h
    refine lv_dload hx hb hdec (lv_get hl hv) ?_
    exact kk _ _ _ _ H locs ls h (fun _ => rfl) hl hP hS
  case fload q =>
    have hn : n = 2 := len_ok hlen rfl
    subst hn
    obtain ⟨v, hv, h⟩ := eO_some h
    obtain ⟨a, rfl, h⟩ := eF_some h
    refine lv_fload hx hb hdec (lv_get hl hv) ?_
    exact kk _ _ _ _ H locs ls h (fun _ => rfl) hl hP hS
  case istore_n q =>
    have hn : n = 1 := len_ok hlen rfl
    subst hn
    obtain ⟨v0, r0, rfl, h⟩ := eP_some h
    obtain ⟨a, rfl, h⟩ := eI_some h
    refine lv_istore_n hx hb hdec rfl hl (lt_ok hok) rfl (fun ls1 hl1 => ?_)
    exact kk _ _ _ _ H locs ls1 h (fun _ => rfl) (lv_set1 rfl hl1) hP hS
  case istore q =>
    have hn : n = 2 := len_ok hlen rfl
    subst hn
    obtain ⟨v0, r0, rfl, h⟩ := eP_some h
    obtain ⟨a, rfl, h⟩ := eI_some h
    refine lv_istore hx hb hdec hl (lt_ok hok) rfl (fun ls1 hl1 => ?_)
    exact kk _ _ _ _ H locs ls1 h (fun _ => rfl) (lv_set1 rfl hl1) hP hS
  case lstore_n q =>
    have hn : n = 1 := len_ok hlen rfl
    subst hn
    obtain ⟨v0, r0, rfl, h⟩ := eP_some h
    obtain ⟨a, rfl, h⟩ := eL_some h
    refine lv_lstore_n hx hb hdec rfl hl (lt_ok hok) rfl (fun ls1 hl1 => ?_)
    exact kk _ _ _ _ H locs ls1 h (fun _ => rfl) (lv_set2 rfl hl1) hP hS
  case lstore q =>
    have hn : n = 2 := len_ok hlen rfl
    subst hn
    obtain ⟨v0, r0, rfl, h⟩ := eP_some h
    obtain ⟨a, rfl, h⟩ := eL_some h
    refine lv_lstore hx hb hdec hl (lt_ok hok) rfl (fun ls1 hl1 => ?_)
    exact kk _ _ _ _ H locs ls1 h (fun _ => rfl) (lv_set2 rfl hl1) hP hS
  case astore_n q =>
    have hn : n = 1 := len_ok hlen rfl
    subst hn
    obtain ⟨v0, r0, rfl, h⟩ := eP_some h
    obtain ⟨a, rfl, h⟩ := eR_some h
    refine lv_astore_n hx hb hdec rfl hl (lt_ok hok) rfl (fun ls1 hl1 => ?_)
    exact kk _ _ _ _ H locs ls1 h (fun _ => rfl) (lv_set1 rfl hl1) hP hS
  case astore q =>
    have hn : n = 2 := len_ok hlen rfl
    subst hn
    obtain ⟨v0, r0, rfl, h⟩ := eP_some h
    obtain ⟨a, rfl, h⟩ := eR_some h
    refine lv_astore hx hb hdec hl (lt_ok hok) rfl (fun ls1 hl1 => ?_)
    exact kk _ _ _ _ H locs ls1 h (fun _ => rfl) (lv_set1 rfl hl1) hP hS
  case dstore q =>
    have hn : n = 2 := len_ok hlen rfl
    subst hn
    obtain ⟨v0, r0, rfl, h⟩ := eP_some h
    obtain ⟨a, rfl, h⟩ := eD_some h
    refine lv_dstore hx hb hdec hl (lt_ok hok) rfl (fun ls1 hl1 => ?_)
    exact kk _ _ _ _ H locs ls1 h (fun _ => rfl) (lv_set2 rfl hl1) hP hS
  case fstore q =>
    have hn : n = 2 := len_ok hlen rfl
    subst hn
    obtain ⟨v0, r0, rfl, h⟩ := eP_some h
    obtain ⟨a, rfl, h⟩ := eF_some h
    refine lv_fstore hx hb hdec hl (lt_ok hok) rfl (fun ls1 hl1 => ?_)
    exact kk _ _ _ _ H locs ls1 h (fun _ => rfl) (lv_set1 rfl hl1) hP hS
  case iinc q u =>
    have hn : n = 3 := len_ok hlen rfl
    subst hn
    obtain ⟨v, hv, h⟩ := eO_some h
    obtain ⟨a, rfl, h⟩ := eI_some h
    obtain ⟨k0, hk0⟩ := List.getElem?_of_mem (lvs_get (α := α) L 0 q _ hv)
    rw [Nat.zero_add] at hk0
    refine lv_iinc hx hb hdec hl hk0 (Int32.ofInt_add a u).symm (lt_ok hok) rfl (fun ls1 hl1 => ?_)
    exact kk _ _ _ _ H locs ls1 h (fun _ => rfl) (lv_set1 (v := vI (a + u)) rfl hl1) hP hS
  case dup =>
    have hn : n = 1 := len_ok hlen rfl
    subst hn
    obtain ⟨v0, r0, rfl, h⟩ := eP_some h
    obtain ⟨hc, h⟩ := if_some h
    refine lv_dup hx hb hdec (by rw [cv_cat, hc]; rfl) ?_
    exact kk _ _ _ _ H locs ls h (fun _ => rfl) hl hP hS
  case pop =>
    have hn : n = 1 := len_ok hlen rfl
    subst hn
    obtain ⟨v0, r0, rfl, h⟩ := eP_some h
    obtain ⟨hc, h⟩ := if_some h
    refine lv_pop hx hb hdec (by rw [cv_cat, hc]; rfl) ?_
    exact kk _ _ _ _ H locs ls h (fun _ => rfl) hl hP hS
  case pop2 =>
    have hn : n = 1 := len_ok hlen rfl
    subst hn
    obtain ⟨v0, r0, rfl, h⟩ := eP_some h
    obtain ⟨hc, h⟩ := if_some h
    refine lv_pop2_2 hx hb hdec (by rw [cv_cat, hc]; rfl) ?_
    exact kk _ _ _ _ H locs ls h (fun _ => rfl) hl hP hS
  case dup2 =>
    have hn : n = 1 := len_ok hlen rfl
    subst hn
    obtain ⟨v0, r0, rfl, h⟩ := eP_some h
    obtain ⟨v1, r1, rfl, h⟩ := eP_some h
    obtain ⟨hc, h⟩ := if_some h
    refine lv_dup2_11 hx hb hdec (by rw [cv_cat, hc.1]; rfl) (by rw [cv_cat, hc.2]; rfl) ?_
    exact kk _ _ _ _ H locs ls h (fun _ => rfl) hl hP hS
  case iadd =>
    have hn : n = 1 := len_ok hlen rfl
    subst hn
    obtain ⟨v0, r0, rfl, h⟩ := eP_some h
    obtain ⟨v1, r1, rfl, h⟩ := eP_some h
    obtain ⟨b, rfl, h⟩ := eI_some h
    obtain ⟨a, rfl, h⟩ := eI_some h
    have k1 := kk _ _ _ _ H locs ls h (fun _ => rfl) hl hP hS
    simp only [List.map_cons, cv_vI, cv_vL, cv_vD, cv_vF] at k1 ⊢
    rw [Int32.ofInt_add] at k1
    exact lv_iadd hx hb hdec k1
  case isub =>
    have hn : n = 1 := len_ok hlen rfl
    subst hn
    obtain ⟨v0, r0, rfl, h⟩ := eP_some h
    obtain ⟨v1, r1, rfl, h⟩ := eP_some h
    obtain ⟨b, rfl, h⟩ := eI_some h
    obtain ⟨a, rfl, h⟩ := eI_some h
    have k1 := kk _ _ _ _ H locs ls h (fun _ => rfl) hl hP hS
    simp only [List.map_cons, cv_vI, cv_vL, cv_vD, cv_vF] at k1 ⊢
    rw [Int32.ofInt_sub] at k1
    exact lv_isub hx hb hdec k1
  case imul =>
    have hn : n = 1 := len_ok hlen rfl
    subst hn
    obtain ⟨v0, r0, rfl, h⟩ := eP_some h
    obtain ⟨v1, r1, rfl, h⟩ := eP_some h
    obtain ⟨b, rfl, h⟩ := eI_some h
    obtain ⟨a, rfl, h⟩ := eI_some h
    have k1 := kk _ _ _ _ H locs ls h (fun _ => rfl) hl hP hS
    simp only [List.map_cons, cv_vI, cv_vL, cv_vD, cv_vF] at k1 ⊢
    rw [Int32.ofInt_mul] at k1
    exact lv_imul hx hb hdec k1
  case iand =>
    have hn : n = 1 := len_ok hlen rfl
    subst hn
    obtain ⟨v0, r0, rfl, h⟩ := eP_some h
    obtain ⟨v1, r1, rfl, h⟩ := eP_some h
    obtain ⟨b, rfl, h⟩ := eI_some h
    obtain ⟨a, rfl, h⟩ := eI_some h
    have k1 := kk _ _ _ _ H locs ls h (fun _ => rfl) hl hP hS
    simp only [List.map_cons, cv_vI, cv_vL, cv_vD, cv_vF] at k1 ⊢
    rw [← n_and] at k1
    exact lv_iand hx hb hdec k1
  case ior =>
    have hn : n = 1 := len_ok hlen rfl
    subst hn
    obtain ⟨v0, r0, rfl, h⟩ := eP_some h
    obtain ⟨v1, r1, rfl, h⟩ := eP_some h
    obtain ⟨b, rfl, h⟩ := eI_some h
    obtain ⟨a, rfl, h⟩ := eI_some h
    have k1 := kk _ _ _ _ H locs ls h (fun _ => rfl) hl hP hS
    simp only [List.map_cons, cv_vI, cv_vL, cv_vD, cv_vF] at k1 ⊢
    rw [← n_or] at k1
    exact lv_ior hx hb hdec k1
  case idiv =>
    have hn : n = 1 := len_ok hlen rfl
    subst hn
    obtain ⟨v0, r0, rfl, h⟩ := eP_some h
    obtain ⟨v1, r1, rfl, h⟩ := eP_some h
    obtain ⟨b, rfl, h⟩ := eI_some h
    obtain ⟨a, rfl, h⟩ := eI_some h
    obtain ⟨hc, h⟩ := if_some h
    have k1 := kk _ _ _ _ H locs ls h (fun _ => rfl) hl hP hS
    simp only [List.map_cons, cv_vI, cv_vL, cv_vD, cv_vF] at k1 ⊢
    rw [← n_div hc.1 hc.2.1 hc.2.2] at k1
    exact lv_idiv hx hb hdec (n_ne0 hc.2.1 hc.2.2) k1
  case irem =>
    have hn : n = 1 := len_ok hlen rfl
    subst hn
    obtain ⟨v0, r0, rfl, h⟩ := eP_some h
    obtain ⟨v1, r1, rfl, h⟩ := eP_some h
    obtain ⟨b, rfl, h⟩ := eI_some h
    obtain ⟨a, rfl, h⟩ := eI_some h
    obtain ⟨hc, h⟩ := if_some h
    have k1 := kk _ _ _ _ H locs ls h (fun _ => rfl) hl hP hS
    simp only [List.map_cons, cv_vI, cv_vL, cv_vD, cv_vF] at k1 ⊢
    rw [← n_rem hc.1 hc.2.1 hc.2.2] at k1
    exact lv_irem hx hb hdec (n_ne0 hc.2.1 hc.2.2) k1
  case ishl =>
    have hn : n = 1 := len_ok hlen rfl
    subst hn
    obtain ⟨v0, r0, rfl, h⟩ := eP_some h
    obtain ⟨v1, r1, rfl, h⟩ := eP_some h
    obtain ⟨b, rfl, h⟩ := eI_some h
    obtain ⟨a, rfl, h⟩ := eI_some h
    obtain ⟨hc, h⟩ := if_some h
    have k1 := kk _ _ _ _ H locs ls h (fun _ => rfl) hl hP hS
    simp only [List.map_cons, cv_vI, cv_vL, cv_vD, cv_vF] at k1 ⊢
    rw [← n_shl a hc.1 hc.2] at k1
    exact lv_ishl hx hb hdec k1
  case ishr =>
    have hn : n = 1 := len_ok hlen rfl
    subst hn
    obtain ⟨v0, r0, rfl, h⟩ := eP_some h
    obtain ⟨v1, r1, rfl, h⟩ := eP_some h
    obtain ⟨b, rfl, h⟩ := eI_some h
    obtain ⟨a, rfl, h⟩ := eI_some h
    obtain ⟨hc, h⟩ := if_some h
    have k1 := kk _ _ _ _ H locs ls h (fun _ => rfl) hl hP hS
    simp only [List.map_cons, cv_vI, cv_vL, cv_vD, cv_vF] at k1 ⊢
    rw [← n_shr hc.1 hc.2.1 hc.2.2] at k1
    exact lv_ishr hx hb hdec k1
  case ladd =>
    have hn : n = 1 := len_ok hlen rfl
    subst hn
    obtain ⟨v0, r0, rfl, h⟩ := eP_some h
    obtain ⟨v1, r1, rfl, h⟩ := eP_some h
    obtain ⟨b, rfl, h⟩ := eL_some h
    obtain ⟨a, rfl, h⟩ := eL_some h
    have k1 := kk _ _ _ _ H locs ls h (fun _ => rfl) hl hP hS
    simp only [List.map_cons, cv_vI, cv_vL, cv_vD, cv_vF] at k1 ⊢
    exact lv_ladd hx hb hdec k1
  case lsub =>
    have hn : n = 1 := len_ok hlen rfl
    subst hn
    obtain ⟨v0, r0, rfl, h⟩ := eP_some h
    obtain ⟨v1, r1, rfl, h⟩ := eP_some h
    obtain ⟨b, rfl, h⟩ := eL_some h
    obtain ⟨a, rfl, h⟩ := eL_some h
    have k1 := kk _ _ _ _ H locs ls h (fun _ => rfl) hl hP hS
    simp only [List.map_cons, cv_vI, cv_vL, cv_vD, cv_vF] at k1 ⊢
    exact lv_lsub hx hb hdec k1
  case lmul =>
    have hn : n = 1 := len_ok hlen rfl
    subst hn
    obtain ⟨v0, r0, rfl, h⟩ := eP_some h
    obtain ⟨v1, r1, rfl, h⟩ := eP_some h
    obtain ⟨b, rfl, h⟩ := eL_some h
    obtain ⟨a, rfl, h⟩ := eL_some h
    have k1 := kk _ _ _ _ H locs ls h (fun _ => rfl) hl hP hS
    simp only [List.map_cons, cv_vI, cv_vL, cv_vD, cv_vF] at k1 ⊢
    exact lv_lmul hx hb hdec k1
  case land =>
    have hn : n = 1 := len_ok hlen rfl
    subst hn
    obtain ⟨v0, r0, rfl, h⟩ := eP_some h
    obtain ⟨v1, r1, rfl, h⟩ := eP_some h
    obtain ⟨b, rfl, h⟩ := eL_some h
    obtain ⟨a, rfl, h⟩ := eL_some h
    have k1 := kk _ _ _ _ H locs ls h (fun _ => rfl) hl hP hS
    simp only [List.map_cons, cv_vI, cv_vL, cv_vD, cv_vF] at k1 ⊢
    exact lv_land hx hb hdec k1
  case lor =>
    have hn : n = 1 := len_ok hlen rfl
    subst hn
    obtain ⟨v0, r0, rfl, h⟩ := eP_some h
    obtain ⟨v1, r1, rfl, h⟩ := eP_some h
    obtain ⟨b, rfl, h⟩ := eL_some h
    obtain ⟨a, rfl, h⟩ := eL_some h
    have k1 := kk _ _ _ _ H locs ls h (fun _ => rfl) hl hP hS
    simp only [List.map_cons, cv_vI, cv_vL, cv_vD, cv_vF] at k1 ⊢
    exact lv_lor hx hb hdec k1
  case lxor =>
    have hn : n = 1 := len_ok hlen rfl
    subst hn
    obtain ⟨v0, r0, rfl, h⟩ := eP_some h
    obtain ⟨v1, r1, rfl, h⟩ := eP_some h
    obtain ⟨b, rfl, h⟩ := eL_some h
    obtain ⟨a, rfl, h⟩ := eL_some h
    have k1 := kk _ _ _ _ H locs ls h (fun _ => rfl) hl hP hS
    simp only [List.map_cons, cv_vI, cv_vL, cv_vD, cv_vF] at k1 ⊢
    exact lv_lxor hx hb hdec k1
  case lshl =>
    have hn : n = 1 := len_ok hlen rfl
    subst hn
    obtain ⟨v0, r0, rfl, h⟩ := eP_some h
    obtain ⟨v1, r1, rfl, h⟩ := eP_some h
    obtain ⟨b, rfl, h⟩ := eI_some h
    obtain ⟨a, rfl, h⟩ := eL_some h
    have k1 := kk _ _ _ _ H locs ls h (fun _ => rfl) hl hP hS
    simp only [List.map_cons, cv_vI, cv_vL, cv_vD, cv_vF] at k1 ⊢
    exact lv_lshl hx hb hdec (n_lshl a b) k1
  case lushr =>
    have hn : n = 1 := len_ok hlen rfl
    subst hn
    obtain ⟨v0, r0, rfl, h⟩ := eP_some h
    obtain ⟨v1, r1, rfl, h⟩ := eP_some h
    obtain ⟨b, rfl, h⟩ := eI_some h
    obtain ⟨a, rfl, h⟩ := eL_some h
    have k1 := kk _ _ _ _ H locs ls h (fun _ => rfl) hl hP hS
    simp only [List.map_cons, cv_vI, cv_vL, cv_vD, cv_vF] at k1 ⊢
    exact lv_lushr hx hb hdec (n_lushr a b) k1
  case lshr =>
    have hn : n = 1 := len_ok hlen rfl
    subst hn
    obtain ⟨v0, r0, rfl, h⟩ := eP_some h
    obtain ⟨v1, r1, rfl, h⟩ := eP_some h
    obtain ⟨b, rfl, h⟩ := eI_some h
    obtain ⟨a, rfl, h⟩ := eL_some h
    have k1 := kk _ _ _ _ H locs ls h (fun _ => rfl) hl hP hS
    simp only [List.map_cons, cv_vI, cv_vL, cv_vD, cv_vF] at k1 ⊢
    exact lv_lshr hx hb hdec (n_lshr a b) k1
  case lcmp =>
    have hn : n = 1 := len_ok hlen rfl
    subst hn
    obtain ⟨v0, r0, rfl, h⟩ := eP_some h
    obtain ⟨v1, r1, rfl, h⟩ := eP_some h
    obtain ⟨b, rfl, h⟩ := eL_some h
    obtain ⟨a, rfl, h⟩ := eL_some h
    have k1 := kk _ _ _ _ H locs ls h (fun _ => rfl) hl hP hS
    simp only [List.map_cons, cv_vI, cv_vL, cv_vD, cv_vF] at k1 ⊢
    rw [← n_lcmp] at k1
    exact W.lcmp hx hb hdec k1
  case dcmp op =>
    have hn : n = 1 := len_ok hlen rfl
    subst hn
    obtain ⟨v0, r0, rfl, h⟩ := eP_some h
    obtain ⟨v1, r1, rfl, h⟩ := eP_some h
    obtain ⟨b, rfl, h⟩ := eD_some h
    obtain ⟨a, rfl, h⟩ := eD_some h
    have k1 := kk _ _ _ _ H locs ls h (fun _ => rfl) hl hP hS
    simp only [List.map_cons, cv_vI, cv_vL, cv_vD, cv_vF] at k1 ⊢
    rw [Int32.ofInt_toInt] at k1
    exact lv_dcmp hx hb hdec k1
  case ddiv =>
    have hn : n = 1 := len_ok hlen rfl
    subst hn
    obtain ⟨v0, r0, rfl, h⟩ := eP_some h
    obtain ⟨v1, r1, rfl, h⟩ := eP_some h
    obtain ⟨b, rfl, h⟩ := eD_some h
    obtain ⟨a, rfl, h⟩ := eD_some h
    obtain ⟨hc, h⟩ := if_some h
    have k1 := kk _ _ _ _ H locs ls h (fun _ => rfl) hl hP hS
    simp only [List.map_cons, cv_vI, cv_vL, cv_vD, cv_vF] at k1 ⊢
    exact lv_ddiv hx hb hdec hc k1
  case fdiv =>
    have hn : n = 1 := len_ok hlen rfl
    subst hn
    obtain ⟨v0, r0, rfl, h⟩ := eP_some h
    obtain ⟨v1, r1, rfl, h⟩ := eP_some h
    obtain ⟨b, rfl, h⟩ := eF_some h
    obtain ⟨a, rfl, h⟩ := eF_some h
    obtain ⟨hc, h⟩ := if_some h
    have k1 := kk _ _ _ _ H locs ls h (fun _ => rfl) hl hP hS
    simp only [List.map_cons, cv_vI, cv_vL, cv_vD, cv_vF] at k1 ⊢
    exact lv_fdiv hx hb hdec hc k1
  case i2l =>
    have hn : n = 1 := len_ok hlen rfl
    subst hn
    obtain ⟨v0, r0, rfl, h⟩ := eP_some h
    obtain ⟨a, rfl, h⟩ := eI_some h
    obtain ⟨hc, h⟩ := if_some h
    have k1 := kk _ _ _ _ H locs ls h (fun _ => rfl) hl hP hS
    simp only [List.map_cons, cv_vI, cv_vL, cv_vD, cv_vF] at k1 ⊢
    exact lv_i2l hx hb hdec (n_i2l hc) k1
  case l2i =>
    have hn : n = 1 := len_ok hlen rfl
    subst hn
    obtain ⟨v0, r0, rfl, h⟩ := eP_some h
    obtain ⟨a, rfl, h⟩ := eL_some h
    have k1 := kk _ _ _ _ H locs ls h (fun _ => rfl) hl hP hS
    simp only [List.map_cons, cv_vI, cv_vL, cv_vD, cv_vF] at k1 ⊢
    exact lv_l2i hx hb hdec (n_l2i a) k1
  case i2d =>
    have hn : n = 1 := len_ok hlen rfl
    subst hn
    obtain ⟨v0, r0, rfl, h⟩ := eP_some h
    obtain ⟨a, rfl, h⟩ := eI_some h
    have k1 := kk _ _ _ _ H locs ls h (fun _ => rfl) hl hP hS
    simp only [List.map_cons, cv_vI, cv_vL, cv_vD, cv_vF] at k1 ⊢
    exact lv_i2d hx hb hdec k1
  case i2f =>
    have hn : n = 1 := len_ok hlen rfl
    subst hn
    obtain ⟨v0, r0, rfl, h⟩ := eP_some h
    obtain ⟨a, rfl, h⟩ := eI_some h
    have k1 := kk _ _ _ _ H locs ls h (fun _ => rfl) hl hP hS
    simp only [List.map_cons, cv_vI, cv_vL, cv_vD, cv_vF] at k1 ⊢
    exact lv_i2f hx hb hdec k1
  case f2d =>
    have hn : n = 1 := len_ok hlen rfl
    subst hn
    obtain ⟨v0, r0, rfl, h⟩ := eP_some h
    obtain ⟨a, rfl, h⟩ := eF_some h
    obtain ⟨hc, h⟩ := if_some h
    have k1 := kk _ _ _ _ H locs ls h (fun _ => rfl) hl hP hS
    simp only [List.map_cons, cv_vI, cv_vL, cv_vD, cv_vF] at k1 ⊢
    exact lv_f2d hx hb hdec hc k1
  case goto off =>
    have hn : n = 3 := len_ok hlen rfl
    subst hn
    exact lv_goto hx hb hdec (of_decide_eq_true hok) (kk _ _ _ _ H locs ls h (fun _ => rfl) hl hP hS)
  case if_icmp q off =>
    have hn : n = 3 := len_ok hlen rfl
    subst hn
    have ht := of_decide_eq_true hok
    cases q
    case eq =>
      obtain ⟨v0, r0, rfl, h⟩ := eP_some h
      obtain ⟨v1, r1, rfl, h⟩ := eP_some h
      obtain ⟨b, rfl, h⟩ := eI_some h
      obtain ⟨a, rfl, h⟩ := eI_some h
      obtain ⟨hc, h⟩ := if_some h
      have e1 := n_eq hc.1 hc.2
      have e2 := n_lt hc.1 hc.2
      have e3 := n_lt hc.2 hc.1
      have e4 := n_le hc.1 hc.2
      have e5 := n_le hc.2 hc.1
      by_cases hq : a = b
      · rw [if_pos hq] at h
        refine lv_icmp_eq hx hb hdec ht (fun hr => ?_) (fun hr => ?_)
        · first | exact kk _ _ _ _ H locs ls h (fun _ => rfl) hl hP hS | (exfalso; simp only [gt_iff_lt, ge_iff_le, e1, e2, e3, e4, e5] at hr; omega)
        · exfalso; simp only [gt_iff_lt, ge_iff_le, ne_eq, e1, e2, e3, e4, e5] at hr; omega
      · rw [if_neg hq] at h
        refine lv_icmp_eq hx hb hdec ht (fun hr => ?_) (fun hr => ?_)
        · exfalso; simp only [gt_iff_lt, ge_iff_le, ne_eq, e1, e2, e3, e4, e5] at hr; omega
        · exact kk _ _ _ _ H locs ls h (fun _ => rfl) hl hP hS
    case ne =>
      obtain ⟨v0, r0, rfl, h⟩ := eP_some h
      obtain ⟨v1, r1, rfl, h⟩ := eP_some h
      obtain ⟨b, rfl, h⟩ := eI_some h
      obtain ⟨a, rfl, h⟩ := eI_some h
      obtain ⟨hc, h⟩ := if_some h
      have e1 := n_eq hc.1 hc.2
      have e2 := n_lt hc.1 hc.2
      have e3 := n_lt hc.2 hc.1
      have e4 := n_le hc.1 hc.2
      have e5 := n_le hc.2 hc.1
      by_cases hq : a = b
      · rw [if_pos hq] at h
        refine lv_icmp_ne hx hb hdec ht (fun hr => ?_) (fun hr => ?_)
        · exfalso; simp only [gt_iff_lt, ge_iff_le, ne_eq, e1, e2, e3, e4, e5] at hr; omega
        · exact kk _ _ _ _ H locs ls h (fun _ => rfl) hl hP hS
      · rw [if_neg hq] at h
        refine lv_icmp_ne hx hb hdec ht (fun hr => ?_) (fun hr => ?_)
        · exact kk _ _ _ _ H locs ls h (fun _ => rfl) hl hP hS
        · exfalso; simp only [gt_iff_lt, ge_iff_le, ne_eq, e1, e2, e3, e4, e5] at hr; omega
    case lt =>
      obtain ⟨v0, r0, rfl, h⟩ := eP_some h
      obtain ⟨v1, r1, rfl, h⟩ := eP_some h
      obtain ⟨b, rfl, h⟩ := eI_some h
      obtain ⟨a, rfl, h⟩ := eI_some h
      obtain ⟨hc, h⟩ := if_some h
      have e1 := n_eq hc.1 hc.2
      have e2 := n_lt hc.1 hc.2
      have e3 := n_lt hc.2 hc.1
      have e4 := n_le hc.1 hc.2
      have e5 := n_le hc.2 hc.1
      by_cases hq : a < b
      · rw [if_pos hq] at h
        refine lv_icmp_lt hx hb hdec ht (fun hr => ?_) (fun hr => ?_)
        · first | exact kk _ _ _ _ H locs ls h (fun _ => rfl) hl hP hS | (exfalso; simp only [gt_iff_lt, ge_iff_le, e1, e2, e3, e4, e5] at hr; omega)
        · exfalso; simp only [gt_iff_lt, ge_iff_le, ne_eq, e1, e2, e3, e4, e5] at hr; omega
      · rw [if_neg hq] at h
        refine lv_icmp_lt hx hb hdec ht (fun hr => ?_) (fun hr => ?_)
        · exfalso; simp only [gt_iff_lt, ge_iff_le, ne_eq, e1, e2, e3, e4, e5] at hr; omega
        · exact kk _ _ _ _ H locs ls h (fun _ => rfl) hl hP hS
    case ge =>
      obtain ⟨v0, r0, rfl, h⟩ := eP_some h
      obtain ⟨v1, r1, rfl, h⟩ := eP_some h
      obtain ⟨b, rfl, h⟩ := eI_some h
      obtain ⟨a, rfl, h⟩ := eI_some h
      obtain ⟨hc, h⟩ := if_some h
      have e1 := n_eq hc.1 hc.2
      have e2 := n_lt hc.1 hc.2
      have e3 := n_lt hc.2 hc.1
      have e4 := n_le hc.1 hc.2
      have e5 := n_le hc.2 hc.1
      by_cases hq : a < b
      · rw [if_pos hq] at h
        refine lv_icmp_ge hx hb hdec ht (fun hr => ?_) (fun hr => ?_)
        · exfalso; simp only [gt_iff_lt, ge_iff_le, ne_eq, e1, e2, e3, e4, e5] at hr; omega
        · exact kk _ _ _ _ H locs ls h (fun _ => rfl) hl hP hS
      · rw [if_neg hq] at h
        refine lv_icmp_ge hx hb hdec ht (fun hr => ?_) (fun hr => ?_)
        · exact kk _ _ _ _ H locs ls h (fun _ => rfl) hl hP hS
        · exfalso; simp only [gt_iff_lt, ge_iff_le, ne_eq, e1, e2, e3, e4, e5] at hr; omega
    case gt =>
      obtain ⟨v0, r0, rfl, h⟩ := eP_some h
      obtain ⟨v1, r1, rfl, h⟩ := eP_some h
      obtain ⟨b, rfl, h⟩ := eI_some h
      obtain ⟨a, rfl, h⟩ := eI_some h
      obtain ⟨hc, h⟩ := if_some h
      have e1 := n_eq hc.1 hc.2
      have e2 := n_lt hc.1 hc.2
      have e3 := n_lt hc.2 hc.1
      have e4 := n_le hc.1 hc.2
      have e5 := n_le hc.2 hc.1
      by_cases hq : b < a
      · rw [if_pos hq] at h
        refine lv_icmp_gt hx hb hdec ht (fun hr => ?_) (fun hr => ?_)
        · first | exact kk _ _ _ _ H locs ls h (fun _ => rfl) hl hP hS | (exfalso; simp only [gt_iff_lt, ge_iff_le, e1, e2, e3, e4, e5] at hr; omega)
        · exfalso; simp only [gt_iff_lt, ge_iff_le, ne_eq, e1, e2, e3, e4, e5] at hr; omega
      · rw [if_neg hq] at h
        refine lv_icmp_gt hx hb hdec ht (fun hr => ?_) (fun hr => ?_)
        · exfalso; simp only [gt_iff_lt, ge_iff_le, ne_eq, e1, e2, e3, e4, e5] at hr; omega
        · exact kk _ _ _ _ H locs ls h (fun _ => rfl) hl hP hS
    case le =>
      obtain ⟨v0, r0, rfl, h⟩ := eP_some h
      obtain ⟨v1, r1, rfl, h⟩ := eP_some h
      obtain ⟨b, rfl, h⟩ := eI_some h
      obtain ⟨a, rfl, h⟩ := eI_some h
      obtain ⟨hc, h⟩ := if_some h
      have e1 := n_eq hc.1 hc.2
      have e2 := n_lt hc.1 hc.2
      have e3 := n_lt hc.2 hc.1
      have e4 := n_le hc.1 hc.2
      have e5 := n_le hc.2 hc.1
      by_cases hq : b < a
      · rw [if_pos hq] at h
        refine lv_icmp_le hx hb hdec ht (fun hr => ?_) (fun hr => ?_)
        · exfalso; simp only [gt_iff_lt, ge_iff_le, ne_eq, e1, e2, e3, e4, e5] at hr; omega
        · exact kk _ _ _ _ H locs ls h (fun _ => rfl) hl hP hS
      · rw [if_neg hq] at h
        refine lv_icmp_le hx hb hdec ht (fun hr => ?_) (fun hr => ?_)
        · exact kk _ _ _ _ H locs ls h (fun _ => rfl) hl hP hS
        · exfalso; simp only [gt_iff_lt, ge_iff_le, ne_eq, e1, e2, e3, e4, e5] at hr; omega
  case ifCond q off =>
    have hn : n = 3 := len_ok hlen rfl
    subst hn
    have ht := of_decide_eq_true hok
    cases q
    case eq =>
      obtain ⟨v0, r0, rfl, h⟩ := eP_some h
      obtain ⟨a, rfl, h⟩ := eI_some h
      obtain ⟨hc, h⟩ := if_some h
      have hz : inR 0 := by decide
      have e1 : Int32.ofInt a = 0 ↔ a = 0 := n_eq hc hz
      have e2 : Int32.ofInt a < 0 ↔ a < 0 := n_lt hc hz
      have e3 : 0 < Int32.ofInt a ↔ 0 < a := n_lt hz hc
      have e4 : Int32.ofInt a ≤ 0 ↔ a ≤ 0 := n_le hc hz
      have e5 : 0 ≤ Int32.ofInt a ↔ 0 ≤ a := n_le hz hc
      by_cases hq : a = 0
      · rw [if_pos hq] at h
        refine lv_if_eq hx hb hdec ht (fun hr => ?_) (fun hr => ?_)
        · exact kk _ _ _ _ H locs ls h (fun _ => rfl) hl hP hS
        · exfalso; simp only [gt_iff_lt, ge_iff_le, ne_eq, e1, e2, e3, e4, e5] at hr; omega
      · rw [if_neg hq] at h
        refine lv_if_eq hx hb hdec ht (fun hr => ?_) (fun hr => ?_)
        · exfalso; simp only [gt_iff_lt, ge_iff_le, ne_eq, e1, e2, e3, e4, e5] at hr; omega
        · exact kk _ _ _ _ H locs ls h (fun _ => rfl) hl hP hS
    case ne =>
      obtain ⟨v0, r0, rfl, h⟩ := eP_some h
      obtain ⟨a, rfl, h⟩ := eI_some h
      obtain ⟨hc, h⟩ := if_some h
      have hz : inR 0 := by decide
      have e1 : Int32.ofInt a = 0 ↔ a = 0 := n_eq hc hz
      have e2 : Int32.ofInt a < 0 ↔ a < 0 := n_lt hc hz
      have e3 : 0 < Int32.ofInt a ↔ 0 < a := n_lt hz hc
      have e4 : Int32.ofInt a ≤ 0 ↔ a ≤ 0 := n_le hc hz
      have e5 : 0 ≤ Int32.ofInt a ↔ 0 ≤ a := n_le hz hc
      by_cases hq : a = 0
      · rw [if_pos hq] at h
        refine lv_if_ne hx hb hdec ht (fun hr => ?_) (fun hr => ?_)
        · exfalso; simp only [gt_iff_lt, ge_iff_le, ne_eq, e1, e2, e3, e4, e5] at hr; omega
        · exact kk _ _ _ _ H locs ls h (fun _ => rfl) hl hP hS
      · rw [if_neg hq] at h
        refine lv_if_ne hx hb hdec ht (fun hr => ?_) (fun hr => ?_)
        · exact kk _ _ _ _ H locs ls h (fun _ => rfl) hl hP hS
        · exfalso; simp only [gt_iff_lt, ge_iff_le, ne_eq, e1, e2, e3, e4, e5] at hr; omega
    case lt =>
      obtain ⟨v0, r0, rfl, h⟩ := eP_some h
      obtain ⟨a, rfl, h⟩ := eI_some h
      obtain ⟨hc, h⟩ := if_some h
      have hz : inR 0 := by decide
      have e1 : Int32.ofInt a = 0 ↔ a = 0 := n_eq hc hz
      have e2 : Int32.ofInt a < 0 ↔ a < 0 := n_lt hc hz
      have e3 : 0 < Int32.ofInt a ↔ 0 < a := n_lt hz hc
      have e4 : Int32.ofInt a ≤ 0 ↔ a ≤ 0 := n_le hc hz
      have e5 : 0 ≤ Int32.ofInt a ↔ 0 ≤ a := n_le hz hc
      by_cases hq : a < 0
      · rw [if_pos hq] at h
        refine lv_if_lt hx hb hdec ht (fun hr => ?_) (fun hr => ?_)
        · exact kk _ _ _ _ H locs ls h (fun _ => rfl) hl hP hS
        · exfalso; simp only [gt_iff_lt, ge_iff_le, ne_eq, e1, e2, e3, e4, e5] at hr; omega
      · rw [if_neg hq] at h
        refine lv_if_lt hx hb hdec ht (fun hr => ?_) (fun hr => ?_)
        · exfalso; simp only [gt_iff_lt, ge_iff_le, ne_eq, e1, e2, e3, e4, e5] at hr; omega
        · exact kk _ _ _ _ H locs ls h (fun _ => rfl) hl hP hS
    case ge =>
      obtain ⟨v0, r0, rfl, h⟩ := eP_some h
      obtain ⟨a, rfl, h⟩ := eI_some h
      obtain ⟨hc, h⟩ := if_some h
      have hz : inR 0 := by decide
      have e1 : Int32.ofInt a = 0 ↔ a = 0 := n_eq hc hz
      have e2 : Int32.ofInt a < 0 ↔ a < 0 := n_lt hc hz
      have e3 : 0 < Int32.ofInt a ↔ 0 < a := n_lt hz hc
      have e4 : Int32.ofInt a ≤ 0 ↔ a ≤ 0 := n_le hc hz
      have e5 : 0 ≤ Int32.ofInt a ↔ 0 ≤ a := n_le hz hc
      by_cases hq : a < 0
      · rw [if_pos hq] at h
        refine lv_if_ge hx hb hdec ht (fun hr => ?_) (fun hr => ?_)
        · exfalso; simp only [gt_iff_lt, ge_iff_le, ne_eq, e1, e2, e3, e4, e5] at hr; omega
        · exact kk _ _ _ _ H locs ls h (fun _ => rfl) hl hP hS
      · rw [if_neg hq] at h
        refine lv_if_ge hx hb hdec ht (fun hr => ?_) (fun hr => ?_)
        · exact kk _ _ _ _ H locs ls h (fun _ => rfl) hl hP hS
        · exfalso; simp only [gt_iff_lt, ge_iff_le, ne_eq, e1, e2, e3, e4, e5] at hr; omega
    case gt =>
      obtain ⟨v0, r0, rfl, h⟩ := eP_some h
      obtain ⟨a, rfl, h⟩ := eI_some h
      obtain ⟨hc, h⟩ := if_some h
      have hz : inR 0 := by decide
      have e1 : Int32.ofInt a = 0 ↔ a = 0 := n_eq hc hz
      have e2 : Int32.ofInt a < 0 ↔ a < 0 := n_lt hc hz
      have e3 : 0 < Int32.ofInt a ↔ 0 < a := n_lt hz hc
      have e4 : Int32.ofInt a ≤ 0 ↔ a ≤ 0 := n_le hc hz
      have e5 : 0 ≤ Int32.ofInt a ↔ 0 ≤ a := n_le hz hc
      by_cases hq : 0 < a
      · rw [if_pos hq] at h
        refine lv_if_gt hx hb hdec ht (fun hr => ?_) (fun hr => ?_)
        · exact kk _ _ _ _ H locs ls h (fun _ => rfl) hl hP hS
        · exfalso; simp only [gt_iff_lt, ge_iff_le, ne_eq, e1, e2, e3, e4, e5] at hr; omega
      · rw [if_neg hq] at h
        refine lv_if_gt hx hb hdec ht (fun hr => ?_) (fun hr => ?_)
        · exfalso; simp only [gt_iff_lt, ge_iff_le, ne_eq, e1, e2, e3, e4, e5] at hr; omega
        · exact kk _ _ _ _ H locs ls h (fun _ => rfl) hl hP hS
    case le =>
      obtain ⟨v0, r0, rfl, h⟩ := eP_some h
      obtain ⟨a, rfl, h⟩ := eI_some h
      obtain ⟨hc, h⟩ := if_some h
      have hz : inR 0 := by decide
      have e1 : Int32.ofInt a = 0 ↔ a = 0 := n_eq hc hz
      have e2 : Int32.ofInt a < 0 ↔ a < 0 := n_lt hc hz
      have e3 : 0 < Int32.ofInt a ↔ 0 < a := n_lt hz hc
      have e4 : Int32.ofInt a ≤ 0 ↔ a ≤ 0 := n_le hc hz
      have e5 : 0 ≤ Int32.ofInt a ↔ 0 ≤ a := n_le hz hc
      by_cases hq : 0 < a
      · rw [if_pos hq] at h
        refine lv_if_le hx hb hdec ht (fun hr => ?_) (fun hr => ?_)
        · exfalso; simp only [gt_iff_lt, ge_iff_le, ne_eq, e1, e2, e3, e4, e5] at hr; omega
        · exact kk _ _ _ _ H locs ls h (fun _ => rfl) hl hP hS
      · rw [if_neg hq] at h
        refine lv_if_le hx hb hdec ht (fun hr => ?_) (fun hr => ?_)
        · exact kk _ _ _ _ H locs ls h (fun _ => rfl) hl hP hS
        · exfalso; simp only [gt_iff_lt, ge_iff_le, ne_eq, e1, e2, e3, e4, e5] at hr; omega
  case tableswitch d lo hi offs =>
    simp only [okI, Bool.and_eq_true, decide_eq_true_eq] at hok
    obtain ⟨o1, o2, o3, o4, o5⟩ := hok
    obtain ⟨v0, r0, rfl, h⟩ := eP_some h
    obtain ⟨a, rfl, h⟩ := eI_some h
    obtain ⟨hc, h⟩ := if_some h
    have ea := n_toInt hc
    by_cases hq : lo ≤ a ∧ a ≤ hi
    · rw [if_pos hq] at h
      have hlt : (a - lo).toNat < offs.size := by omega
      have hof : offs[(a - lo).toNat]? = some (offs.getD (a - lo).toNat 0) := by simp [Array.getD, hlt]
      have hnn := of_decide_eq_true (List.all_eq_true.mp o2 (offs.getD (a - lo).toNat 0) (Array.mem_def.mp (Array.mem_of_getElem? hof)))
      refine lv_tableIn (off := offs.getD (a - lo).toNat 0) (tgt := ((pc : Int) + offs.getD (a - lo).toNat 0).toNat) hx hb hdec (by rw [ea]; omega) (by rw [ea]; omega) (by rw [ea]; exact hof) (by omega) ?_
      exact kk _ _ _ _ H locs ls h (fun _ => rfl) hl hP hS
    · rw [if_neg hq] at h
      refine lv_tableOut (tgt := ((pc : Int) + d).toNat) hx hb hdec (by rw [ea]; omega) (by omega) ?_
      exact kk _ _ _ _ H locs ls h (fun _ => rfl) hl hP hS
  case getfield q =>
    have hn : n = 3 := len_ok hlen rfl
    subst hn
    simp only [okI, Bool.and_eq_true] at hok
    obtain ⟨o1, o2, o3, o4⟩ := hok
    have o2 : x < nf (mC mi) := by simpa [ltN, Nat.blt_eq] using o2
    have o4 : mC mi < 9 := by simpa [ltN, Nat.blt_eq] using o4
    have o3 := Nat.eq_of_beq_eq_true o3
    try dsimp only at o2 o3
    obtain ⟨v0, r0, rfl, h⟩ := eP_some h
    obtain ⟨a, rfl, h⟩ := eR_some h
    obtain ⟨hc, h⟩ := if_some h
    try dsimp only at hc h
    rw [o3] at hc h
    have hlt := lc_lt (c := a) (by omega)
    obtain ⟨f1, f2, f3⟩ := f_at o4 o2
    have hg := wd_get (κ := κ) (α := α) (σ := σ) hlt
    rw [cE_obj (by omega), hc] at hg
    refine va_get (v := if fk (mC mi) x = 2 then Value.ref (α (rf a x)) else .int (Int32.ofInt (gI σ a (x : Nat)))) hx hb hts (u_in o4) hown hK hP a hg (clA_get o4) x o2 (hts _ (inLF_ok o1)) (fun x0 h0 => by rw [← f1]; exact h0) ?_ hdec ?_
    · rw [List.getElem?_map, List.getElem?_range o2]; rfl
    · by_cases hk2 : fk (mC mi) x = 2
      · rw [if_pos hk2] at h ⊢; exact kk _ _ _ _ H locs ls h (fun _ => rfl) hl hP hS
      · rw [if_neg hk2] at h ⊢; exact kk _ _ _ _ H locs ls h (fun _ => rfl) hl hP hS
  case putfield q =>
    have hn : n = 3 := len_ok hlen rfl
    subst hn
    simp only [okI, Bool.and_eq_true] at hok
    obtain ⟨o1, o2, o3, o4, o5⟩ := hok
    have o2 : x < nf (mC mi) := by simpa [ltN, Nat.blt_eq] using o2
    have o4 : mC mi < 9 := by simpa [ltN, Nat.blt_eq] using o4
    have o3 := Nat.eq_of_beq_eq_true o3
    try dsimp only at o2 o3
    obtain ⟨v0, r0, rfl, h⟩ := eP_some h
    obtain ⟨v1, r1, rfl, h⟩ := eP_some h
    obtain ⟨a, rfl, h⟩ := eI_some h
    obtain ⟨o, rfl, h⟩ := eR_some h
    obtain ⟨⟨hc, hfk⟩, h⟩ := if_some h
    try dsimp only at hc hfk h
    rw [o3] at hc hfk
    have hlt := lc_lt (c := o) (by omega)
    obtain ⟨f1, f2, f3⟩ := f_at o4 o2
    have hg := wd_get (κ := κ) (α := α) (σ := σ) hlt
    have hg0 := hg
    rw [cE_obj (by omega), hc] at hg
    have hty : narrow (fTy (mC mi) x) (.int (Int32.ofInt a)) = .int (Int32.ofInt a) ∧ fits (fTy (mC mi) x) (.int (Int32.ofInt a)) = true := by
      rcases f3 with ⟨g1, g2⟩ | ⟨g1, g2⟩ | g1
      · rw [g2]; exact ⟨rfl, rfl⟩
      · rw [g2]; exact int_bool (by omega)
      · omega
    refine va_put hx hb hts (u_in o4) (fTy (mC mi)) (fun k hk => (f_at o4 hk).2.1) (f_apart o4) hown hK hP (hDa σ) hS o hg (clA_get o4) x o2 (hts _ (inLF_ok o1)) (fun x0 h0 => by rw [← f1]; exact h0) (by simpa using o5) f2 hty.1 hty.2 (by simpa using o2) hdec (fun H1 locs1 hP1 _ hS1 => ?_)
    refine kk _ _ _ _ H1 locs1 ls h (fun j => by rw [gI_sI, if_neg (by omega)]) hl ?_ hS1
    rw [wd_set (σ := σ) (σ' := sI σ o (x : Nat) a) (by rw [gI_sI, if_neg (by omega)]) ?_ (fun d hd => cE_sI hd)] at hP1
    · exact hP1
    · rw [cE_obj (by omega), hc]
      congr 2
      apply List.ext_getElem?
      intro k
      by_cases hk : k < nf (mC mi)
      · rw [List.getElem?_set, List.getElem?_map, List.getElem?_map, List.getElem?_range hk]
        by_cases hkx : x = k
        · subst hkx
          rw [if_pos rfl, if_pos (by simpa using hk)]
          have : ¬ fk (mC mi) x = 2 := by omega
          simp [this, gI_sI, cv_vI]
        · rw [if_neg hkx]
          have : ¬ ((k : Int) = (x : Int)) := by omega
          simp [gI_sI, this, cv_vI]
      · rw [List.getElem?_eq_none (by simp; omega), List.getElem?_eq_none (by simp; omega)]
  case iaload =>
    have hn : n = 1 := len_ok hlen rfl
    subst hn
    obtain ⟨v0, r0, rfl, h⟩ := eP_some h
    obtain ⟨v1, r1, rfl, h⟩ := eP_some h
    obtain ⟨b, rfl, h⟩ := eI_some h
    obtain ⟨a, rfl, h⟩ := eR_some h
    obtain ⟨hc, h⟩ := if_some h
    have hlt := lc_lt (c := a) (by omega)
    have hg := wd_get (κ := κ) (α := α) (σ := σ) hlt
    rw [cE_101 hc.1] at hg
    have hll := ln_lt hlt
    refine va_iald hx hb hK hP a 0 hg rfl (n_in hc.2.1 hc.2.2 hll) hdec ?_
    rw [n_nat hc.2.1 (by omega)]
    have k1 := kk _ _ _ _ H locs ls h (fun _ => rfl) hl hP hS
    simp only [List.map_cons, cv_vI, cv_vL, cv_vD, cv_vF, Int.toNat_of_nonneg hc.2.1] at k1 ⊢
    exact k1
  case laload =>
    have hn : n = 1 := len_ok hlen rfl
    subst hn
    obtain ⟨v0, r0, rfl, h⟩ := eP_some h
    obtain ⟨v1, r1, rfl, h⟩ := eP_some h
    obtain ⟨b, rfl, h⟩ := eI_some h
    obtain ⟨a, rfl, h⟩ := eR_some h
    by_cases hx1 : x = 1
    · simp only [hx1, if_true] at h
      obtain ⟨hc, h⟩ := if_some h
      have ha := lc_105 hc.1
      subst ha
      have hg := wd_getX (κ := κ) (α := α) (σ := σ) (c := 53) (by unfold nX; rw [if_neg (by omega)]; omega)
      rw [cE_105 hc.1] at hg
      refine va_lald hx hb hK hP 53 1 hg rfl (n_in hc.2.1 (by omega) (by omega)) hdec ?_
      rw [n_nat hc.2.1 (by omega)]
      have k1 := kk _ _ _ _ H locs ls h (fun _ => rfl) hl hP hS
      simp only [List.map_cons, cv_vI, cv_vL, cv_vD, cv_vF, Int.toNat_of_nonneg hc.2.1] at k1 ⊢
      exact k1
    · have h := if_negs h hx1
      obtain ⟨hc, h⟩ := if_some h
      have hlt := lc_lt (c := a) (by omega)
      have hg := wd_get (κ := κ) (α := α) (σ := σ) hlt
      rw [cE_102 hc.1] at hg
      have hll := ln_lt hlt
      refine va_lald hx hb hK hP a 1 hg rfl (n_in hc.2.1 hc.2.2 hll) hdec ?_
      rw [n_nat hc.2.1 (by omega)]
      have k1 := kk _ _ _ _ H locs ls h (fun _ => rfl) hl hP hS
      simp only [List.map_cons, cv_vI, cv_vL, cv_vD, cv_vF, Int.toNat_of_nonneg hc.2.1] at k1 ⊢
      exact k1
  case iastore =>
    have hn : n = 1 := len_ok hlen rfl
    subst hn
    obtain ⟨v0, r0, rfl, h⟩ := eP_some h
    obtain ⟨v1, r1, rfl, h⟩ := eP_some h
    obtain ⟨v2, r2, rfl, h⟩ := eP_some h
    obtain ⟨b, rfl, h⟩ := eI_some h
    obtain ⟨i, rfl, h⟩ := eI_some h
    obtain ⟨a, rfl, h⟩ := eR_some h
    obtain ⟨hc, h⟩ := if_some h
    have hlt := lc_lt (c := a) (by omega)
    have hg := wd_get (κ := κ) (α := α) (σ := σ) hlt
    rw [cE_101 hc.1] at hg
    have hll := ln_lt hlt
    refine va_iast hx hb hK hP (hDa σ) hS a 0 hg rfl (n_in hc.2.1 hc.2.2 hll) hdec (fun H1 locs1 hP1 _ hS1 => ?_)
    refine kk _ _ _ _ H1 locs1 ls h (fun j => by rw [gI_sI, if_neg (by omega)]) hl ?_ hS1
    rw [wd_set (σ := σ) (σ' := sI σ a i b) (by rw [gI_sI, if_neg (by omega)]) ?_ (fun d hd => cE_sI hd)] at hP1
    · exact hP1
    · rw [cE_101 hc.1, n_nat hc.2.1 (by omega)]
      rw [upd_conc hc.2.1 (fun _ => rfl)]
      congr 3
      congr 1
      funext j
      simp [gI_sI]
  case lastore =>
    have hn : n = 1 := len_ok hlen rfl
    subst hn
    obtain ⟨v0, r0, rfl, h⟩ := eP_some h
    obtain ⟨v1, r1, rfl, h⟩ := eP_some h
    obtain ⟨v2, r2, rfl, h⟩ := eP_some h
    obtain ⟨b, rfl, h⟩ := eL_some h
    obtain ⟨i, rfl, h⟩ := eI_some h
    obtain ⟨a, rfl, h⟩ := eR_some h
    by_cases hx1 : x = 1
    · simp only [hx1, if_true] at h
      obtain ⟨hc, h⟩ := if_some h
      have ha := lc_105 hc.1
      subst ha
      have hg := wd_getX (κ := κ) (α := α) (σ := σ) (c := 53) (by unfold nX; rw [if_neg (by omega)]; omega)
      rw [cE_105 hc.1] at hg
      refine va_last hx hb hK hP (hDa σ) hS 53 1 hg rfl (n_in hc.2.1 (by omega) (by omega)) hdec (fun H1 locs1 hP1 _ hS1 => ?_)
      refine kk _ _ _ _ H1 locs1 ls h (fun j => rfl) hl ?_ hS1
      rw [wd_set (σ := σ) (σ' := sL σ 53 i b) rfl ?_ (fun d hd => cE_sL hd)] at hP1
      · exact hP1
      · rw [cE_105 hc.1, n_nat hc.2.1 (by omega)]
        congr 4
        refine congrArg Sum.inl (funext fun j => ?_)
        rw [gL_sL]
        unfold vp_updL
        by_cases hj : j = i.toNat
        · rw [if_pos hj, if_pos ⟨rfl, by omega⟩]
        · rw [if_neg hj, if_neg (by rintro ⟨-, q⟩; omega)]
    · have h := if_negs h hx1
      obtain ⟨hc, h⟩ := if_some h
      have hlt := lc_lt (c := a) (by omega)
      have hg := wd_get (κ := κ) (α := α) (σ := σ) hlt
      rw [cE_102 hc.1] at hg
      have hll := ln_lt hlt
      refine va_last hx hb hK hP (hDa σ) hS a 1 hg rfl (n_in hc.2.1 hc.2.2 hll) hdec (fun H1 locs1 hP1 _ hS1 => ?_)
      refine kk _ _ _ _ H1 locs1 ls h (fun j => rfl) hl ?_ hS1
      rw [wd_set (σ := σ) (σ' := sL σ a i b) rfl ?_ (fun d hd => cE_sL hd)] at hP1
      · exact hP1
      · rw [cE_102 hc.1, n_nat hc.2.1 (by omega)]
        congr 4
        refine congrArg Sum.inl (funext fun j => ?_)
        rw [gL_sL]
        unfold vp_updL
        by_cases hj : j = i.toNat
        · rw [if_pos hj, if_pos ⟨rfl, by omega⟩]
        · rw [if_neg hj, if_neg (by rintro ⟨-, q⟩; omega)]
  case arraylength =>
    have hn : n = 1 := len_ok hlen rfl
    subst hn
    obtain ⟨v0, r0, rfl, h⟩ := eP_some h
    obtain ⟨a, rfl, h⟩ := eR_some h
    obtain ⟨hc, h⟩ := if_some h
    have hlt := lc_lt (c := a) (by omega)
    have hg := wd_get (κ := κ) (α := α) (σ := σ) hlt
    rcases hc with hc | hc
    · rw [cE_101 hc] at hg
      refine va_alen (v := Int32.ofInt (ln a)) hx hb hK hP a 0 hg rfl rfl hdec ?_
      exact kk _ _ _ _ H locs ls h (fun _ => rfl) hl hP hS
    · rw [cE_102 hc] at hg
      refine va_alen (v := Int32.ofInt (ln a)) hx hb hK hP a 1 hg rfl rfl hdec ?_
      exact kk _ _ _ _ H locs ls h (fun _ => rfl) hl hP hS
  all_goals exact nomatch (show (none : Option (Res × St)) = some r from h)
end SND
