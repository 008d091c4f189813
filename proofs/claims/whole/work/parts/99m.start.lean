/-! the start: what the tables say at the law's entry; the first state: printed by gen_init.py -/
theorem inst_in {ci : Nat} (h : ci < 10) : Cond.instantiable (cN ci) (nf ci) ∈ TS := by
  rcases (show ci = 0 ∨ ci = 1 ∨ ci = 2 ∨ ci = 3 ∨ ci = 4 ∨ ci = 5 ∨ ci = 6 ∨ ci = 7 ∨ ci = 8 ∨ ci = 9 by omega) with rfl | rfl | rfl | rfl | rfl | rfl | rfl | rfl | rfl | rfl
  · exact iw_148
  · exact iw_224
  · exact iw_168
  · exact iw_300
  · exact iw_218
  · exact iw_310
  · exact iw_187
  · exact iw_284
  · exact iw_140
  · exact iw_1376
/-- the tables at the law's entry -/
theorem cx_start {s : State} {b : Nat} (hts : ∀ w ∈ lw_tbl, w.before #[Value.ref b] s = true) (hgv : (Jvm.Cond.and given_1 narrow_1).before #[Value.ref b] s = true) : ∃ (κ : Nat → ClassId) (D : va_G), CX κ D s := by
  have hT : ∀ w ∈ TS, w.before #[Value.ref b] s = true := fun w hw => hts w (List.mem_filter.mp hw).1
  have hF := flat_of_before _ hgv
  have key : ∀ ci : Nat, ∃ (cC : ClassId) (iS : Nat → Nat), ci < 10 → u_Kn s (cN ci) (fT ci) (nf ci) cC iS := by
    intro ci
    by_cases h : ci < 10
    · obtain ⟨cC, iS, hk⟩ := u_known (C := cN ci) (T := fT ci) (N := nf ci) (n := nf ci) hT (u_in h) (hT _ (inst_in h))
      exact ⟨cC, iS, fun _ => hk⟩
    · obtain ⟨cC, iS, hk⟩ := u_known (C := cN 0) (T := fT 0) (N := nf 0) (n := nf 0) hT (u_in (by decide)) (hT _ (inst_in (by decide)))
      exact ⟨cC, iS, fun k => absurd k h⟩
  obtain ⟨cI, kI, mI, i1, i2, i3⟩ := Cond.arrayClass_spec (hts _ aw_0)
  obtain ⟨cJ, kJ, mJ, j1, j2, j3⟩ := Cond.arrayClass_spec (hts _ aw_1)
  obtain ⟨cD, kD, mD, d1, d2, d3⟩ := Cond.arrayClass_spec (hts _ aw_2)
  have hK : va_K (fun ci => Classical.choose (key ci), fun ci => Classical.choose (Classical.choose_spec (key ci))) clA [(cI, .int), (cJ, .long), (cD, .double)] s := by
    refine ⟨fun ci q hq => ?_, fun k q hk => ?_⟩
    · by_cases h : ci < 10
      · rw [clA_get h] at hq
        cases hq
        exact Classical.choose_spec (Classical.choose_spec (key ci)) h
      · rw [List.getElem?_eq_none (by have : clA.length = 10 := rfl
                                      omega)] at hq
        cases hq
    · match k, hk with
      | 0, hk => cases hk; exact ⟨fun n z => ⟨fun k h => (by cases h), kI, i2, mI, i3⟩, i1⟩
      | 1, hk => cases hk; exact ⟨fun n z => ⟨fun k h => (by cases h), kJ, j2, mJ, j3⟩, j1⟩
      | 2, hk => cases hk; exact ⟨fun n z => ⟨fun k h => (by cases h), kD, d2, mD, d3⟩, d1⟩
      | k + 3, hk => simp at hk
  refine ⟨fun t => if t = 0 then cI else if t = 1 then cJ else cD, _, hK, fun w hw => va_Nw.of ?_ (hT w hw), ?_, fun e he => ?_⟩
  · have h := (List.mem_filter.mp hw).2
    unfold okw at h
    rw [Bool.and_eq_true] at h
    exact h.1
  · intro a b a0 a1 b0 b1 hne
    rcases (show a = 1 ∨ a = 2 ∨ a = 3 ∨ a = 4 ∨ a = 5 by omega) with rfl | rfl | rfl | rfl | rfl <;> rcases (show b = 1 ∨ b = 2 ∨ b = 3 ∨ b = 4 ∨ b = 5 by omega) with rfl | rfl | rfl | rfl | rfl
    · exact absurd rfl hne
    · exact va_Nc.of (hF _ nc_1_2)
    · exact va_Nc.of (hF _ nc_1_3)
    · exact va_Nc.of (hF _ nc_1_4)
    · exact va_Nc.of (hF _ nc_1_5)
    · exact va_Nc.of (hF _ nc_2_1)
    · exact absurd rfl hne
    · exact va_Nc.of (hF _ nc_2_3)
    · exact va_Nc.of (hF _ nc_2_4)
    · exact va_Nc.of (hF _ nc_2_5)
    · exact va_Nc.of (hF _ nc_3_1)
    · exact va_Nc.of (hF _ nc_3_2)
    · exact absurd rfl hne
    · exact va_Nc.of (hF _ nc_3_4)
    · exact va_Nc.of (hF _ nc_3_5)
    · exact va_Nc.of (hF _ nc_4_1)
    · exact va_Nc.of (hF _ nc_4_2)
    · exact va_Nc.of (hF _ nc_4_3)
    · exact absurd rfl hne
    · exact va_Nc.of (hF _ nc_4_5)
    · exact va_Nc.of (hF _ nc_5_1)
    · exact va_Nc.of (hF _ nc_5_2)
    · exact va_Nc.of (hF _ nc_5_3)
    · exact va_Nc.of (hF _ nc_5_4)
    · exact absurd rfl hne
  · have h8 := (hK.1 8 _ (clA_get (by decide))).2.1
    have hs := hts _ (ths_in e he)
    obtain ⟨k, cf, i, a, -, -, -, -, -, hev⟩ := Cond.stringRef_spec h8 hs
    exact ⟨a, vk_R.of hs hev⟩
theorem hf_start {s : State} {b L : Nat} {xs : Nat → Int32} {α : Nat → Nat} {ix : Int → Int} (hts : ∀ w ∈ lw_tbl, w.before #[Value.ref b] s = true) (hgv : (Jvm.Cond.and given_1 narrow_1).before #[Value.ref b] s = true) (hα : ∀ c, c < 79 → s.heap.size ≤ α c) (h79 : α 79 = b) (hbl : b < s.heap.size) (hX : va_X b L xs s s.heap) (hL : ix (-1) = (L : Int)) (hx : ∀ j : Nat, Int32.ofInt (ix (j : Int)) = xs j) : HF α ix s.heap.size s := by
  have hF := flat_of_before _ hgv
  have hA : ∀ a : Nat, a < s.heap.size → ¬ AA α s.heap.size a := by
    rintro a h1 (⟨c, hc, e⟩ | e)
    · have := hα c hc; omega
    · omega
  refine ⟨vx_Zqof (hts _ ls_1) (hts _ ls_3) (hF _ gs_1) hA, vx_Zqof (hts _ ls_2) (hts _ ls_3) (hF _ gs_2) hA, ?_, by omega⟩
  rw [h79, hL, show (fun j : Nat => Int32.ofInt (ix (j : Int))) = xs from funext hx]
  exact hX
/-- the first state -/
def st0 (ix : Int → Int) : St := (fun c j => if c = 79 then ix j else if c = 19 then (if j = 8 then 1 else 0) else if c = 30 then (if j = 8 then 1 else 0) else if c = 41 then (if j = 2 then 1 else 0) else if c = 0 then (if j = 9 then -1 else 0) else if c = 53 then (if j = 10 then -1 else 0) else 0, (fun _ _ => 0, fun _ _ => 0))
def Pz : Pg := fun _ _ => 0
theorem Pz_tot : tot Pz = 0 := rfl
theorem Pz_ok : okP Pz := by
  refine ⟨⟨⟨by decide, by decide⟩, ⟨by decide, by decide⟩, ⟨by decide, by decide⟩, ⟨by decide, by decide⟩⟩, fun n n0 n1 => ?_, by show (0 : Int) ≤ 8; decide, by show (0 : Int) ≤ 5; decide⟩
  rw [Pz_tot] at n1
  omega
theorem stt_Pz (f : Int) : stt Pz f = 0 := by
  unfold stt
  rw [Pz_tot]
  split
  · rfl
  · split
    · rfl
    · split
      · rfl
      · split <;> rfl
theorem JV_0 (ix : Int → Int) : JV Pz 0 Pz 0 (st0 ix) := by
  obtain ⟨xs, hxs⟩ := isC_ex Pz_ok 0
  refine ⟨⟨⟨Pz_ok, by decide, by decide⟩, Pz_ok, by decide, by decide⟩, ⟨⟨⟨fun f _ _ => rfl, fun n n0 n1 => ?_⟩, ⟨⟨fun m m0 m1 => ?_, rfl⟩, fun f _ _ => ?_⟩, rfl⟩, ⟨fun i _ _ => ⟨Int.le_refl 0, (by decide : (0 : Int) < 9412)⟩, Or.inl rfl⟩, ⟨fun i _ _ => ⟨Int.le_refl 0, (by decide : (0 : Int) < 9412)⟩, Or.inl rfl⟩, Or.inl rfl⟩, ⟨xs, hxs, ⟨fun c j c0 c1 _ _ => ?_, fun j _ _ => rfl⟩, rfl, Or.inl rfl⟩, ⟨⟨Int.le_refl 0, (by decide : (0 : Int) ≤ 80)⟩, rfl, fun p _ => rfl, fun i i0 i1 => ?_⟩, ⟨rfl, (by decide : (-1 : Int) ≤ -1), (by decide : (-1 : Int) ≤ 80)⟩, ⟨⟨rfl, Or.inl rfl⟩, fun e => ?_⟩, fun a _ _ => rfl, ⟨rfl, Int.le_refl 0, (by decide : (0 : Int) ≤ 200)⟩, rfl, Int.le_refl 0, (by decide : (0 : Int) ≤ 200)⟩
  · rw [Pz_tot] at n1; omega
  · rw [Pz_tot] at m1; omega
  · rw [stt_Pz]; rfl
  · show (st0 ix).1 c j = 0
    unfold st0
    show (if c = 79 then ix j else if c = 19 then (if j = 8 then 1 else 0) else if c = 30 then (if j = 8 then 1 else 0) else if c = 41 then (if j = 2 then 1 else 0) else if c = 0 then (if j = 9 then -1 else 0) else if c = 53 then (if j = 10 then -1 else 0) else 0) = (0 : Int)
    rw [if_neg (by omega), if_neg (by omega), if_neg (by omega), if_neg (by omega), if_neg (by omega), if_neg (by omega)]
  · have h : i < 0 := i1
    omega
  · have h : (0 : Int) = 1 := e
    cases h
/-- its addresses, and its world -/
def al (qP : Nat) (aP : Nat → Nat) (qM : Nat) (aM : Nat → Nat) (qo qd b : Nat) : Nat → Nat := fun c => if c = 0 then qP else if c < 53 then aP c else if c = 53 then qM else if c < 77 then aM (c - 53) else if c = 77 then qo else if c = 78 then qd else b
def wst (κ : Nat → ClassId) (qP : Nat) (aP : Nat → Nat) (qM : Nat) (aM : Nat → Nat) (qo qd : Nat) : va_W := ((wf_PA κ qP aP ++ wf_MO κ qM aM) ++ [(qo, .inl (κ 1, zA 1 1))]) ++ [(qd, .inl (κ 2, zA 2 1))]
