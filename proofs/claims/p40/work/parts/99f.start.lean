/-! the start: the tables, the statics, the constants, the script -/
theorem cj_start {s : State} {b : Nat} (hts : ∀ w ∈ lw_tbl, w.before #[Value.ref b] s = true) (hgv : (Jvm.Cond.and given_1 narrow_1).before #[Value.ref b] s = true) : ∃ (κ : Nat → ClassId) (D : va_G), ∀ (l : Launch) (ks : KS × Nat), CJ (l, (κ, (D, ks))) s := by
  have hT : ∀ w ∈ TS, w.before #[Value.ref b] s = true := fun w hw => hts w (List.mem_filter.mp hw).1
  have hF := flat_of_before _ hgv
  have key : ∀ ci : Nat, ∃ (cC : ClassId) (iS : Nat → Nat), (ci < 9 → u_Kn s (cN ci) (fT ci) (nf ci) cC iS) ∧ ((ci = 9 → u_Kn s nSB fSB 4 cC iS) ∧ (ci = 10 → u_Kn s nST fST 4 cC iS)) := by
    intro ci
    by_cases h : ci < 9
    · obtain ⟨cC, iS, hk⟩ := u_known (C := cN ci) (T := fT ci) (N := nf ci) (n := nf ci) hT (u_in h) (hT _ (inst_in h))
      exact ⟨cC, iS, fun _ => hk, fun k => by omega, fun k => by omega⟩
    · by_cases h9 : ci = 9
      · obtain ⟨cC, iS, hk⟩ := u_known (C := nSB) (T := fSB) (N := 4) (n := 4) hT uSB_in (hT _ ji_9)
        exact ⟨cC, iS, fun k => absurd k h, fun _ => hk, fun k => by omega⟩
      · obtain ⟨cC, iS, hk⟩ := u_known (C := nST) (T := fST) (N := 4) (n := 4) hT uST_in (hT _ ji_10)
        exact ⟨cC, iS, fun k => absurd k h, fun k => absurd k h9, fun _ => hk⟩
  obtain ⟨cI, kI, mI, i1, i2, i3⟩ := Cond.arrayClass_spec (hts _ aw_0)
  obtain ⟨cJ, kJ, mJ, j1, j2, j3⟩ := Cond.arrayClass_spec (hts _ aw_1)
  obtain ⟨cB, kB, mB', b1, b2, b3⟩ := Cond.arrayClass_spec (hts _ aw_2)
  obtain ⟨m3, c3, k3, p1, p2, p3, p4, p5⟩ := arrayOverA_spec (hts _ aw_3)
  obtain ⟨m4, c4, k4, q1, q2, q3, q4, q5⟩ := arrayOverA_spec (hts _ aw_4)
  have e3 : m3 = cI := Option.some.inj (p1.symm.trans i1)
  have e4 : m4 = c3 := Option.some.inj (q1.symm.trans p5)
  subst e3
  subst e4
  have hK : va_K (fun ci => Classical.choose (key ci), fun ci => Classical.choose (Classical.choose_spec (key ci))) clB [(m3, .int), (cJ, .long), (cB, .byte), (m4, .array .int), (c4, .array (.array .int))] s := by
    refine ⟨fun ci q hq => ?_, fun k q hk => ?_⟩
    · have h := Classical.choose_spec (Classical.choose_spec (key ci))
      by_cases h9 : ci < 9
      · have e : clB[ci]? = some (cN ci, fT ci, nf ci) := (List.getElem?_append_left (by
          have : clA.length = 9 := rfl
          omega)).trans (clA_get h9)
        rw [e] at hq
        cases hq
        exact h.1 h9
      · by_cases h10 : ci = 9
        · subst h10
          rw [clB_9] at hq
          cases hq
          exact h.2.1 rfl
        · by_cases h11 : ci = 10
          · subst h11
            rw [clB_10] at hq
            cases hq
            exact h.2.2 rfl
          · rw [List.getElem?_eq_none (by have : clB.length = 11 := rfl
                                          omega)] at hq
            cases hq
    · match k, hk with
      | 0, hk => cases hk; exact ⟨fun n z => ⟨fun k h => (by cases h), kI, i2, mI, i3⟩, i1⟩
      | 1, hk => cases hk; exact ⟨fun n z => ⟨fun k h => (by cases h), kJ, j2, mJ, j3⟩, j1⟩
      | 2, hk => cases hk; exact ⟨fun n z => ⟨fun k h => (by cases h), kB, b2, mB', b3⟩, b1⟩
      | 3, hk => cases hk; exact ⟨fun n z => ⟨fun k h => (by cases h), k3, p3, m3, p4⟩, p5⟩
      | 4, hk => cases hk; exact ⟨fun n z => ⟨fun k h => (by cases h), k4, q3, m4, q4⟩, q5⟩
      | k + 5, hk => simp at hk
  refine ⟨fun t => if t = 0 then m3 else if t = 1 then cJ else if t = 2 then cB else if t = 3 then m4 else c4, _, fun l ks => ⟨⟨⟨fun ci q hq => ?_, fun k q hk => ?_⟩, fun w hw => va_Nw.of ?_ (hT w hw), ?_, fun e he => ?_⟩, hK, ⟨k3, p3, p4⟩, ⟨k4, q3, q4⟩, fun x hx => ?_, fun ty hty => ?_⟩⟩
  · exact hK.1 ci q ((List.getElem?_append_left (List.getElem?_eq_some_iff.mp hq).1).trans hq)
  · match k, hk with
    | 0, hk => cases hk; exact hK.2 0 _ rfl
    | 1, hk => cases hk; exact hK.2 1 _ rfl
    | k + 2, hk => simp at hk
  · have h := (List.mem_filter.mp hw).2
    unfold okw at h
    rw [Bool.and_eq_true] at h
    exact h.1
  · intro a b a0 a1 b0 b1 hne
    rcases (show a = 1 ∨ a = 2 ∨ a = 3 ∨ a = 4 ∨ a = 5 by omega) with rfl | rfl | rfl | rfl | rfl <;> rcases (show b = 1 ∨ b = 2 ∨ b = 3 ∨ b = 4 ∨ b = 5 by omega) with rfl | rfl | rfl | rfl | rfl
    · exact absurd rfl hne
    · exact va_Nc.of (hF _ nc_1_2)
    · exact va_Nc.of (hF _ nc_1_3)
    · exact va_Nc.of (hF _ nc_1_4)
    · exact va_Nc.of (hF _ nc_1_5)
    · exact va_Nc.of (hF _ nc_2_1)
    · exact absurd rfl hne
    · exact va_Nc.of (hF _ nc_2_3)
    · exact va_Nc.of (hF _ nc_2_4)
    · exact va_Nc.of (hF _ nc_2_5)
    · exact va_Nc.of (hF _ nc_3_1)
    · exact va_Nc.of (hF _ nc_3_2)
    · exact absurd rfl hne
    · exact va_Nc.of (hF _ nc_3_4)
    · exact va_Nc.of (hF _ nc_3_5)
    · exact va_Nc.of (hF _ nc_4_1)
    · exact va_Nc.of (hF _ nc_4_2)
    · exact va_Nc.of (hF _ nc_4_3)
    · exact absurd rfl hne
    · exact va_Nc.of (hF _ nc_4_5)
    · exact va_Nc.of (hF _ nc_5_1)
    · exact va_Nc.of (hF _ nc_5_2)
    · exact va_Nc.of (hF _ nc_5_3)
    · exact va_Nc.of (hF _ nc_5_4)
    · exact absurd rfl hne
  · have l9 : 8 < clA.length := by
      have : clA.length = 9 := rfl
      omega
    have h8 := (hK.1 8 _ ((List.getElem?_append_left l9).trans (clA_get (by decide)))).2.1
    have hs := hts _ (ths_in e he)
    obtain ⟨k, cf, i, a, -, -, -, -, -, hev⟩ := Cond.stringRef_spec h8 hs
    exact ⟨a, vk_R.of hs hev⟩
  · have hno : ("java/lang/AbstractStringBuilder" ≠ "java/lang/invoke/MethodHandle" ∧ "java/lang/AbstractStringBuilder" ≠ "java/lang/invoke/VarHandle") := by decide
    unfold jPV at hx
    rcases List.mem_cons.mp hx with rfl | hx
    · exact va_Nw.of rfl (sel_priv (x0 := jIL) rfl hno (hts _ jp_s) (hts _ jp_p0) (hts _ jp_i0))
    rcases List.mem_cons.mp hx with rfl | hx
    · exact va_Nw.of rfl (sel_priv (x0 := jIL) rfl hno (hts _ jp_s) (hts _ jp_p1) (hts _ jp_i1))
    rcases List.mem_cons.mp hx with rfl | hx
    · exact va_Nw.of rfl (sel_priv (x0 := jIL) rfl hno (hts _ jp_s) (hts _ jp_p2) (hts _ jp_i2))
    rcases List.mem_cons.mp hx with rfl | hx
    · exact va_Nw.of rfl (sel_priv (x0 := jIL) rfl hno (hts _ jp_s) (hts _ jp_p3) (hts _ jp_i3))
    · cases hx
  · unfold jAO at hty
    rcases List.mem_cons.mp hty with rfl | hty
    · exact over_moved (State.WarmedH.refl s).alike (hts _ aw_3)
    rcases List.mem_cons.mp hty with rfl | hty
    · exact over_moved (State.WarmedH.refl s).alike (hts _ aw_4)
    · cases hty
/-- the law's String constants -/
theorem fl_s : ∀ i, i < 12 → ∀ w ∈ lsS i, w ∈ flatC (Jvm.Cond.and given_1 narrow_1) := by
  intro i hi w hw
  have key : ∀ d n, ((flatC (Jvm.Cond.and given_1 narrow_1)).drop d).take n = lsS i → w ∈ flatC (Jvm.Cond.and given_1 narrow_1) := fun d n e => List.mem_of_mem_drop (List.mem_of_mem_take (by rw [e]; exact hw))
  rcases (show i = 0 ∨ i = 1 ∨ i = 2 ∨ i = 3 ∨ i = 4 ∨ i = 5 ∨ i = 6 ∨ i = 7 ∨ i = 8 ∨ i = 9 ∨ i = 10 ∨ i = 11 by omega) with rfl | rfl | rfl | rfl | rfl | rfl | rfl | rfl | rfl | rfl | rfl | rfl
  · exact key _ _ fl_s0
  · exact key _ _ fl_s1
  · exact key _ _ fl_s2
  · exact key _ _ fl_s3
  · exact key _ _ fl_s4
  · exact key _ _ fl_s5
  · exact key _ _ fl_s6
  · exact key _ _ fl_s7
  · exact key _ _ fl_s8
  · exact key _ _ fl_s9
  · exact key _ _ fl_s10
  · exact key _ _ fl_s11
theorem sr_i : ∀ i, i < 12 → Cond.stringRef (cN 12) (kx.getD i 0) (kt.getD i "") ∈ lw_tbl := by
  intro i hi
  rcases (show i = 0 ∨ i = 1 ∨ i = 2 ∨ i = 3 ∨ i = 4 ∨ i = 5 ∨ i = 6 ∨ i = 7 ∨ i = 8 ∨ i = 9 ∨ i = 10 ∨ i = 11 by omega) with rfl | rfl | rfl | rfl | rfl | rfl | rfl | rfl | rfl | rfl | rfl | rfl
  · exact sr_0
  · exact sr_1
  · exact sr_2
  · exact sr_3
  · exact sr_4
  · exact sr_5
  · exact sr_6
  · exact sr_7
  · exact sr_8
  · exact sr_9
  · exact sr_10
  · exact sr_11
theorem kl_sm : ∀ i, i < 12 → kl.getD i 0 < 2 ^ 31 := by decide +kernel
theorem kS_ap : ∀ i, i < 12 → ∀ j, j < 12 → Int32.ofNat (kl.getD i 0) = Int32.ofNat (kl.getD j 0) → (∀ q, q < kl.getD i 0 → (kb.getD i []).getD q 0 = (kb.getD j []).getD q 0) → i = j := by decide +kernel
/-- constants of one text are one; these have different texts -/
theorem str_start {s : State} {args : Array Value} {A : Nat → Prop} (hF : ∀ w ∈ flatC (Jvm.Cond.and given_1 narrow_1), w.before args s = true) (hA : ∀ a : Nat, a < s.heap.size → ¬ A a) : ∃ adK adV : Nat → Nat, vk_S 12 kl kb adK adV A s s.heap ∧ ∀ i, i < 12 → (tmS i).eval args s none [] s = some (.ref (adK i)) := by
  have h0 : ∀ i : Nat, ∃ q : Nat × Nat, i < 12 → (va_O "java/lang/String" q.1 A s s.heap ∧ va_OF "java/lang/String" "coder" "B" (.int 0) q.1 A s s.heap ∧ va_OF "java/lang/String" "value" "[B" (.ref q.2) q.1 A s s.heap ∧ va_T .byte q.2 (kl.getD i 0) (fun j => .int ((kb.getD i []).getD j 0)) A s s.heap) ∧ (tmS i).eval args s none [] s = some (.ref q.1) := by
    intro i
    by_cases hi : i < 12
    · have hm := fl_s i hi
      have h1 := hF _ (hm _ (List.mem_cons_self ..))
      have h2 := hF _ (hm _ (List.mem_cons_of_mem _ (List.mem_cons_self ..)))
      have h3 := hF _ (hm _ (List.mem_cons_of_mem _ (List.mem_cons_of_mem _ (List.mem_cons_self ..))))
      have h4 := hF _ (hm _ (List.mem_cons_of_mem _ (List.mem_cons_of_mem _ (List.mem_cons_of_mem _ (List.mem_cons_self ..)))))
      have h5 : ∀ j, j < kl.getD i 0 → (Cond.eq (.elem (tmV i) (.int (Int32.ofNat j))) (.int ((kb.getD i []).getD j 0))).before args s = true := fun j hj => hF _ (hm _ (List.mem_cons_of_mem _ (List.mem_cons_of_mem _ (List.mem_cons_of_mem _ (List.mem_cons_of_mem _ (List.mem_map.mpr ⟨j, List.mem_range.mpr hj, rfl⟩))))))
      obtain ⟨adK, adV, g1, g2⟩ := vk_Sof (args := args) (s := s) (N := 1) (tm := fun _ => tmS i) (len := [kl.getD i 0]) (byt := [kb.getD i []]) (A := A) (fun k hk => by
        rw [show k = 0 by omega]; exact kl_sm i hi) (fun k hk => h1) (fun k hk => h2) (fun k hk => h3) (fun k hk => by
        rw [show k = 0 by omega]; exact h4) (fun k hk j hj => by
        rw [show k = 0 by omega] at hj ⊢; exact h5 j hj) (fun a c ha hc hne => absurd (show a = c by omega) hne) hA
      exact ⟨(adK 0, adV 0), fun _ => ⟨g1.1 0 (by decide), g2 0 (by decide)⟩⟩
    · exact ⟨(0, 0), fun h => absurd h hi⟩
  obtain ⟨ad, had⟩ := Classical.axiomOfChoice h0
  refine ⟨fun i => (ad i).1, fun i => (ad i).2, ⟨fun i hi => (had i hi).1, fun i j hi hj e => ?_⟩, fun i hi => (had i hi).2⟩
  have e : (ad i).1 = (ad j).1 := e
  obtain ⟨-, -, a3, c1, a4, a5, a6, a7, a8, a9⟩ := (had i hi).1
  obtain ⟨-, -, b3, c2, b4, b5, b6, b7, b8, b9⟩ := (had j hj).1
  obtain ⟨cf, k, fi, f, cell, v1, v2, v3, v4, v5, v6⟩ := a3
  obtain ⟨cf', k', fi', f', cell', w1, w2, w3, w4, w5, w6⟩ := b3
  cases v1.symm.trans w1
  rw [← e] at w3
  cases v3.symm.trans w3
  have eV : (ad i).2 = (ad j).2 := Value.ref.inj (Option.some.inj (v5.symm.trans w5))
  rw [← eV] at b4
  cases a4.symm.trans b4
  have hlen := a8.symm.trans b8
  have hlt : kl.getD i 0 = kl.getD j 0 := by
    have s1 := kl_sm i hi
    have s2 := kl_sm j hj
    have := congrArg Int32.toNatClampNeg hlen
    rwa [Int32.toNatClampNeg_ofNat_of_lt s1, Int32.toNatClampNeg_ofNat_of_lt s2] at this
  refine kS_ap i hi j hj hlen (fun q hq => ?_)
  exact Value.int.inj (Option.some.inj ((a9.1 q hq).symm.trans (b9.1 q (by rw [← hlt]; exact hq))))
theorem fl_d {j : Nat} (hj : j < 100) : Cond.eq (.elem (.static "java/lang/Integer" "DigitOnes" "[B") (.int (Int32.ofNat j))) (.int (dOne j)) ∈ flatC (Jvm.Cond.and given_1 narrow_1) :=
  List.mem_of_mem_drop (List.mem_of_mem_take (by rw [fl_dig]; exact List.mem_map.mpr ⟨j, List.mem_range.mpr hj, rfl⟩))
/-- all that the outer walk asks of the heap's old part -/
theorem hj_start {s : State} {b L : Nat} {xs : Nat → Int32} (hts : ∀ w ∈ lw_tbl, w.before #[Value.ref b] s = true) (hgv : (Jvm.Cond.and given_1 narrow_1).before #[Value.ref b] s = true) (hbl : b < s.heap.size) (hX : va_X b L xs s s.heap) : ∃ ks : KS, ∀ (l : Launch) (κ : Nat → ClassId) (D : va_G), HJ (l, (κ, (D, (ks, s.heap.size)))) s ∧ (scB (l, (κ, (D, (ks, s.heap.size)))) = b ∧ scN (l, (κ, (D, (ks, s.heap.size)))) = L) := by
  have hF := flat_of_before _ hgv
  have hA : ∀ a : Nat, a < s.heap.size → ¬ AJ s.heap.size a := fun a h1 h2 => by
    have h2 : s.heap.size ≤ a := h2
    omega
  obtain ⟨adK, adV, hS, hE⟩ := str_start (A := AJ s.heap.size) hF hA
  obtain ⟨t, ht, hT⟩ := va_Tof (tm := .static "java/lang/Integer" "DigitOnes" "[B") (ty := .byte) (N := 100) (f := fun j => .int (dOne j)) (A := AJ s.heap.size) (by decide) (hF _ gs_5) (va_eqt (hF _ gs_6)) (fun j hj => va_eqt (hF _ (fl_d hj))) hA
  refine ⟨(fun i => if i < 12 then adK i else if i = 12 then b else if i = 13 then L else (xs (i - 14)).toBitVec.toNat, (adV, t)), fun l κ D => ⟨⟨⟨vx_Zqof (hts _ ls_1) (hts _ ls_3) (hF _ gs_1) hA, vx_Zqof (hts _ ls_2) (hts _ ls_3) (hF _ gs_2) hA⟩, ⟨fun i hi => ?_, fun i j hi hj e => ?_⟩, fun i hi => ?_, va_Zof (hts _ lz_1) (hts _ li_1) (va_eqi (hF _ gs_4)) hA, va_Zqof (hts _ lz_0) (hts _ li_0) (hF _ gs_3) hA, va_Zof (hts _ lz_2) (hts _ li_2) ht hA, hT, ?_⟩, rfl, rfl⟩⟩
  · have := hS.1 i hi
    show va_O "java/lang/String" (if i < 12 then adK i else _) _ _ _ ∧ va_OF "java/lang/String" "coder" "B" (.int 0) (if i < 12 then adK i else _) _ _ _ ∧ va_OF "java/lang/String" "value" "[B" (.ref (adV i)) (if i < 12 then adK i else _) _ _ _ ∧ va_T .byte (adV i) _ _ _ _ _
    rw [if_pos hi]
    exact this
  · have e : (if i < 12 then adK i else if i = 12 then b else if i = 13 then L else (xs (i - 14)).toBitVec.toNat) = (if j < 12 then adK j else if j = 12 then b else if j = 13 then L else (xs (j - 14)).toBitVec.toNat) := e
    rw [if_pos hi, if_pos hj] at e
    exact hS.2 i j hi hj e
  · show vk_R (cN 12) (kx.getD i 0) (kt.getD i "") (if i < 12 then adK i else _) s
    rw [if_pos hi]
    exact vk_R.of (hts _ (sr_i i hi)) (hE i hi)
  · obtain ⟨scr, g1, g2, g3, g4, g5⟩ := hX
    have e : ∀ j : Nat, Int32.ofBitVec (BitVec.ofNat 32 (if 14 + j < 12 then adK (14 + j) else if 14 + j = 12 then b else if 14 + j = 13 then L else (xs (14 + j - 14)).toBitVec.toNat)) = xs j := fun j => by
      rw [if_neg (by omega), if_neg (by omega), if_neg (by omega), Nat.add_sub_cancel_left]
      exact (congrArg Int32.ofBitVec ((BitVec.ofNat_toNat 32 _).trans (BitVec.setWidth_eq _))).trans (Int32.ofBitVec_toBitVec _)
    refine ⟨scr, g1, g2, g3, Nat.le_of_eq g4.symm, by rw [g4]; rfl, fun j hj => (g5 j hj).trans (congrArg (fun z => some (Value.int z)) (e j).symm), hA b hbl⟩
